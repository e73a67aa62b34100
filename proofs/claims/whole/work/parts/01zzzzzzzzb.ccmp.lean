/-! THE CLASS reads LITERALS -/
section
variable {f n N w i i' u q l F : Nat} {S : Nat → Nat × Nat × Nat} {G G' G'' : xG_} {m : Nat × Nat} {B : Nat → Int} {t : tStr} {V V' : List (Int × Nat)} {K K' : pCd} {L L' : List Int} {tell : Bool} {M : List pMn} {s : pRs}
/-- countAtoms() -/
theorem pAtoms_d (Ls : List pLt) (k : Nat) (hk : k < Ls.length) : pAtoms (Ls.drop k) = pAtoms (Ls.drop (k + 1)) + if (Ls.getD k (0, 0, 0, [], [], [])).1 = 1 then 1 else 0 := by
  rw [List.drop_eq_getElem_cons hk, getD_e hk]
  unfold pAtoms
  by_cases c : (Ls[k]).1 = 1
  · rw [if_pos c, List.filter_cons_of_pos (by simp [c])]; rfl
  · rw [if_neg c, List.filter_cons_of_neg (by simp [c])]; rfl
theorem k_89_4 {Ls : List pLt} (hr : cRu0 S G u) (h : cLs G u K Ls) : ∀ (d k a fu : Nat), k + d = Ls.length → d < fu → a ≤ k → c89_4 f fu u (a : Int) (k : Int) (S, G, m) = some (((a + pAtoms (Ls.drop k) : Nat) : Int), (S, G, m)) := by
  obtain ⟨u1, u2, ⟨us, us1, us2, _⟩, w7, w9, _⟩ := hr
  have h8 := h.1
  have hl8 := h.2.1
  intro d
  induction d with
  | zero =>
    intro k a fu h1 h2 h3
    obtain ⟨fu, rfl⟩ : ∃ t, fu = t + 1 := ⟨fu - 1, by omega⟩
    rw [List.drop_of_length_le (by omega)]
    show c89_4b (c89_4 f fu) f u _ _ _ = _
    unfold c89_4b
    simp (disch := omega) only [cq_gi, cq_gr, cq_a, cq_s, cq_p, cq_pr, cq_is, cq_ar, cq_ab, cq_ln, xq_nz, Option.bind_some, xup2_n, xup2_s, Int.toNat_natCast, Int.reduceToNat, if_pos, if_neg, true_and, and_true, and_self, eq_self, if_true, reduceIte, not_true_eq_false, not_false_eq_true, or_true, true_or, us, h8]
    rfl
  | succ d ih =>
    intro k a fu h1 h2 h3
    obtain ⟨fu, rfl⟩ : ∃ t, fu = t + 1 := ⟨fu - 1, by omega⟩
    have ek : xwr ((k : Int) + 1) = ((k + 1 : Nat) : Int) := by rw [xwr_g _ (by omega) (by omega)]; omega
    have ea : xwr ((a : Int) + 1) = ((a + 1 : Nat) : Int) := by rw [xwr_g _ (by omega) (by omega)]; omega
    have ea0 : xwr ((a : Int) + 0) = (a : Int) := by rw [xwr_g _ (by omega) (by omega)]; omega
    have hv : G (u + 2) k = 15 ↔ (Ls.getD k (0, 0, 0, [], [], [])).1 = 1 := by
      rcases h.2.2 k (by omega) with ⟨a1, a2, _⟩ | ⟨a1, a2, a3, _⟩
      · rw [a2]
        by_cases c : (Ls.getD k (0, 0, 0, [], [], [])).1 = 1
        · rw [if_pos c]; exact ⟨fun _ => c, fun _ => rfl⟩
        · rw [if_neg c]; exact ⟨fun y => absurd y (by decide), fun y => absurd y c⟩
      · rw [a2]
        exact ⟨fun y => by omega, fun y => by omega⟩
    have e1 : c89_4 f (fu + 1) u (a : Int) (k : Int) (S, G, m) = if ¬ G (u + 2) k = 15 then c89_4 f fu u (a : Int) ((k + 1 : Nat) : Int) (S, G, m) else c89_4 f fu u ((a + 1 : Nat) : Int) ((k + 1 : Nat) : Int) (S, G, m) := by
      show c89_4b (c89_4 f fu) f u _ _ _ = _
      unfold c89_4b c89_29
      clear hv
      simp (disch := omega) only [cq_gi, cq_gr, cq_a, cq_s, cq_p, cq_pr, cq_is, cq_ar, cq_ab, cq_ln, xq_nz, Option.bind_some, xup2_n, xup2_s, Int.toNat_natCast, Int.reduceToNat, if_pos, if_neg, true_and, and_true, and_self, eq_self, if_true, reduceIte, not_true_eq_false, not_false_eq_true, or_true, true_or, us, us2, w9, h8, ek, ea, ea0]
    rw [e1, pAtoms_d Ls k (by omega)]
    by_cases c : G (u + 2) k = 15
    · rw [if_neg (fun q => q c), if_pos (hv.mp c), ih (k + 1) (a + 1) fu (by omega) (by omega) (by omega)]
      have : a + 1 + pAtoms (Ls.drop (k + 1)) = a + (pAtoms (Ls.drop (k + 1)) + 1) := by omega
      rw [this]
    · rw [if_pos c, if_neg (fun y => c (hv.mpr y)), ih (k + 1) a fu (by omega) (by omega) (by omega)]
      rfl
theorem k_89 {Ls : List pLt} (hf : 20 < f) (hr : cRu0 S G u) (h : cLs G u K Ls) : c89 f u (S, G, m) = some ((pAtoms Ls : Int), (S, G, m)) := by
  have hl := h.2.1
  have := k_89_4 (f := f) (m := m) hr h Ls.length 0 0 f (by omega) (by omega) (Nat.le_refl _)
  rw [List.drop_zero, Nat.zero_add] at this
  exact this
/-- an EXPRESSION with its from and to -/
def xFs (u sl : Nat) (G G' : xG_) : Prop := ∀ a j, ¬ (a = 72 ∧ (j = 1 ∨ j = 2 ∨ j = 9 ∨ j = 12)) → ¬ (73 ≤ a ∧ a ≤ 77) → ¬ (a = u ∧ j = 6) → a ≠ u + 1 → ¬ ((a = u + 7 ∨ a = u + 8) ∧ j = sl) → G' a j = G a j
theorem xFs.f2 {sl : Nat} (h : xFs u sl G G') (h4 : 4 ≤ sl) : xF2 tell q u G G' := fun a j p1 p2 p3 p4 p5 p6 => h a j (by omega) (by omega) (by omega) (by omega) (by omega)
theorem k_seg {sl i0 : Nat} (hf : 3010 < f) (hok : tOk t) (hvi : vIn t B n) (hF : 4 * N + 2 ≤ F) (h : cXr S G B n t N w u V K i) (hK : K.length + i0 ≤ i) :
    pok (pX t F 1 0 (V, [], i)) (fun x => ∃ G', c53 f 72 0 (S, xup2 G (u + 7) sl (K.length : Int), m) = some (.inl 0, cWr S G' m (x : Int)) ∧ xFs u sl G G')
      (fun e => ∃ G1, c53 f 72 0 (S, xup2 G (u + 7) sl (K.length : Int), m) = some (.inr (), (S, G1, m)) ∧ G1 72 9 = ((K ++ e.2.1.map cOp).length : Int) ∧ G1 72 5 = (u : Int) ∧ cRuP G1 u ∧ xFs u sl G G1 ∧ i < e.2.2 ∧ (K ++ e.2.1.map cOp).length + i0 ≤ e.2.2 ∧
        xFs u sl G (xup2 G1 (u + 8) sl ((K ++ e.2.1.map cOp).length : Int)) ∧ cXr S (xup2 G1 (u + 8) sl ((K ++ e.2.1.map cOp).length : Int)) B n t N w u e.1 (K ++ e.2.1.map cOp) e.2.2 ∧ cSg (xup2 G1 (u + 8) sl ((K ++ e.2.1.map cOp).length : Int)) u (K ++ e.2.1.map cOp) sl e.2.1) := by
  have hu := h.2.2.2.1.2.1
  have h' : cXr S (xup2 G (u + 7) sl (K.length : Int)) B n t N w u V K i := h.st1 (by omega) (by omega) (by omega)
  have p := k_53 (f := f) (m := m) (F := F) hf hok hvi h' (by omega) (by omega)
  cases hp : pX t F 1 0 (V, [], i) with
  | inl x =>
    rw [hp] at p
    obtain ⟨G1, a1, a2⟩ := p
    exact ⟨G1, a1, fun a j z1 z2 z3 z4 z5 => by rw [a2 a j z1 z2 z3 z4, xup2_n (by omega)]⟩
  | inr e =>
    rw [hp] at p
    obtain ⟨G1, a1, a2, a3⟩ := p
    obtain ⟨_, q2, _, q4, _, _⟩ := pX_le F 1 0 _ e (by decide) hp
    have q2' : i < e.2.2 := q2 (by decide)
    have q4' : e.2.1.length + i ≤ 0 + e.2.2 := q4
    have hlen : (K ++ e.2.1.map cOp).length = K.length + e.2.1.length := by rw [List.length_append, List.length_map]
    refine ⟨G1, a1, a3.2.2.2.2.2.2.1, a3.2.2.2.1.1, a3.2.2.2.1.2.2.2, fun a j z1 z2 z3 z4 z5 => by rw [a2 a j z1 z2 z3 z4, xup2_n (by omega)], q2', by omega, fun a j z1 z2 z3 z4 z5 => by rw [xup2_n (by omega), a2 a j z1 z2 z3 z4, xup2_n (by omega)], a3.st1 (by omega) (by omega) (by omega), K, [], by rw [List.append_nil], ?_, ?_⟩
    · rw [xup2_n (by omega), a2 (u + 7) sl (by omega) (by omega) (by omega) (by omega), xup2_s]
    · rw [xup2_s, hlen]
theorem cSg.fs {s' : Nat} {E D : pCd} {sl : Nat} (h : cSg G u K s' E) (hu : 278 < u) (hx : xFs u sl G G') (hne : s' ≠ sl) : cSg G' u (K ++ D) s' E := h.ge (hx _ _ (by omega) (by omega) (by omega) (by omega) (by omega)) (hx _ _ (by omega) (by omega) (by omega) (by omega) (by omega))
theorem cPr0.fs {sl : Nat} (h : cPr0 S G q tell L) (hx : xFs u sl G G') (hqu : q + 10 < u) : cPr0 S G' q tell L := by
  have hq := h.2.1
  exact h.ge (hx _ _ (by omega) (by omega) (by omega) (by omega) (by omega)) (hx _ _ (by omega) (by omega) (by omega) (by omega) (by omega)) (fun j _ _ _ => hx _ _ (by omega) (by omega) (by omega) (by omega) (by omega)) (fun j => hx _ _ (by omega) (by omega) (by omega) (by omega) (by omega))
theorem cWd.fs {sl : Nat} (h : cWd G q M) (hx : xFs u sl G G') (hq : 82 < q) (hqu : q + 10 < u) : cWd G' q M := h.ge (fun j => hx _ _ (by omega) (by omega) (by omega) (by omega) (by omega))
theorem cMe.fs {sl : Nat} (h : cMe G M) (hx : xFs u sl G G') (hu : 278 < u) : cMe G' M := h.ge (hx _ _ (by omega) (by omega) (by omega) (by omega) (by omega)) (fun a k z1 z2 => hx _ _ (by omega) (by omega) (by omega) (by omega) (by omega))
theorem cLs.fs {sl : Nat} {Ls : List pLt} (h : cLs G u K Ls) (hx : xFs u sl G G') (hu : 278 < u) (hsl : 4 + 2 * Ls.length ≤ sl ∨ sl < 4) : cLs G' u (K ++ K') Ls := by
  refine ⟨by rw [hx _ _ (by omega) (by omega) (by omega) (by omega) (by omega)]; exact h.1, h.2.1, fun l hl => (h.2.2 l hl).ge (fun a z1 z2 => hx _ _ (by omega) (by omega) (by omega) (by omega) (by omega)) (fun j hj => ⟨hx _ _ (by omega) (by omega) (by omega) (by omega) (by omega), hx _ _ (by omega) (by omega) (by omega) (by omega) (by omega)⟩) (fun j hj z => ⟨hx _ _ (by omega) (by omega) (by omega) (by omega) (by omega), hx _ _ (by omega) (by omega) (by omega) (by omega) (by omega)⟩)⟩
end
