/-! THE CLASS: mentions, n of predicates, LITERALS -/
def mKd (x : Int) : Int := if x = 1 then 6 else if x = 2 then 7 else if x = 3 then 14 else 15
/-- mentions -/
def cMe (G : xG_) (M : List pMn) : Prop := G 72 14 = (M.length : Int) ∧ ∀ k, k < M.length → G 78 k = mN M k ∧ G 79 k = mKd (mW M k) ∧ G 80 k = (mP M k : Int) ∧ (mK M k ≠ -1 → G 81 k = mK M k)
def mPos (M : List pMn) : Prop := ∀ k, k < M.length → mK M k = -1 ∨ 1 ≤ mK M k
/-- n of the predicates -/
def cWd (G : xG_) (q : Nat) (M : List pMn) : Prop := ∀ p : Nat, p < 16 → G (q + 2) p = pNn M p
/-- an EXPRESSION of a rule: its code lies in K -/
def cSg (G : xG_) (u : Nat) (K : pCd) (s : Nat) (E : pCd) : Prop := ∃ A C : pCd, K = A ++ E.map cOp ++ C ∧ G (u + 7) s = (A.length : Int) ∧ G (u + 8) s = ((A.length + E.length : Nat) : Int)
def cLt (G : xG_) (u : Nat) (K : pCd) (l : Nat) (x : pLt) : Prop := (x.1 = 1 ∨ x.1 = 2) ∧ G (u + 2) l = (if x.1 = 1 then 15 else 9) ∧ G (u + 3) l = x.2.1 ∧ G (u + 4) l = (x.2.2.2.1.length : Int) ∧ x.2.2.2.1.length ≤ 4 ∧ cTs G u l x.2.2.2.1 ∨
  x.1 = 3 ∧ G (u + 2) l = x.2.1 ∧ (x.2.1 = 61 ∨ x.2.1 = 257 ∨ x.2.1 = 60 ∨ x.2.1 = 258 ∨ x.2.1 = 62 ∨ x.2.1 = 259) ∧ cSg G u K (4 + 2 * l) x.2.2.2.2.1 ∧ cSg G u K (5 + 2 * l) x.2.2.2.2.2
def cLs (G : xG_) (u : Nat) (K : pCd) (L : List pLt) : Prop := G u 8 = (L.length : Int) ∧ L.length ≤ 8 ∧ ∀ l, l < L.length → cLt G u K l (L.getD l (0, 0, 0, [], [], []))
/-- what reading LITERALS leaves as it was -/
def xF2 (tell : Bool) (q u : Nat) (G G' : xG_) : Prop := ∀ a j, ¬ (a = 72 ∧ (j = 1 ∨ j = 2 ∨ j = 9 ∨ j = 12 ∨ j = 14)) → ¬ (73 ≤ a ∧ a ≤ 81) → ¬ (tell = true ∧ (a = q ∧ j = 1 ∨ a = q + 1 ∨ a = q + 2)) → ¬ (a = u ∧ (j = 6 ∨ j = 8)) → ¬ (u + 1 ≤ a ∧ a ≤ u + 6) → ¬ ((a = u + 7 ∨ a = u + 8) ∧ 4 ≤ j) → G' a j = G a j
/-- LITERALS are read -/
def cRL (S : Nat → Nat × Nat × Nat) (G : xG_) (B : Nat → Int) (n : Nat) (t : tStr) (N w q u : Nat) (tell : Bool) (s : pRs) (K : pCd) (i0 : Nat) : Prop := cXr S G B n t N w u s.2.1 K s.2.2.2.2 ∧ cPr0 S G q tell s.1 ∧ q + 10 < u ∧ cMe G s.2.2.2.1 ∧ (tell = true → cWd G q s.2.2.2.1 ∧ mPos s.2.2.2.1) ∧ cLs G u K s.2.2.1 ∧ 3 * s.2.2.2.1.length ≤ s.2.2.2.2 ∧ K.length + i0 ≤ s.2.2.2.2
theorem m_1 (M : List pMn) (y : pMn) (k : Nat) : mN (M ++ [y]) k = (if k = M.length then y.1 else mN M k) ∧ mP (M ++ [y]) k = (if k = M.length then y.2.1 else mP M k) ∧ mK (M ++ [y]) k = (if k = M.length then y.2.2.1 else mK M k) ∧ mW (M ++ [y]) k = (if k = M.length then y.2.2.2 else mW M k) := by
  unfold mN mP mK mW
  rw [getD_1]
  by_cases c : k = M.length
  · simp only [if_pos c]; exact ⟨trivial, trivial, trivial, trivial⟩
  · simp only [if_neg c]; exact ⟨trivial, trivial, trivial, trivial⟩
theorem pNn_yes {M : List pMn} {x : Int} {j : Nat} (hj : j < M.length) (h : mN M j = x ∧ mK M j ≠ -1) (hf : ∀ y, y < j → ¬ (mN M y = x ∧ mK M y ≠ -1)) : pNn M x = mK M j := by
  unfold pNn
  cases e : pFst M x M.length 0 with
  | none => exact absurd h (pFst_none _ _ e j (Nat.zero_le _) (by omega))
  | some i =>
    obtain ⟨a1, a2, a3, a4, a5⟩ := pFst_some _ _ _ e
    have : i = j := by
      rcases Nat.lt_trichotomy i j with q | q | q
      · exact absurd ⟨a3, a4⟩ (hf i q)
      · exact q
      · exact absurd h (a5 j (Nat.zero_le _) q)
    rw [this]
theorem pNn_no {M : List pMn} {x : Int} (hf : ∀ y, y < M.length → ¬ (mN M y = x ∧ mK M y ≠ -1)) : pNn M x = 0 := by
  unfold pNn
  cases e : pFst M x M.length 0 with
  | none => rfl
  | some i =>
    obtain ⟨a1, a2, a3, a4, a5⟩ := pFst_some _ _ _ e
    exact absurd ⟨a3, a4⟩ (hf i (by omega))
theorem pNn_nn {M : List pMn} (hm : mPos M) (x : Int) : 0 ≤ pNn M x := by
  unfold pNn
  cases e : pFst M x M.length 0 with
  | none => exact Int.le_refl 0
  | some i =>
    obtain ⟨a1, a2, a3, a4, a5⟩ := pFst_some _ _ _ e
    have := hm i (by omega)
    show 0 ≤ mK M i
    omega
theorem pNn_1 {M : List pMn} (hm : mPos M) (y : pMn) (x : Int) : pNn (M ++ [y]) x = if pNn M x = 0 then (if y.1 = x ∧ y.2.2.1 ≠ -1 then y.2.2.1 else 0) else pNn M x := by
  have e1 : ∀ k, k < M.length → mN (M ++ [y]) k = mN M k ∧ mK (M ++ [y]) k = mK M k := fun k hk => by
    have := m_1 M y k
    rw [if_neg (by omega), if_neg (by omega), if_neg (by omega), if_neg (by omega)] at this
    exact ⟨this.1, this.2.2.1⟩
  have e2 : mN (M ++ [y]) M.length = y.1 ∧ mK (M ++ [y]) M.length = y.2.2.1 := by
    have := m_1 M y M.length
    rw [if_pos rfl, if_pos rfl, if_pos rfl, if_pos rfl] at this
    exact ⟨this.1, this.2.2.1⟩
  cases e : pFst M x M.length 0 with
  | none =>
    have hn := pFst_none _ _ e
    have z : pNn M x = 0 := pNn_no (fun k hk => hn k (Nat.zero_le _) (by omega))
    rw [if_pos z]
    by_cases c : y.1 = x ∧ y.2.2.1 ≠ -1
    · rw [if_pos c, pNn_yes (j := M.length) (by rw [len1]; omega) (by rw [e2.1, e2.2]; exact c) (fun k hk => by rw [(e1 k hk).1, (e1 k hk).2]; exact hn k (Nat.zero_le _) (by omega)), e2.2]
    · rw [if_neg c]
      refine pNn_no (fun k hk => ?_)
      rw [len1] at hk
      by_cases ck : k = M.length
      · rw [ck, e2.1, e2.2]; exact c
      · rw [(e1 k (by omega)).1, (e1 k (by omega)).2]; exact hn k (Nat.zero_le _) (by omega)
  | some i =>
    obtain ⟨a1, a2, a3, a4, a5⟩ := pFst_some _ _ _ e
    have z : pNn M x = mK M i := pNn_yes (by omega) ⟨a3, a4⟩ (fun k hk => a5 k (Nat.zero_le _) hk)
    have := hm i (by omega)
    rw [if_neg (by rw [z]; omega), z, ← (e1 i (by omega)).2]
    exact pNn_yes (by rw [len1]; omega) (by rw [(e1 i (by omega)).1, (e1 i (by omega)).2]; exact ⟨a3, a4⟩) (fun k hk => by rw [(e1 k (by omega)).1, (e1 k (by omega)).2]; exact a5 k (Nat.zero_le _) hk)
theorem mPos_1 {M : List pMn} (hm : mPos M) {y : pMn} (hy : y.2.2.1 = -1 ∨ 1 ≤ y.2.2.1) : mPos (M ++ [y]) := by
  intro k hk
  rw [len1] at hk
  rw [(m_1 M y k).2.2.1]
  by_cases c : k = M.length
  · rw [if_pos c]; exact hy
  · rw [if_neg c]; exact hm k (by omega)
section
variable {f n N w i u q l : Nat} {S : Nat → Nat × Nat × Nat} {G G' G'' : xG_} {m : Nat × Nat} {B : Nat → Int} {t : tStr} {V V' : List (Int × Nat)} {K K' : pCd} {L : List Int} {tell : Bool} {M : List pMn}
theorem xF2.id : xF2 tell q u G G := fun _ _ _ _ _ _ _ _ => rfl
theorem xF2.tr (h : xF2 tell q u G G') (h' : xF2 tell q u G' G'') : xF2 tell q u G G'' := fun a j p1 p2 p3 p4 p5 p6 => by rw [h' a j p1 p2 p3 p4 p5 p6, h a j p1 p2 p3 p4 p5 p6]
theorem xF1.f2 (h : xF1 u G G') : xF2 tell q u G G' := fun a j p1 p2 p3 p4 p5 p6 => h a j (by omega) (by omega) (by omega) (by omega)
theorem xFt.f2 (h : xFt u l G G') : xF2 tell q u G G' := fun a j p1 p2 p3 p4 p5 p6 => h a j (by omega) (by omega) (by omega) (by omega) (by omega)
theorem xFn.f2 (h : xFn tell q G G') : xF2 tell q u G G' := fun a j p1 p2 p3 p4 p5 p6 => h a j (by omega) (fun z => p3 ⟨z.1, by omega⟩)
theorem cMe.ge (h : cMe G M) (h0 : G' 72 14 = G 72 14) (h1 : ∀ a j, 78 ≤ a → a ≤ 81 → G' a j = G a j) : cMe G' M := by
  refine ⟨by rw [h0]; exact h.1, fun k hk => ?_⟩
  rw [h1 78 k (by omega) (by omega), h1 79 k (by omega) (by omega), h1 80 k (by omega) (by omega), h1 81 k (by omega) (by omega)]
  exact h.2 k hk
theorem cWd.ge (h : cWd G q M) (h0 : ∀ j, G' (q + 2) j = G (q + 2) j) : cWd G' q M := fun p hp => by rw [h0]; exact h p hp
theorem cTs.ge {ts : pCd} (h : cTs G u l ts) (h0 : ∀ j, j < 4 * l + 4 → G' (u + 5) j = G (u + 5) j ∧ G' (u + 6) j = G (u + 6) j) (h4 : ts.length ≤ 4) : cTs G' u l ts := fun c hc => by
  rw [(h0 _ (by omega)).1, (h0 _ (by omega)).2]; exact h c hc
theorem cSg.ge {s : Nat} {E D : pCd} (h : cSg G u K s E) (h7 : G' (u + 7) s = G (u + 7) s) (h8 : G' (u + 8) s = G (u + 8) s) : cSg G' u (K ++ D) s E := by
  obtain ⟨A, C, a1, a2, a3⟩ := h
  exact ⟨A, C ++ D, by rw [a1, List.append_assoc], by rw [h7]; exact a2, by rw [h8]; exact a3⟩
/-- LITERALS stay -/
theorem cLt.ge {x : pLt} {D : pCd} (h : cLt G u K l x) (h0 : ∀ a, u + 2 ≤ a → a ≤ u + 4 → G' a l = G a l) (h5 : ∀ j, j < 4 * l + 4 → G' (u + 5) j = G (u + 5) j ∧ G' (u + 6) j = G (u + 6) j) (h7 : ∀ j, j < 6 + 2 * l → 4 ≤ j → G' (u + 7) j = G (u + 7) j ∧ G' (u + 8) j = G (u + 8) j) : cLt G' u (K ++ D) l x := by
  rcases h with ⟨a1, a2, a3, a4, a5, a6⟩ | ⟨a1, a2, a3, a4, a5⟩
  · exact .inl ⟨a1, by rw [h0 _ (by omega) (by omega)]; exact a2, by rw [h0 _ (by omega) (by omega)]; exact a3, by rw [h0 _ (by omega) (by omega)]; exact a4, a5, a6.ge h5 a5⟩
  · exact .inr ⟨a1, by rw [h0 _ (by omega) (by omega)]; exact a2, a3, a4.ge (h7 _ (by omega) (by omega)).1 (h7 _ (by omega) (by omega)).2, a5.ge (h7 _ (by omega) (by omega)).1 (h7 _ (by omega) (by omega)).2⟩
theorem cPgP.ge (h : cPgP G q) (h0 : ∀ j, 2 ≤ j → j ≠ 8 → j ≠ 12 → G' q j = G q j) : cPgP G' q := by
  unfold cPgP at h ⊢
  rw [h0 2 (by decide) (by decide) (by decide), h0 3 (by decide) (by decide) (by decide), h0 4 (by decide) (by decide) (by decide), h0 5 (by decide) (by decide) (by decide), h0 6 (by decide) (by decide) (by decide), h0 7 (by decide) (by decide) (by decide), h0 9 (by decide) (by decide) (by decide), h0 10 (by decide) (by decide) (by decide), h0 11 (by decide) (by decide) (by decide), h0 13 (by decide) (by decide) (by decide)]
  exact h
theorem cNs.ge (h : cNs G q L) (h0 : G' q 1 = G q 1) (h1 : ∀ j, G' (q + 1) j = G (q + 1) j) : cNs G' q L := ⟨by rw [h0]; exact h.1, h.2.1, fun k hk => by rw [h1]; exact h.2.2 k hk⟩
theorem cPr0.ge (h : cPr0 S G q tell L) (h3 : G' 72 3 = G 72 3) (h4 : G' 72 4 = G 72 4) (hq : ∀ j, 1 ≤ j → j ≠ 8 → j ≠ 12 → G' q j = G q j) (hn : ∀ j, G' (q + 1) j = G (q + 1) j) : cPr0 S G' q tell L := by
  obtain ⟨a1, a2, a3, a4, a5, a6, a7⟩ := h
  exact ⟨by rw [h3]; exact a1, a2, a3, by rw [h4]; exact a4, a5, a6.ge (fun j p r s => hq j (by omega) r s), a7.ge (hq 1 (by decide) (by decide) (by decide)) hn⟩
/-- one more mention -/
theorem cMe.add {k p s d : Int} {y : pMn} (h : cMe G M) (h1 : p = y.1) (h2 : k = mKd y.2.2.2) (h3 : s = (y.2.1 : Int)) (h4 : y.2.2.1 ≠ -1 → d = y.2.2.1) : cMe (xup2 (xup2 (xup2 (xup2 (xup2 G 79 M.length k) 78 M.length p) 80 M.length s) 81 M.length d) 72 14 ((M.length + 1 : Nat) : Int)) (M ++ [y]) := by
  refine ⟨by rw [xup2_s, len1], fun j hj => ?_⟩
  rw [len1] at hj
  obtain ⟨e1, e2, e3, e4⟩ := m_1 M y j
  rw [e1, e2, e3, e4]
  by_cases c : j = M.length
  · rw [if_pos c, if_pos c, if_pos c, if_pos c, c]
    refine ⟨?_, ?_, ?_, fun z => ?_⟩
    · rw [xup2_n (by omega), xup2_n (by omega), xup2_n (by omega), xup2_s]; exact h1
    · rw [xup2_n (by omega), xup2_n (by omega), xup2_n (by omega), xup2_n (by omega), xup2_s]; exact h2
    · rw [xup2_n (by omega), xup2_n (by omega), xup2_s]; exact h3
    · rw [xup2_n (by omega), xup2_s]; exact h4 z
  · rw [if_neg c, if_neg c, if_neg c, if_neg c]
    obtain ⟨a1, a2, a3, a4⟩ := h.2 j (by omega)
    have z : ∀ a, a ≠ 72 → xup2 (xup2 (xup2 (xup2 (xup2 G 79 M.length k) 78 M.length p) 80 M.length s) 81 M.length d) 72 14 ((M.length + 1 : Nat) : Int) a j = G a j := fun a ha => by
      rw [xup2_n (by omega), xup2_n (by omega), xup2_n (by omega), xup2_n (by omega), xup2_n (by omega)]
    rw [z 78 (by decide), z 79 (by decide), z 80 (by decide), z 81 (by decide)]
    exact ⟨a1, a2, a3, a4⟩
theorem mUp {k p s d : Int} {c : Nat} {x : Int} (a j : Nat) (h : ¬ (a = 72 ∧ j = 14)) (h' : ¬ (78 ≤ a ∧ a ≤ 81)) : xup2 (xup2 (xup2 (xup2 (xup2 G 79 c k) 78 c p) 80 c s) 81 c d) 72 14 x a j = G a j := by
  rw [xup2_n (by omega), xup2_n (by omega), xup2_n (by omega), xup2_n (by omega), xup2_n (by omega)]
/-- tellWidth() -/
theorem k_23 {p c : Nat} (hS : cPgS S q) (hP : cPgP G q) (hp : p < 16) (hm : mPos M) (hw : cWd G q M) {y : pMn} (hy : y.1 = (p : Int)) (hc : y.2.2.1 = (c : Int)) (h1 : 1 ≤ c) : ∃ G', c23 f q (p : Int) (c : Int) (S, G, m) = some (S, G', m) ∧ cWd G' q (M ++ [y]) ∧ ∀ a j, a ≠ q + 2 → G' a j = G a j := by
  have e := hw p hp
  by_cases z : pNn M p = 0
  · rw [z] at e
    refine ⟨xup2 G (q + 2) p (c : Int), ?_, fun x hx => ?_, fun a j h => xup2_n (by omega)⟩
    · unfold c23 c23_16
      simp (disch := omega) only [cq_gi, cq_gr, cq_a, cq_s, cq_p, cq_pr, cq_is, cq_ar, cq_ab, cq_ln, xq_nz, Option.bind_some, xup2_n, xup2_s, Int.toNat_natCast, Int.reduceToNat, if_pos, if_neg, true_and, and_true, and_self, eq_self, if_true, reduceIte, not_true_eq_false, not_false_eq_true, or_true, true_or, hS.1, hS.2.2.1, hP.2.1, e]
    · rw [pNn_1 hm]
      by_cases cx : x = p
      · rw [cx, xup2_s, if_pos z, if_pos ⟨hy, by omega⟩, hc]
      · rw [xup2_n (by omega), hw x hx, if_neg (fun k : y.1 = (x : Int) ∧ y.2.2.1 ≠ -1 => by have := k.1; omega)]
        split
        · assumption
        · rfl
  · refine ⟨G, ?_, fun x hx => ?_, fun _ _ _ => rfl⟩
    · unfold c23 c23_16
      have hne : ¬ G (q + 2) p = 0 := by rw [e]; exact z
      simp (disch := omega) only [cq_gi, cq_gr, cq_a, cq_s, cq_p, cq_pr, cq_is, cq_ar, cq_ab, cq_ln, xq_nz, Option.bind_some, xup2_n, xup2_s, Int.toNat_natCast, Int.reduceToNat, if_pos, if_neg, true_and, and_true, and_self, eq_self, if_true, reduceIte, not_true_eq_false, not_false_eq_true, or_true, true_or, hS.1, hS.2.2.1, hP.2.1, hne]
    · rw [pNn_1 hm, hw x hx]
      by_cases cx : x = p
      · rw [cx, if_neg z]
      · rw [if_neg (fun k : y.1 = (x : Int) ∧ y.2.2.1 ≠ -1 => by have := k.1; omega)]
        split
        · assumption
        · rfl
end
