/-! THE CLASS: readProgram() -/
theorem pInput_R {t : tStr} {s s' : pPg} (h : pInput t s = .inr s') : s'.2.2.2.2.1 = s.2.2.2.2.1 := by
  unfold pInput at h
  obtain ⟨_, _, h⟩ := pbind_inr h
  obtain ⟨_, _, h⟩ := pbind_inr h
  obtain ⟨_, _, h⟩ := pbind_inr h
  obtain ⟨_, _, h⟩ := pbind_inr h
  obtain ⟨_, _, h⟩ := pbind_inr h
  cases h
  rfl
theorem pOutput_R {t : tStr} {s s' : pPg} (h : pOutput t s = .inr s') : s'.2.2.2.2.1 = s.2.2.2.2.1 := by
  unfold pOutput at h
  obtain ⟨_, _, h⟩ := pbind_inr h
  obtain ⟨_, _, h⟩ := pbind_inr h
  cases h
  rfl
theorem pRule_R {t : tStr} {F : Nat} {s s' : pPg} (h : pRule t F s = .inr s') : s'.2.2.2.2.1.length = s.2.2.2.2.1.length + 1 := by
  unfold pRule at h
  split at h
  · cases h
  obtain ⟨_, _, h⟩ := pbind_inr h
  obtain ⟨_, _, h⟩ := pbind_inr h
  obtain ⟨_, _, h⟩ := pbind_inr h
  obtain ⟨_, _, h⟩ := pbind_inr h
  obtain ⟨_, _, h⟩ := pbind_inr h
  obtain ⟨_, _, h⟩ := pbind_inr h
  obtain ⟨_, _, h⟩ := pbind_inr h
  cases h
  exact len1 _ _
section
variable {f n N w q F : Nat} {S : Nat → Nat × Nat × Nat} {G : xG_} {m : Nat × Nat} {B : Nat → Int} {t : tStr} {x it : Nat} {k : Int} {r : Nat → Int → xT_ → Option ((Nat ⊕ Unit) × xT_)}
theorem xFp.mo {nx nx' : Nat} {G G' : xG_} (h : xFp q nx' G G') (hn : nx ≤ nx') : xFp q nx G G' := fun a j z1 z2 z3 z4 => h a j (by omega) z2 z3 z4
theorem st_30 (hs : cSs S) (hp : cPs G) (hx : x ≤ 3000) (hit : it ≤ 3000) (k1 : G 67 x = k) (k3 : G 72 1 = (x : Int)) : c30_8b r f 72 (it : Int) (S, G, m) = if k = 0 then some (.inr (), (S, G, m)) else if k = 6 then ((c41 f 72 (S, G, m)).bind fun R => cth R (fun _ => r 72 (xwr ((it : Int) + 1)) R.2)) else if k = 7 then ((c42 f 72 (S, G, m)).bind fun R => cth R (fun _ => r 72 (xwr ((it : Int) + 1)) R.2)) else ((c43 f 72 (S, G, m)).bind fun R => cth R (fun _ => r 72 (xwr ((it : Int) + 1)) R.2)) := by
  by_cases c0 : k = 0
  · rw [if_pos c0]
    rw [c0] at k1
    unfold c30_8b c30_79
    simp (disch := omega) only [cq_gi, cq_gr, cq_a, cq_s, cq_p, cq_pr, cq_is, cq_ar, cq_ab, cq_ln, xq_nz, Option.bind_some, xup2_n, xup2_s, Int.toNat_natCast, Int.reduceToNat, if_pos, if_neg, true_and, and_true, and_self, eq_self, if_true, reduceIte, not_true_eq_false, not_false_eq_true, or_true, true_or, s72 hs, s65 hs, s67 hs, p72_0 hp, p65_3 hp, k1, k3]
  · rw [if_neg c0]
    by_cases c6 : k = 6
    · rw [if_pos c6]
      rw [c6] at k1
      unfold c30_8b c30_73
      simp (disch := omega) only [cq_gi, cq_gr, cq_a, cq_s, cq_p, cq_pr, cq_is, cq_ar, cq_ab, cq_ln, xq_nz, Option.bind_some, xup2_n, xup2_s, Int.toNat_natCast, Int.reduceToNat, if_pos, if_neg, true_and, and_true, and_self, eq_self, if_true, reduceIte, not_true_eq_false, not_false_eq_true, or_true, true_or, s72 hs, s65 hs, s67 hs, p72_0 hp, p65_3 hp, k1, k3]
    · rw [if_neg c6]
      by_cases c7 : k = 7
      · rw [if_pos c7]
        rw [c7] at k1
        unfold c30_8b c30_73
        simp (disch := omega) only [cq_gi, cq_gr, cq_a, cq_s, cq_p, cq_pr, cq_is, cq_ar, cq_ab, cq_ln, xq_nz, Option.bind_some, xup2_n, xup2_s, Int.toNat_natCast, Int.reduceToNat, if_pos, if_neg, true_and, and_true, and_self, eq_self, if_true, reduceIte, not_true_eq_false, not_false_eq_true, or_true, true_or, s72 hs, s65 hs, s67 hs, p72_0 hp, p65_3 hp, k1, k3]
      · rw [if_neg c7]
        unfold c30_8b c30_73
        simp (disch := omega) only [cq_gi, cq_gr, cq_a, cq_s, cq_p, cq_pr, cq_is, cq_ar, cq_ab, cq_ln, xq_nz, Option.bind_some, xup2_n, xup2_s, Int.toNat_natCast, Int.reduceToNat, if_pos, if_neg, true_and, and_true, and_self, eq_self, if_true, reduceIte, not_true_eq_false, not_false_eq_true, or_true, true_or, s72 hs, s65 hs, s67 hs, p72_0 hp, p65_3 hp, k1, k3]
/-- WRONG in a program; what is made until then -/
def pWr (S : Nat → Nat × Nat × Nat) (G : xG_) (q nx sl : Nat) (s : pPg) (T : Option ((Nat ⊕ Unit) × xT_)) (x : Nat) : Prop := ∃ (S' : Nat → Nat × Nat × Nat) (G' : xG_) (m' : Nat × Nat), T = some (.inl 0, cWr S' G' m' (x : Int)) ∧ (∀ a, a < nx → S' a = S a) ∧ xFp q nx G G' ∧ m'.1 + 13 * s.2.2.2.2.1.length ≤ nx + 312 ∧ m'.2 + 172 * s.2.2.2.2.1.length + 2 * s.2.2.2.2.2 ≤ sl + 4128 + 6000 ∧ nx ≤ m'.1
/-- a program that is read -/
def pRd (S : Nat → Nat × Nat × Nat) (G : xG_) (B : Nat → Int) (n : Nat) (t : tStr) (N w q nx sl : Nat) (s : pPg) (T : Option ((Nat ⊕ Unit) × xT_)) (s' : pPg) : Prop := ∃ (S' : Nat → Nat × Nat × Nat) (G' : xG_) (nx' sl' : Nat), T = some (.inr (), (S', G', (nx', sl'))) ∧ (∀ a, a < nx → S' a = S a) ∧ xFp q nx G G' ∧ cPS S' G' B n t N w q nx' s' ∧ nx' + 13 * s.2.2.2.2.1.length = nx + 13 * s'.2.2.2.2.1.length ∧ sl' + 172 * s.2.2.2.2.1.length + 2 * s.2.2.2.2.2 ≤ sl + 172 * s'.2.2.2.2.1.length + 2 * s'.2.2.2.2.2 ∧ s.2.2.2.2.1.length ≤ s'.2.2.2.2.1.length
theorem k_30l (hf : 3010 < f) (hok : tOk t) (hvi : vIn t B n) (hF : 4 * N + 2 ≤ F) : ∀ (K it fu : Nat) (s : pPg) (S : Nat → Nat × Nat × Nat) (G : xG_) (nx sl : Nat), it ≤ s.2.2.2.2.2 → N < K + s.2.2.2.2.2 → N < fu + it → wPg s → 278 < nx → cPS S G B n t N w q nx s → pok (pProg t F K s) (pWr S G q nx sl s (c30_8 f fu 72 (it : Int) (S, G, (nx, sl)))) (pRd S G B n t N w q nx sl s (c30_8 f fu 72 (it : Int) (S, G, (nx, sl)))) := by
  intro K
  induction K with
  | zero =>
    intro it fu s S G nx sl h1 h2 h3 hw hnx h
    have := h.2.2.1
    omega
  | succ K ih =>
    intro it fu s S G nx sl h1 h2 h3 hw hnx h
    have hiN := h.2.2.1
    have hN := h.1.2.2.2.1.2
    have hs := h.1.1
    obtain ⟨fu, rfl⟩ : ∃ t, fu = t + 1 := ⟨fu - 1, by omega⟩
    obtain ⟨k1, k2, k3, k4⟩ := h.1.tk h.2.1
    have ek : xwr ((it : Int) + 1) = ((it + 1 : Nat) : Int) := by rw [xwr_g _ (by omega) (by omega)]; omega
    have e0 := st_30 (f := f) (m := (nx, sl)) (r := c30_8 f fu) hs h.1.2.1 k4 (by omega : it ≤ 3000) k1 k3
    rw [ek] at e0
    have e0' : c30_8 f (fu + 1) 72 (it : Int) (S, G, (nx, sl)) = _ := e0
    have hR24 := h.2.2.2.2.2.1.2.1.2.1
    show pok (if kK t s.2.2.2.2.2 = 0 then .inr s else pbind (if kK t s.2.2.2.2.2 = 6 then pInput t s else if kK t s.2.2.2.2.2 = 7 then pOutput t s else pRule t F s) fun s' => pProg t F K s') _ _
    rw [e0']
    by_cases c0 : kK t s.2.2.2.2.2 = 0
    · rw [if_pos c0, if_pos c0]
      exact ⟨S, G, nx, sl, rfl, fun _ _ => rfl, .id, h, rfl, Nat.le_refl _, Nat.le_refl _⟩
    rw [if_neg c0, if_neg c0]
    -- a step that makes nothing new
    have io : ∀ (X : Nat ⊕ pPg) (T : Option ((Nat ⊕ Unit) × xT_)), (∀ s', X = .inr s' → wPg s' ∧ s'.2.2.2.2.1 = s.2.2.2.2.1) → pok X (iW S G q nx (nx, sl) T) (fun s' => ∃ G', T = some (.inr (), (S, G', (nx, sl))) ∧ xFp q nx G G' ∧ cPS S G' B n t N w q nx s' ∧ s.2.2.2.2.2 < s'.2.2.2.2.2) → pok (pbind X fun s' => pProg t F K s') (pWr S G q nx sl s (T.bind fun R => cth R (fun _ => c30_8 f fu 72 ((it + 1 : Nat) : Int) R.2))) (pRd S G B n t N w q nx sl s (T.bind fun R => cth R (fun _ => c30_8 f fu 72 ((it + 1 : Nat) : Int) R.2))) := by
      intro X T hX hp
      cases X with
      | inl x =>
        obtain ⟨G1, a1, a2⟩ := hp
        exact ⟨S, G1, (nx, sl), by rw [a1]; rfl, fun _ _ => rfl, a2, by show nx + 13 * _ ≤ _; omega, by show sl + 172 * _ + 2 * _ ≤ _; omega, Nat.le_refl _⟩
      | inr s' =>
        obtain ⟨G1, a1, a2, a3, a4⟩ := hp
        obtain ⟨w1, w2⟩ := hX s' rfl
        have q' := ih (it + 1) fu s' S G1 nx sl (by omega) (by omega) (by omega) w1 hnx a3
        have e1 : (T.bind fun R => cth R (fun _ => c30_8 f fu 72 ((it + 1 : Nat) : Int) R.2)) = c30_8 f fu 72 ((it + 1 : Nat) : Int) (S, G1, (nx, sl)) := by rw [a1]; rfl
        rw [e1]
        show pok (pProg t F K s') _ _
        cases hz : pProg t F K s' with
        | inl x =>
          rw [hz] at q'
          obtain ⟨S2, G2, m2, y1, y2, y3, y4, y5, y6⟩ := q'
          rw [w2] at y4 y5
          exact ⟨S2, G2, m2, y1, y2, a2.tr y3, y4, by omega, y6⟩
        | inr z =>
          rw [hz] at q'
          obtain ⟨S2, G2, nx2, sl2, y1, y2, y3, y4, y5, y6, y7⟩ := q'
          rw [w2] at y5 y6 y7
          exact ⟨S2, G2, nx2, sl2, y1, y2, a2.tr y3, y4, y5, by omega, y7⟩
    by_cases c6 : kK t s.2.2.2.2.2 = 6
    · rw [if_pos c6, if_pos c6]
      exact io _ _ (fun s' hs' => ⟨pInput_wf hs' hw, pInput_R hs'⟩) (k_41 (by omega) c6 h)
    rw [if_neg c6, if_neg c6]
    by_cases c7 : kK t s.2.2.2.2.2 = 7
    · rw [if_pos c7, if_pos c7]
      exact io _ _ (fun s' hs' => ⟨pOutput_wf hs' hw, pOutput_R hs'⟩) (k_42 (by omega) c7 h)
    rw [if_neg c7, if_neg c7]
    have p := k_43 (f := f) (sl := sl) hf hok hvi hF hw hnx h
    cases hX : pRule t F s with
    | inl x =>
      rw [hX] at p
      obtain ⟨S1, G1, m1, a1, a2, a3, a4⟩ := p
      refine ⟨S1, G1, m1, by rw [a1]; rfl, a2, a3, ?_, ?_, ?_⟩
      · rcases a4 with q | q
        · rw [q]; show nx + 13 * _ ≤ _; omega
        · rw [q]; show nx + 11 + 13 * _ ≤ _
          have : s.2.2.2.2.1.length ≠ 24 ∨ s.2.2.2.2.1.length = 24 := by omega
          rcases this with z | z
          · omega
          · -- then the rule is WRONG before anything is made
            rw [z]
            have e := st_43 (f := f) (m := (nx, sl)) hs h.1.2.1 k4 h.2.2.2.1.2.1 h.2.2.2.1.2.2.2.2.1.1 h.2.2.2.1.1 h.2.2.2.2.2.1.2.1.1 k2 k3
            rw [if_pos z, a1] at e
            injection e with e
            injection e with e1 e2
            unfold cWr cq_ex cq_mk at e2
            have := congrArg (fun T : xT_ => T.2.2.1) e2
            simp only at this
            rw [q] at this
            simp only at this
            omega
      · rcases a4 with q | q
        · rw [q]; show sl + 172 * _ + 2 * _ ≤ _; omega
        · rw [q]; show sl + 172 + 172 * _ + 2 * _ ≤ _
          have : s.2.2.2.2.1.length ≠ 24 ∨ s.2.2.2.2.1.length = 24 := by omega
          rcases this with z | z
          · omega
          · rw [z]
            have e := st_43 (f := f) (m := (nx, sl)) hs h.1.2.1 k4 h.2.2.2.1.2.1 h.2.2.2.1.2.2.2.2.1.1 h.2.2.2.1.1 h.2.2.2.2.2.1.2.1.1 k2 k3
            rw [if_pos z, a1] at e
            injection e with e
            injection e with e1 e2
            unfold cWr cq_ex cq_mk at e2
            have := congrArg (fun T : xT_ => T.2.2.1) e2
            simp only at this
            rw [q] at this
            simp only at this
            omega
      · rcases a4 with q | q <;> rw [q] <;> (first | exact Nat.le_refl _ | exact Nat.le_add_right _ _)
    | inr s' =>
      rw [hX] at p
      obtain ⟨S1, G1, sl1, a1, a2, a3, a4, a5, a6⟩ := p
      have w1 := pRule_wf hok hX hw
      have w2 := pRule_R hX
      have q' := ih (it + 1) fu s' S1 G1 (nx + 13) sl1 (by omega) (by omega) (by omega) w1 (by omega) a4
      have e1 : ((c43 f 72 (S, G, (nx, sl))).bind fun R => cth R (fun _ => c30_8 f fu 72 ((it + 1 : Nat) : Int) R.2)) = c30_8 f fu 72 ((it + 1 : Nat) : Int) (S1, G1, (nx + 13, sl1)) := by rw [a1]; rfl
      rw [e1]
      show pok (pProg t F K s') _ _
      cases hz : pProg t F K s' with
      | inl x =>
        rw [hz] at q'
        obtain ⟨S2, G2, m2, y1, y2, y3, y4, y5, y6⟩ := q'
        exact ⟨S2, G2, m2, y1, fun a ha => by rw [y2 a (by omega), a2 a ha], a3.tr (y3.mo (by omega)), by omega, by omega, by omega⟩
      | inr z =>
        rw [hz] at q'
        obtain ⟨S2, G2, nx2, sl2, y1, y2, y3, y4, y5, y6, y7⟩ := q'
        exact ⟨S2, G2, nx2, sl2, y1, fun a ha => by rw [y2 a (by omega), a2 a ha], a3.tr (y3.mo (by omega)), y4, by omega, by omega, by omega⟩
end
