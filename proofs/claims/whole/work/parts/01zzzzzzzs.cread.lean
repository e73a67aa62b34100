/-! THE CLASS reads TOKENS -/
/-- the TOKENS of the list are those of t, up to w; END is the N-th -/
def cEv (S : Nat → Nat × Nat × Nat) (G : xG_) (B : Nat → Int) (n : Nat) (t : tStr) (N w : Nat) : Prop := cSs S ∧ cPs G ∧ cTx G B n ∧ (G 65 2 = ((N + 1 : Nat) : Int) ∧ N ≤ 3000) ∧ (∀ i, N ≤ i → kK t i = 0 ∧ kS t i = kS t N) ∧ (w = N ∨ w < N ∧ kK t w = 5) ∧
  ∀ i, i ≤ w → (G 67 i = kK t i ∧ G 68 i = (kS t i : Int) ∧ G 69 i = (kE t i : Int)) ∧ (kK t i = 1 ∨ kK t i = 4 → G 70 i = kC t i) ∧ (kK t i = 1 ∨ kK t i = 2 → G 71 i = kW t i) ∧ (kS t i ≤ kE t i ∧ kE t i ≤ n ∧ (kD t i = true ↔ tDi (B (kE t i))) ∧ (kK t i = 2 → G 70 i = cco B n (kS t i)))
/-- the class is at the i-th TOKEN -/
def cAt (G : xG_) (N w i : Nat) : Prop := G 72 1 = ((min i N : Nat) : Int) ∧ (i ≤ w ∨ w = N)
/-- what is WRONG ends the reading -/
def cWr (S : Nat → Nat × Nat × Nat) (G : xG_) (m : Nat × Nat) (w : Int) : xT_ := cq_ex (S, xup2 G 72 2 w, m)
theorem cPs.read {G G' : xG_} (h : cPs G) (hf : ∀ a j, ¬ (a = 72 ∧ (1 ≤ j ∧ j ≤ 6 ∨ j = 9 ∨ j = 12 ∨ j = 14)) → ¬ (73 ≤ a ∧ a ≤ 82) → a < 279 → G' a j = G a j) : cPs G' := h.ge (fun a j hz => hf a j (by
  rcases hz with z | z | z | z | z | z | z | ⟨z, z1, z2, k, z3⟩ | z | z | z | ⟨k, z1, z2, z3⟩ <;> omega) (by
  rcases hz with z | z | z | z | z | z | z | ⟨z, z1, z2, k, z3⟩ | z | z | z | ⟨k, z1, z2, z3⟩ <;> omega) (by
  rcases hz with z | z | z | z | z | z | z | ⟨z, z1, z2, k, z3⟩ | z | z | z | ⟨k, z1, z2, z3⟩ <;> omega))
section
variable {f n N w i : Nat} {S : Nat → Nat × Nat × Nat} {G G' : xG_} {m : Nat × Nat} {B : Nat → Int} {t : tStr}
theorem cEv.ge {S' : Nat → Nat × Nat × Nat} (h : cEv S G B n t N w) (hS : ∀ a, a < 279 → S' a = S a) (hf : ∀ a j, ¬ (a = 72 ∧ (1 ≤ j ∧ j ≤ 6 ∨ j = 9 ∨ j = 12 ∨ j = 14)) → ¬ (73 ≤ a ∧ a ≤ 82) → a < 279 → G' a j = G a j) : cEv S' G' B n t N w := by
  obtain ⟨h1, h2, h3, h4, h5, h6, h7⟩ := h
  have z : ∀ a j, 65 ≤ a → a ≤ 71 → G' a j = G a j := fun a j _ _ => hf a j (by omega) (by omega) (by omega)
  refine ⟨fun k hk => by rw [hS _ (by omega)]; exact h1 k hk, h2.read hf, h3.ge (z _ _ (by omega) (by omega)) (fun p => z _ _ (by omega) (by omega)), ⟨by rw [z _ _ (by omega) (by omega)]; exact h4.1, h4.2⟩, h5, h6, fun i hi => ?_⟩
  obtain ⟨⟨a1, a2, a3⟩, a4, a5, a6⟩ := h7 i hi
  exact ⟨⟨by rw [z _ _ (by omega) (by omega)]; exact a1, by rw [z _ _ (by omega) (by omega)]; exact a2, by rw [z _ _ (by omega) (by omega)]; exact a3⟩, fun q => by rw [z _ _ (by omega) (by omega)]; exact a4 q, fun q => by rw [z _ _ (by omega) (by omega)]; exact a5 q, a6.1, a6.2.1, a6.2.2.1, fun q => by rw [z _ _ (by omega) (by omega)]; exact a6.2.2.2 q⟩
theorem cEv.u1 {v : Int} (h : cEv S G B n t N w) : cEv S (xup2 G 72 1 v) B n t N w := h.ge (fun _ _ => rfl) (fun a j q _ _ => xup2_n (by omega))
theorem cAt.u1 (h : i ≤ w ∨ w = N) : cAt (xup2 G 72 1 ((min i N : Nat) : Int)) N w i := ⟨xup2_s _ _ _ _, h⟩
theorem cAt.wle (hE : cEv S G B n t N w) (hA : cAt G N w i) : min i N ≤ w := by
  rcases hE.2.2.2.2.2.1 with q | q
  · omega
  · rcases hA.2 with z | z <;> omega
/-- kind, begin, end of the TOKEN that the class is at -/
theorem cEv.tk (hE : cEv S G B n t N w) (hA : cAt G N w i) : G 67 (min i N) = kK t i ∧ G 68 (min i N) = (kS t i : Int) ∧ G 72 1 = ((min i N : Nat) : Int) ∧ min i N ≤ 3000 := by
  obtain ⟨⟨a1, a2, a3⟩, _⟩ := hE.2.2.2.2.2.2 (min i N) (hA.wle hE)
  have hN := hE.2.2.2.1.2
  rw [a1, a2]
  by_cases c : i ≤ N
  · rw [Nat.min_eq_left c]
    exact ⟨rfl, rfl, by rw [hA.1, Nat.min_eq_left c], by omega⟩
  · have e1 := hE.2.2.2.2.1 i (by omega)
    have e2 := hE.2.2.2.2.1 N (Nat.le_refl _)
    rw [Nat.min_eq_right (by omega)]
    exact ⟨by rw [e1.1, e2.1], by rw [e1.2], by rw [hA.1, Nat.min_eq_right (by omega)], hN⟩
theorem cEv.lt (hE : cEv S G B n t N w) (hA : cAt G N w i) (h : kK t i ≠ 0) : i < N ∧ i ≤ w := by
  have hl : i < N := Nat.lt_of_not_le (fun q => h (hE.2.2.2.2.1 i q).1)
  have := hA.wle hE
  exact ⟨hl, by omega⟩
/-- advance() -/
theorem k_37 (hE : cEv S G B n t N w) (hA : cAt G N w i) (h5 : kK t i ≠ 5) : c37 f 72 (S, G, m) = some (S, xup2 G 72 1 ((min (i + 1) N : Nat) : Int), m) ∧ cAt (xup2 G 72 1 ((min (i + 1) N : Nat) : Int)) N w (i + 1) := by
  obtain ⟨h1, h2, h3, ⟨h4, h4'⟩, h5', h6, h7⟩ := hE
  have e1 : xwr (((N + 1 : Nat) : Int) - 1) = (N : Int) := by rw [xwr_g _ (by omega) (by omega)]; omega
  have hw : i + 1 ≤ w ∨ w = N := by
    rcases h6 with q | ⟨q1, q2⟩
    · exact .inr q
    · rcases hA.2 with z | z
      · by_cases c : i = w
        · rw [c] at h5; exact absurd q2 h5
        · exact .inl (by omega)
      · exact .inr z
  refine ⟨?_, .u1 hw⟩
  unfold c37 c37_26
  by_cases c : N ≤ i
  · have e2 : min i N = N := Nat.min_eq_right c
    have e3 : min (i + 1) N = N := Nat.min_eq_right (by omega)
    have hA1 : G 72 1 = (N : Int) := by rw [hA.1, e2]
    rw [e3, xup2_id hA1]
    simp (disch := omega) only [cq_gi, cq_gr, cq_a, cq_s, cq_p, cq_pr, cq_is, cq_ar, cq_ab, cq_ln, xq_nz, Option.bind_some, xup2_n, xup2_s, Int.toNat_natCast, Int.reduceToNat, if_pos, if_neg, true_and, and_true, and_self, eq_self, if_true, reduceIte, not_true_eq_false, not_false_eq_true, or_true, true_or, s72 h1, s65 h1, p72_0 h2, h4, hA1, e1]
  · have e2 : min i N = i := Nat.min_eq_left (by omega)
    have e3 : min (i + 1) N = i + 1 := Nat.min_eq_left (by omega)
    have hA1 : G 72 1 = (i : Int) := by rw [hA.1, e2]
    have e4 : xwr ((i : Int) + 1) = ((i + 1 : Nat) : Int) := by rw [xwr_g _ (by omega) (by omega)]; omega
    rw [e3]
    simp (disch := omega) only [cq_gi, cq_gr, cq_a, cq_s, cq_p, cq_pr, cq_is, cq_ar, cq_ab, cq_ln, xq_nz, Option.bind_some, xup2_n, xup2_s, Int.toNat_natCast, Int.reduceToNat, if_pos, if_neg, true_and, and_true, and_self, eq_self, if_true, reduceIte, not_true_eq_false, not_false_eq_true, or_true, true_or, s72 h1, s65 h1, p72_0 h2, h4, hA1, e1, e4]
theorem k_36 {v : Int} (h1 : cSs S) : c36 f 72 v (S, G, m) = some (.inl 0, cWr S G m v) := by
  unfold c36
  simp (disch := omega) only [cq_gi, cq_gr, cq_a, cq_s, cq_p, cq_pr, cq_is, cq_ar, cq_ab, cq_ln, xq_nz, Option.bind_some, xup2_n, xup2_s, Int.toNat_natCast, Int.reduceToNat, if_pos, if_neg, true_and, and_true, and_self, eq_self, if_true, reduceIte, not_true_eq_false, not_false_eq_true, or_true, true_or, s72 h1]
  rfl
/-- need() -/
theorem k_38 {c : Int} (hc : c ≠ 5) (hE : cEv S G B n t N w) (hA : cAt G N w i) : pok (pNeed t c i) (fun x => c38 f 72 c (S, G, m) = some (.inl 0, cWr S G m (x : Int))) (fun j => c38 f 72 c (S, G, m) = some (.inr (), (S, xup2 G 72 1 ((min j N : Nat) : Int), m)) ∧ j = i + 1 ∧ kK t i = c ∧ cAt (xup2 G 72 1 ((min j N : Nat) : Int)) N w j) := by
  obtain ⟨k1, k2, k3, k4⟩ := hE.tk hA
  have hs := hE.1
  have hp := hE.2.1
  have e1 : c38 f 72 c (S, G, m) = if kK t i = c then c38_32 f 72 (S, G, m) else some (.inl 0, cWr S G m (kS t i : Int)) := by
    unfold c38
    simp (disch := omega) only [cq_gi, cq_gr, cq_a, cq_s, cq_p, cq_pr, cq_is, cq_ar, cq_ab, cq_ln, xq_nz, Option.bind_some, xup2_n, xup2_s, Int.toNat_natCast, Int.reduceToNat, if_pos, if_neg, true_and, and_true, and_self, eq_self, if_true, reduceIte, not_true_eq_false, not_false_eq_true, or_true, true_or, s72 hs, s65 hs, s67 hs, s68 hs, p72_0 hp, p65_3 hp, p65_4 hp, k1, k2, k3, k_36 hs, cth]
  unfold pNeed
  by_cases c1 : kK t i = c
  · rw [if_pos c1] at e1 ⊢
    obtain ⟨a1, a2⟩ := k_37 (f := f) (m := m) hE hA (by omega)
    refine ⟨?_, rfl, c1, a2⟩
    rw [e1]
    unfold c38_32
    simp (disch := omega) only [cq_gi, cq_gr, cq_a, cq_s, cq_p, cq_pr, cq_is, cq_ar, cq_ab, cq_ln, xq_nz, Option.bind_some, xup2_n, xup2_s, Int.toNat_natCast, Int.reduceToNat, if_pos, if_neg, true_and, and_true, and_self, eq_self, if_true, reduceIte, not_true_eq_false, not_false_eq_true, or_true, true_or, s72 hs, a1]
  · rw [if_neg c1] at e1 ⊢
    exact e1
/-- goesOn() -/
theorem k_39 (hE : cEv S G B n t N w) (hA : cAt G N w i) : (kK t i = 44 → c39 f 72 (S, G, m) = some (1, (S, xup2 G 72 1 ((min (i + 1) N : Nat) : Int), m)) ∧ cAt (xup2 G 72 1 ((min (i + 1) N : Nat) : Int)) N w (i + 1)) ∧ (kK t i ≠ 44 → c39 f 72 (S, G, m) = some (0, (S, G, m))) := by
  obtain ⟨k1, k2, k3, k4⟩ := hE.tk hA
  have hs := hE.1
  have hp := hE.2.1
  have e1 : c39 f 72 (S, G, m) = if ¬ kK t i = 44 then c39_22 f 72 0 (S, G, m) else c39_22 f 72 1 (S, G, m) := by
    unfold c39
    simp (disch := omega) only [cq_gi, cq_gr, cq_a, cq_s, cq_p, cq_pr, cq_is, cq_ar, cq_ab, cq_ln, xq_nz, Option.bind_some, xup2_n, xup2_s, Int.toNat_natCast, Int.reduceToNat, if_pos, if_neg, true_and, and_true, and_self, eq_self, if_true, reduceIte, not_true_eq_false, not_false_eq_true, or_true, true_or, s72 hs, s65 hs, s67 hs, p72_0 hp, p65_3 hp, k1, k3]
  refine ⟨fun c => ?_, fun c => ?_⟩
  · rw [if_neg (fun q => q c)] at e1
    obtain ⟨a1, a2⟩ := k_37 (f := f) (m := m) hE hA (by omega)
    refine ⟨?_, a2⟩
    rw [e1]
    unfold c39_22 c39_31
    rw [if_neg (by decide)]
    simp (disch := omega) only [cq_gi, cq_gr, cq_a, cq_s, cq_p, cq_pr, cq_is, cq_ar, cq_ab, cq_ln, xq_nz, Option.bind_some, xup2_n, xup2_s, Int.toNat_natCast, Int.reduceToNat, if_pos, if_neg, true_and, and_true, and_self, eq_self, if_true, reduceIte, not_true_eq_false, not_false_eq_true, or_true, true_or, s72 hs, a1]
  · rw [if_pos c] at e1
    rw [e1]
    rfl
/-- lengthOf() -/
theorem k_124 (hE : cEv S G B n t N w) (hi : i ≤ w) (h3 : i ≤ 3000) : c124 f 65 (i : Int) (S, G, m) = some (((kE t i - kS t i : Nat) : Int), (S, G, m)) := by
  obtain ⟨⟨a1, a2, a3⟩, _, _, a4, a5, _⟩ := hE.2.2.2.2.2.2 i hi
  have hn := hE.2.2.1.2.1
  have e : xwr ((kE t i : Int) - (kS t i : Int)) = ((kE t i - kS t i : Nat) : Int) := by rw [xwr_g _ (by omega) (by omega)]; omega
  unfold c124
  simp (disch := omega) only [cq_gi, cq_gr, cq_a, cq_s, cq_p, cq_pr, cq_is, cq_ar, cq_ab, cq_ln, xq_nz, Option.bind_some, xup2_n, xup2_s, Int.toNat_natCast, Int.reduceToNat, if_pos, if_neg, true_and, and_true, and_self, eq_self, if_true, reduceIte, not_true_eq_false, not_false_eq_true, or_true, true_or, s65 hE.1, s68 hE.1, s69 hE.1, p65_4 hE.2.1, p65_5 hE.2.1, a2, a3, e]
/-- readName() -/
theorem k_47 (hE : cEv S G B n t N w) (hA : cAt G N w i) : pok (pName t i) (fun x => c47 f 72 (S, G, m) = some (.inl 0, cWr S G m (x : Int))) (fun r => c47 f 72 (S, G, m) = some (.inr r.1, (S, xup2 G 72 1 ((min r.2 N : Nat) : Int), m)) ∧ r.2 = i + 1 ∧ kK t i = 1 ∧ cAt (xup2 G 72 1 ((min r.2 N : Nat) : Int)) N w r.2) := by
  obtain ⟨k1, k2, k3, k4⟩ := hE.tk hA
  have hs := hE.1
  have hp := hE.2.1
  have hn := hE.2.2.1.2.1
  have e1 : c47 f 72 (S, G, m) = if kK t i = 1 then c47_34 f 72 (kS t i : Int) (S, G, m) else some (.inl 0, cWr S G m (kS t i : Int)) := by
    unfold c47
    simp (disch := omega) only [cq_gi, cq_gr, cq_a, cq_s, cq_p, cq_pr, cq_is, cq_ar, cq_ab, cq_ln, xq_nz, Option.bind_some, xup2_n, xup2_s, Int.toNat_natCast, Int.reduceToNat, if_pos, if_neg, true_and, and_true, and_self, eq_self, if_true, reduceIte, not_true_eq_false, not_false_eq_true, or_true, true_or, s72 hs, s65 hs, s67 hs, s68 hs, p72_0 hp, p65_3 hp, p65_4 hp, k1, k2, k3, k_36 hs, cth]
  unfold pName
  by_cases c1 : kK t i = 1
  · rw [if_pos c1] at e1
    rw [if_neg (fun q => q c1)]
    obtain ⟨l1, l2⟩ := hE.lt hA (by omega)
    have em : min i N = i := Nat.min_eq_left (by omega)
    rw [em] at k1 k2 k3 k4
    have e124 := k_124 (f := f) (m := m) hE l2 k4
    obtain ⟨⟨_, _, a3⟩, a4, _, a6, a7, _⟩ := hE.2.2.2.2.2.2 i l2
    have e70 := a4 (.inl c1)
    have e2 : xwr ((kS t i : Int) + 12) = ((kS t i + 12 : Nat) : Int) := by rw [xwr_g _ (by omega) (by omega)]; omega
    by_cases c2 : 12 < kE t i - kS t i
    · rw [if_pos c2]
      show c47 f 72 (S, G, m) = _
      rw [e1]
      unfold c47_34
      simp (disch := omega) only [cq_gi, cq_gr, cq_a, cq_s, cq_p, cq_pr, cq_is, cq_ar, cq_ab, cq_ln, xq_nz, Option.bind_some, xup2_n, xup2_s, Int.toNat_natCast, Int.reduceToNat, if_pos, if_neg, true_and, and_true, and_self, eq_self, if_true, reduceIte, not_true_eq_false, not_false_eq_true, or_true, true_or, s72 hs, s65 hs, p72_0 hp, k3, e124, e2, k_36 hs, cth]
    · rw [if_neg c2]
      obtain ⟨b1, b2⟩ := k_37 (f := f) (m := m) hE hA (by omega)
      refine ⟨?_, rfl, c1, b2⟩
      rw [e1]
      unfold c47_34 c47_58
      simp (disch := omega) only [cq_gi, cq_gr, cq_a, cq_s, cq_p, cq_pr, cq_is, cq_ar, cq_ab, cq_ln, xq_nz, Option.bind_some, xup2_n, xup2_s, Int.toNat_natCast, Int.reduceToNat, if_pos, if_neg, true_and, and_true, and_self, eq_self, if_true, reduceIte, not_true_eq_false, not_false_eq_true, or_true, true_or, s72 hs, s65 hs, s70 hs, p72_0 hp, p65_6 hp, k3, e124, e70, b1]
  · rw [if_neg c1] at e1
    rw [if_pos c1]
    exact e1
/-- readNumber() -/
theorem k_50 {hi : Nat} (h4 : hi ≤ 4) (hE : cEv S G B n t N w) (hA : cAt G N w i) : pok (pNum t (hi : Int) i) (fun x => c50 f 72 (hi : Int) (S, G, m) = some (.inl 0, cWr S G m (x : Int))) (fun r => c50 f 72 (hi : Int) (S, G, m) = some (.inr r.1, (S, xup2 G 72 1 ((min r.2 N : Nat) : Int), m)) ∧ r.2 = i + 1 ∧ 1 ≤ r.1 ∧ r.1 ≤ hi ∧ cAt (xup2 G 72 1 ((min r.2 N : Nat) : Int)) N w r.2) := by
  obtain ⟨k1, k2, k3, k4⟩ := hE.tk hA
  have hs := hE.1
  have hp := hE.2.1
  have e51 : c50_51 f 72 (S, G, m) = some (.inl 0, cWr S G m (kS t i : Int)) := by
    unfold c50_51
    simp (disch := omega) only [cq_gi, cq_gr, cq_a, cq_s, cq_p, cq_pr, cq_is, cq_ar, cq_ab, cq_ln, xq_nz, Option.bind_some, xup2_n, xup2_s, Int.toNat_natCast, Int.reduceToNat, if_pos, if_neg, true_and, and_true, and_self, eq_self, if_true, reduceIte, not_true_eq_false, not_false_eq_true, or_true, true_or, s72 hs, s65 hs, s68 hs, p72_0 hp, p65_4 hp, k2, k3, k_36 hs, cth]
  unfold pNum
  by_cases c1 : kK t i = 4
  · obtain ⟨l1, l2⟩ := hE.lt hA (by omega)
    have em : min i N = i := Nat.min_eq_left (by omega)
    rw [em] at k1 k2 k3 k4
    have e70 := (hE.2.2.2.2.2.2 i l2).2.1 (.inr c1)
    have e1 : c50 f 72 (hi : Int) (S, G, m) = if kC t i < 1 then c50_51 f 72 (S, G, m) else if kC t i ≤ (hi : Int) then c50_67 f 72 (S, G, m) else c50_51 f 72 (S, G, m) := by
      unfold c50
      simp (disch := omega) only [cq_gi, cq_gr, cq_a, cq_s, cq_p, cq_pr, cq_is, cq_ar, cq_ab, cq_ln, xq_nz, Option.bind_some, xup2_n, xup2_s, Int.toNat_natCast, Int.reduceToNat, if_pos, if_neg, true_and, and_true, and_self, eq_self, if_true, reduceIte, not_true_eq_false, not_false_eq_true, or_true, true_or, s72 hs, s65 hs, s67 hs, s70 hs, p72_0 hp, p65_3 hp, p65_6 hp, k1, k3, c1, e70]
    by_cases c2 : 1 ≤ kC t i ∧ kC t i ≤ (hi : Int)
    · rw [if_pos ⟨c1, c2⟩]
      obtain ⟨b1, b2⟩ := k_37 (f := f) (m := m) hE hA (by omega)
      refine ⟨?_, rfl, c2.1, c2.2, b2⟩
      rw [e1, if_neg (by omega), if_pos c2.2]
      have ew : xwr (kC t i) = kC t i := xwr_g _ (by omega) (by omega)
      unfold c50_67
      simp (disch := omega) only [cq_gi, cq_gr, cq_a, cq_s, cq_p, cq_pr, cq_is, cq_ar, cq_ab, cq_ln, xq_nz, Option.bind_some, xup2_n, xup2_s, Int.toNat_natCast, Int.reduceToNat, if_pos, if_neg, true_and, and_true, and_self, eq_self, if_true, reduceIte, not_true_eq_false, not_false_eq_true, or_true, true_or, s72 hs, s65 hs, s70 hs, p72_0 hp, p65_6 hp, k3, e70, b1, ew]
    · rw [if_neg (fun q => c2 q.2)]
      show c50 f 72 (hi : Int) (S, G, m) = _
      rw [e1, e51]
      by_cases c3 : kC t i < 1
      · rw [if_pos c3]
      · rw [if_neg c3, if_neg (by omega)]
  · rw [if_neg (fun q => c1 q.1)]
    show c50 f 72 (hi : Int) (S, G, m) = _
    rw [← e51]
    unfold c50
    simp (disch := omega) only [cq_gi, cq_gr, cq_a, cq_s, cq_p, cq_pr, cq_is, cq_ar, cq_ab, cq_ln, xq_nz, Option.bind_some, xup2_n, xup2_s, Int.toNat_natCast, Int.reduceToNat, if_pos, if_neg, true_and, and_true, and_self, eq_self, if_true, reduceIte, not_true_eq_false, not_false_eq_true, or_true, true_or, s72 hs, s65 hs, s67 hs, p72_0 hp, p65_3 hp, k1, k3]
/-- readCellName() -/
theorem k_52 (hck : ∀ i, kK t i = 2 → kW t i ≠ -1 → 0 ≤ kW t i ∧ kW t i < 72) (hE : cEv S G B n t N w) (hA : cAt G N w i) : pok (pCell t i) (fun x => c52 f 72 (S, G, m) = some (.inl 0, cWr S G m (x : Int))) (fun r => c52 f 72 (S, G, m) = some (.inr r.1, (S, xup2 G 72 1 ((min r.2 N : Nat) : Int), m)) ∧ r.2 = i + 1 ∧ 0 ≤ r.1 ∧ r.1 < 72 ∧ cAt (xup2 G 72 1 ((min r.2 N : Nat) : Int)) N w r.2) := by
  obtain ⟨k1, k2, k3, k4⟩ := hE.tk hA
  have hs := hE.1
  have hp := hE.2.1
  have e51 : c52_35 f 72 (S, G, m) = some (.inl 0, cWr S G m (kS t i : Int)) := by
    unfold c52_35
    simp (disch := omega) only [cq_gi, cq_gr, cq_a, cq_s, cq_p, cq_pr, cq_is, cq_ar, cq_ab, cq_ln, xq_nz, Option.bind_some, xup2_n, xup2_s, Int.toNat_natCast, Int.reduceToNat, if_pos, if_neg, true_and, and_true, and_self, eq_self, if_true, reduceIte, not_true_eq_false, not_false_eq_true, or_true, true_or, s72 hs, s65 hs, s68 hs, p72_0 hp, p65_4 hp, k2, k3, k_36 hs, cth]
  unfold pCell
  by_cases c1 : kK t i = 2
  · obtain ⟨l1, l2⟩ := hE.lt hA (by omega)
    have em : min i N = i := Nat.min_eq_left (by omega)
    rw [em] at k1 k2 k3 k4
    have e71 := (hE.2.2.2.2.2.2 i l2).2.2.1 (.inr c1)
    have e1 : c52 f 72 (S, G, m) = if ¬ kW t i = -1 then c52_51 f 72 (S, G, m) else c52_35 f 72 (S, G, m) := by
      unfold c52
      simp (disch := omega) only [cq_gi, cq_gr, cq_a, cq_s, cq_p, cq_pr, cq_is, cq_ar, cq_ab, cq_ln, xq_nz, Option.bind_some, xup2_n, xup2_s, Int.toNat_natCast, Int.reduceToNat, if_pos, if_neg, true_and, and_true, and_self, eq_self, if_true, reduceIte, not_true_eq_false, not_false_eq_true, or_true, true_or, s72 hs, s65 hs, s67 hs, s71 hs, p72_0 hp, p65_3 hp, p65_7 hp, k1, k3, c1, e71]
    by_cases c2 : kW t i = -1
    · rw [if_neg (fun q => q.2 c2)]
      show c52 f 72 (S, G, m) = _
      rw [e1, if_neg (fun q => q c2), e51]
    · rw [if_pos ⟨c1, c2⟩]
      obtain ⟨b1, b2⟩ := k_37 (f := f) (m := m) hE hA (by omega)
      have hk := hck i c1 c2
      refine ⟨?_, rfl, hk.1, hk.2, b2⟩
      rw [e1, if_pos c2]
      have ew : xwr (kW t i) = kW t i := xwr_g _ (by omega) (by omega)
      unfold c52_51
      simp (disch := omega) only [cq_gi, cq_gr, cq_a, cq_s, cq_p, cq_pr, cq_is, cq_ar, cq_ab, cq_ln, xq_nz, Option.bind_some, xup2_n, xup2_s, Int.toNat_natCast, Int.reduceToNat, if_pos, if_neg, true_and, and_true, and_self, eq_self, if_true, reduceIte, not_true_eq_false, not_false_eq_true, or_true, true_or, s72 hs, s65 hs, s71 hs, p72_0 hp, p65_7 hp, k3, e71, b1, ew]
  · rw [if_neg (fun q => c1 q.1)]
    show c52 f 72 (S, G, m) = _
    rw [← e51]
    unfold c52
    simp (disch := omega) only [cq_gi, cq_gr, cq_a, cq_s, cq_p, cq_pr, cq_is, cq_ar, cq_ab, cq_ln, xq_nz, Option.bind_some, xup2_n, xup2_s, Int.toNat_natCast, Int.reduceToNat, if_pos, if_neg, true_and, and_true, and_self, eq_self, if_true, reduceIte, not_true_eq_false, not_false_eq_true, or_true, true_or, s72 hs, s65 hs, s67 hs, p72_0 hp, p65_3 hp, k1, k3]
end
