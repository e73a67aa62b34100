/-! THE CLASS: FAULTS 2 and 3 of a program -/
/-- the first of the mentions from k on that is such a FAULT -/
def fMp (M : List pMn) (P : Nat → Prop) (k : Nat) (x : Int) : Prop := x = -1 ∧ (∀ i, k ≤ i → i < M.length → ¬ P i) ∨ ∃ i, k ≤ i ∧ i < M.length ∧ P i ∧ (∀ j, k ≤ j → j < i → ¬ P j) ∧ x = (mP M i : Int)
theorem fMp.step {M : List pMn} {P : Nat → Prop} {k : Nat} {x : Int} (h : fMp M P (k + 1) x) (hk : ¬ P k) : fMp M P k x := by
  rcases h with ⟨a1, a2⟩ | ⟨i, a1, a2, a3, a4, a5⟩
  · refine .inl ⟨a1, fun i z1 z2 => ?_⟩
    by_cases c : i = k
    · rw [c]; exact hk
    · exact a2 i (by omega) z2
  · refine .inr ⟨i, by omega, a2, a3, fun j z1 z2 => ?_, a5⟩
    by_cases c : j = k
    · rw [c]; exact hk
    · exact a4 j (by omega) z2
section
variable {f n N w q nx c : Nat} {S : Nat → Nat × Nat × Nat} {G : xG_} {m : Nat × Nat} {M : List pMn} {L : List Int} {tell : Bool} {r : Nat → Int → xT_ → Option (Int × xT_)} {pr wi pl i1 h1 : Int}
theorem st_66a (hs : cSs S) (h14 : G 72 14 = (c : Int)) : c66_2b r f 72 (c : Int) (S, G, m) = some (-1, (S, G, m)) := by
  unfold c66_2b
  simp (disch := omega) only [cq_gi, cq_gr, cq_a, cq_s, cq_p, cq_pr, cq_is, cq_ar, cq_ab, cq_ln, xq_nz, Option.bind_some, xup2_n, xup2_s, Int.toNat_natCast, Int.reduceToNat, if_pos, if_neg, true_and, and_true, and_self, eq_self, if_true, reduceIte, not_true_eq_false, not_false_eq_true, or_true, true_or, s72 hs, h14]
theorem st_66b {k : Nat} (hs : cSs S) (hp : cPs G) (hk : k < c) (hc : c ≤ 1024) (h14 : G 72 14 = (c : Int)) (h78 : G 78 k = -1) (h80 : G 80 k = pl) : c66_2b r f 72 (k : Int) (S, G, m) = some (pl, (S, G, m)) := by
  unfold c66_2b c66_46
  simp (disch := omega) only [cq_gi, cq_gr, cq_a, cq_s, cq_p, cq_pr, cq_is, cq_ar, cq_ab, cq_ln, xq_nz, Option.bind_some, xup2_n, xup2_s, Int.toNat_natCast, Int.reduceToNat, if_pos, if_neg, true_and, and_true, and_self, eq_self, if_true, reduceIte, not_true_eq_false, not_false_eq_true, or_true, true_or, s72 hs, s78 hs, s80 hs, p72_15 hp, p72_17 hp, h14, h78, h80]
theorem st_66c {k p : Nat} (hs : cSs S) (hp : cPs G) (hk : k < c) (hc : c ≤ 1024) (hpr : p < 16) (hq : 82 < q) (qs : S q = (1, 3, 14)) (q4 : S (q + 4) = (2, 0, 16)) (q6 : S (q + 6) = (2, 0, 16)) (h3 : G 72 3 = (q : Int)) (w5 : G q 5 = ((q + 4 : Nat) : Int)) (w7 : G q 7 = ((q + 6 : Nat) : Int)) (h14 : G 72 14 = (c : Int)) (h78 : G 78 k = (p : Int)) (h80 : G 80 k = pl) (hi : G (q + 4) p = i1) (hh : G (q + 6) p = h1) : c66_2b r f 72 (k : Int) (S, G, m) = if i1 = 0 ∧ h1 = 0 then some (pl, (S, G, m)) else r 72 (xwr ((k : Int) + 1)) (S, G, m) := by
  have hp1 : ¬ ((p : Int) = -1) := by omega
  by_cases c1 : i1 = 0
  · rw [c1] at hi
    by_cases c2 : h1 = 0
    · rw [if_pos ⟨c1, c2⟩]
      rw [c2] at hh
      unfold c66_2b c66_46
      simp (disch := omega) only [cq_gi, cq_gr, cq_a, cq_s, cq_p, cq_pr, cq_is, cq_ar, cq_ab, cq_ln, xq_nz, Option.bind_some, xup2_n, xup2_s, Int.toNat_natCast, Int.reduceToNat, if_pos, if_neg, true_and, and_true, and_self, eq_self, if_true, reduceIte, not_true_eq_false, not_false_eq_true, or_true, true_or, s72 hs, s78 hs, s80 hs, p72_15 hp, p72_17 hp, h14, h78, h80, hp1, qs, q4, q6, h3, w5, w7, hi, hh]
    · rw [if_neg (fun y => c2 y.2)]
      unfold c66_2b c66_53
      simp (disch := omega) only [cq_gi, cq_gr, cq_a, cq_s, cq_p, cq_pr, cq_is, cq_ar, cq_ab, cq_ln, xq_nz, Option.bind_some, xup2_n, xup2_s, Int.toNat_natCast, Int.reduceToNat, if_pos, if_neg, true_and, and_true, and_self, eq_self, if_true, reduceIte, not_true_eq_false, not_false_eq_true, or_true, true_or, s72 hs, s78 hs, p72_15 hp, h14, h78, hp1, qs, q4, q6, h3, w5, w7, hi, hh, c2]
  · rw [if_neg (fun y => c1 y.1)]
    unfold c66_2b c66_53
    simp (disch := omega) only [cq_gi, cq_gr, cq_a, cq_s, cq_p, cq_pr, cq_is, cq_ar, cq_ab, cq_ln, xq_nz, Option.bind_some, xup2_n, xup2_s, Int.toNat_natCast, Int.reduceToNat, if_pos, if_neg, true_and, and_true, and_self, eq_self, if_true, reduceIte, not_true_eq_false, not_false_eq_true, or_true, true_or, s72 hs, s78 hs, p72_15 hp, h14, h78, hp1, qs, q4, h3, w5, hi, c1]
/-- unknownName(): fi, fh say what inputs and heads hold -/
theorem k_66 {fi fh : Nat → Bool} (hf : 1100 < f) (hs : cSs S) (hp : cPs G) (hr : cPr0 S G q tell L) (hM : cMe G M) (hM4 : M.length ≤ 1024) (hi : ∀ p, p < 16 → G (q + 4) p = b01 (fi p) ∧ G (q + 6) p = b01 (fh p)) (hn : ∀ k, k < M.length → mN M k = -1 ∨ 0 ≤ mN M k ∧ mN M k < 16) : ∃ x, c66 f 72 (S, G, m) = some (x, (S, G, m)) ∧ fMp M (fun i => mN M i = -1 ∨ fi (mN M i).toNat = false ∧ fh (mN M i).toNat = false) 0 x := by
  obtain ⟨r1, r2, r3, r4, r5, r6, r7⟩ := hr
  have loop : ∀ (d k fu : Nat), k + d = M.length → d < fu → ∃ x, c66_2 f fu 72 (k : Int) (S, G, m) = some (x, (S, G, m)) ∧ fMp M (fun i => mN M i = -1 ∨ fi (mN M i).toNat = false ∧ fh (mN M i).toNat = false) k x := by
    intro d
    induction d with
    | zero =>
      intro k fu h1 h2
      obtain ⟨fu, rfl⟩ : ∃ t, fu = t + 1 := ⟨fu - 1, by omega⟩
      have : k = M.length := by omega
      rw [this]
      exact ⟨-1, st_66a (r := c66_2 f fu) hs hM.1, .inl ⟨rfl, fun i z1 z2 => by omega⟩⟩
    | succ d ih =>
      intro k fu h1 h2
      obtain ⟨fu, rfl⟩ : ∃ t, fu = t + 1 := ⟨fu - 1, by omega⟩
      obtain ⟨a1, a2, a3, a4⟩ := hM.2 k (by omega)
      have ek : xwr ((k : Int) + 1) = ((k + 1 : Nat) : Int) := by rw [xwr_g _ (by omega) (by omega)]; omega
      rcases hn k (by omega) with c1 | c1
      · rw [c1] at a1
        exact ⟨_, st_66b (r := c66_2 f fu) hs hp (by omega) hM4 hM.1 a1 a3, .inr ⟨k, Nat.le_refl _, by omega, .inl c1, fun j z1 z2 => by omega, rfl⟩⟩
      · have e : mN M k = ((mN M k).toNat : Int) := by omega
        rw [e] at a1
        obtain ⟨b1, b2⟩ := hi (mN M k).toNat (by omega)
        have st : c66_2 f (fu + 1) 72 (k : Int) (S, G, m) = _ := st_66c (r := c66_2 f fu) hs hp (by omega) hM4 (by omega) r2 r5.1 r5.2.2.2.2.1 r5.2.2.2.2.2.2.1 r1 r6.2.2.2.1 r6.2.2.2.2.2.1 hM.1 a1 a3 b1 b2
        rw [st, ek]
        by_cases c2 : fi (mN M k).toNat = false ∧ fh (mN M k).toNat = false
        · rw [if_pos ⟨b01_0.mpr c2.1, b01_0.mpr c2.2⟩]
          exact ⟨_, rfl, .inr ⟨k, Nat.le_refl _, by omega, .inr c2, fun j z1 z2 => by omega, rfl⟩⟩
        · rw [if_neg (fun y => c2 ⟨b01_0.mp y.1, b01_0.mp y.2⟩)]
          obtain ⟨x, x1, x2⟩ := ih (k + 1) fu (by omega) (by omega)
          exact ⟨x, x1, x2.step (fun y => by rcases y with y | y; omega; exact c2 y)⟩
  exact loop M.length 0 f (by omega) (by omega)
theorem st_67a (hs : cSs S) (h14 : G 72 14 = (c : Int)) : c67_2b r f 72 (c : Int) (S, G, m) = some (-1, (S, G, m)) := by
  unfold c67_2b
  simp (disch := omega) only [cq_gi, cq_gr, cq_a, cq_s, cq_p, cq_pr, cq_is, cq_ar, cq_ab, cq_ln, xq_nz, Option.bind_some, xup2_n, xup2_s, Int.toNat_natCast, Int.reduceToNat, if_pos, if_neg, true_and, and_true, and_self, eq_self, if_true, reduceIte, not_true_eq_false, not_false_eq_true, or_true, true_or, s72 hs, h14]
theorem st_67b {k : Nat} (hs : cSs S) (hp : cPs G) (hk : k < c) (hc : c ≤ 1024) (h14 : G 72 14 = (c : Int)) (h79 : G 79 k = 7) : c67_2b r f 72 (k : Int) (S, G, m) = r 72 (xwr ((k : Int) + 1)) (S, G, m) := by
  unfold c67_2b c67_51
  simp (disch := omega) only [cq_gi, cq_gr, cq_a, cq_s, cq_p, cq_pr, cq_is, cq_ar, cq_ab, cq_ln, xq_nz, Option.bind_some, xup2_n, xup2_s, Int.toNat_natCast, Int.reduceToNat, if_pos, if_neg, true_and, and_true, and_self, eq_self, if_true, reduceIte, not_true_eq_false, not_false_eq_true, or_true, true_or, s72 hs, s79 hs, p72_16 hp, h14, h79]
theorem st_67c {k p : Nat} {kd : Int} (hs : cSs S) (hp : cPs G) (hk : k < c) (hc : c ≤ 1024) (hpr : p < 16) (hq : 82 < q) (qs : S q = (1, 3, 14)) (q2 : S (q + 2) = (2, 3, 16)) (h3 : G 72 3 = (q : Int)) (w3 : G q 3 = ((q + 2 : Nat) : Int)) (h14 : G 72 14 = (c : Int)) (h79 : G 79 k = kd) (hkd : kd ≠ 7) (h78 : G 78 k = (p : Int)) (h80 : G 80 k = pl) (h81 : G 81 k = wi) (hw : G (q + 2) p = pr) : c67_2b r f 72 (k : Int) (S, G, m) = if wi = pr then r 72 (xwr ((k : Int) + 1)) (S, G, m) else some (pl, (S, G, m)) := by
  by_cases c1 : wi = pr
  · rw [if_pos c1]
    rw [← c1] at hw
    unfold c67_2b c67_51
    simp (disch := omega) only [cq_gi, cq_gr, cq_a, cq_s, cq_p, cq_pr, cq_is, cq_ar, cq_ab, cq_ln, xq_nz, Option.bind_some, xup2_n, xup2_s, Int.toNat_natCast, Int.reduceToNat, if_pos, if_neg, true_and, and_true, and_self, eq_self, if_true, reduceIte, not_true_eq_false, not_false_eq_true, or_true, true_or, s72 hs, s78 hs, s79 hs, s81 hs, p72_15 hp, p72_16 hp, p72_18 hp, h14, h78, h79, h81, qs, q2, h3, w3, hw]
  · rw [if_neg c1]
    unfold c67_2b c67_51
    simp (disch := omega) only [cq_gi, cq_gr, cq_a, cq_s, cq_p, cq_pr, cq_is, cq_ar, cq_ab, cq_ln, xq_nz, Option.bind_some, xup2_n, xup2_s, Int.toNat_natCast, Int.reduceToNat, if_pos, if_neg, true_and, and_true, and_self, eq_self, if_true, reduceIte, not_true_eq_false, not_false_eq_true, or_true, true_or, s72 hs, s78 hs, s79 hs, s80 hs, s81 hs, p72_15 hp, p72_16 hp, p72_17 hp, p72_18 hp, h14, h78, h79, h80, h81, qs, q2, h3, w3, hw, c1]
/-- otherWidth() -/
theorem k_67 {fw : Nat → Int} (hf : 1100 < f) (hs : cSs S) (hp : cPs G) (hr : cPr0 S G q tell L) (hM : cMe G M) (hM4 : M.length ≤ 1024) (hi : ∀ p, p < 16 → G (q + 2) p = fw p) (hn : ∀ k, k < M.length → (0 ≤ mN M k ∧ mN M k < 16) ∧ (mW M k = 2 ∧ mK M k = -1 ∨ mW M k ≠ 2 ∧ mK M k ≠ -1)) : ∃ x, c67 f 72 (S, G, m) = some (x, (S, G, m)) ∧ fMp M (fun i => mK M i ≠ -1 ∧ mK M i ≠ fw (mN M i).toNat) 0 x := by
  obtain ⟨r1, r2, r3, r4, r5, r6, r7⟩ := hr
  have loop : ∀ (d k fu : Nat), k + d = M.length → d < fu → ∃ x, c67_2 f fu 72 (k : Int) (S, G, m) = some (x, (S, G, m)) ∧ fMp M (fun i => mK M i ≠ -1 ∧ mK M i ≠ fw (mN M i).toNat) k x := by
    intro d
    induction d with
    | zero =>
      intro k fu h1 h2
      obtain ⟨fu, rfl⟩ : ∃ t, fu = t + 1 := ⟨fu - 1, by omega⟩
      have : k = M.length := by omega
      rw [this]
      exact ⟨-1, st_67a (r := c67_2 f fu) hs hM.1, .inl ⟨rfl, fun i z1 z2 => by omega⟩⟩
    | succ d ih =>
      intro k fu h1 h2
      obtain ⟨fu, rfl⟩ : ∃ t, fu = t + 1 := ⟨fu - 1, by omega⟩
      obtain ⟨a1, a2, a3, a4⟩ := hM.2 k (by omega)
      have ek : xwr ((k : Int) + 1) = ((k + 1 : Nat) : Int) := by rw [xwr_g _ (by omega) (by omega)]; omega
      obtain ⟨c1, c2⟩ := hn k (by omega)
      obtain ⟨x, x1, x2⟩ := ih (k + 1) fu (by omega) (by omega)
      rcases c2 with ⟨d1, d2⟩ | ⟨d1, d2⟩
      · rw [d1] at a2
        have st : c67_2 f (fu + 1) 72 (k : Int) (S, G, m) = _ := st_67b (r := c67_2 f fu) hs hp (by omega) hM4 hM.1 a2
        rw [st, ek]
        exact ⟨x, x1, x2.step (fun y => y.1 d2)⟩
      · have e : mN M k = ((mN M k).toNat : Int) := by omega
        rw [e] at a1
        have hkd : mKd (mW M k) ≠ 7 := by
          unfold mKd
          by_cases z1 : mW M k = 1
          · rw [if_pos z1]; decide
          · rw [if_neg z1, if_neg d1]
            by_cases z3 : mW M k = 3
            · rw [if_pos z3]; decide
            · rw [if_neg z3]; decide
        have st : c67_2 f (fu + 1) 72 (k : Int) (S, G, m) = _ := st_67c (r := c67_2 f fu) hs hp (by omega) hM4 (by omega) r2 r5.1 r5.2.2.1 r1 r6.2.1 hM.1 a2 hkd a1 a3 (a4 d2) (hi _ (by omega))
        rw [st, ek]
        by_cases c3 : mK M k = fw (mN M k).toNat
        · rw [if_pos c3]
          exact ⟨x, x1, x2.step (fun y => y.2 c3)⟩
        · rw [if_neg c3]
          exact ⟨_, rfl, .inr ⟨k, Nat.le_refl _, by omega, ⟨d2, c3⟩, fun j z1 z2 => by omega, rfl⟩⟩
  exact loop M.length 0 f (by omega) (by omega)
end
