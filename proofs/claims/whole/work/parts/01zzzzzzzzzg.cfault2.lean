/-! THE CLASS: FAULT 1 of a program -/
def rvl (w : Int) : Nat := if w = 6 then 16448 else if w = 7 then 128 else if w = 14 then 64 else 0
theorem and0 {a r : Nat} : a &&& r = 0 ↔ ∀ j, r.testBit j = true → a.testBit j = false := by
  constructor
  · intro h j hj
    have := congrArg (fun x => x.testBit j) h
    simp only [Nat.testBit_and, hj, Bool.and_true, Nat.zero_testBit] at this
    exact this
  · intro h
    apply Nat.eq_of_testBit_eq
    intro j
    rw [Nat.testBit_and, Nat.zero_testBit]
    cases hr : r.testBit j with
    | false => rw [Bool.and_false]
    | true => rw [h j hr, Bool.false_and]
theorem tb_2 (a j : Nat) : (2 ^ a).testBit j = true ↔ j = a := by
  rw [Nat.testBit_two_pow, decide_eq_true_iff]
  exact eq_comm
theorem rvl_t {b : Int} (hb : b = 1 ∨ b = 2 ∨ b = 3 ∨ b = 4) (j : Nat) : (rvl (mKd b)).testBit j = true ↔ b = 1 ∧ (j = 6 ∨ j = 14) ∨ b = 2 ∧ j = 7 ∨ b = 3 ∧ j = 6 := by
  rcases hb with h | h | h | h
  · rw [h, show rvl (mKd 1) = 2 ^ 6 ||| 2 ^ 14 from by decide, tb_or, tb_2]
    omega
  · rw [h, show rvl (mKd 2) = 2 ^ 7 from by decide, tb_2]
    omega
  · rw [h, show rvl (mKd 3) = 2 ^ 6 from by decide, tb_2]
    omega
  · rw [h, show rvl (mKd 4) = 0 from by decide, Nat.zero_testBit]
    constructor
    · intro q; cases q
    · intro q; omega
/-- which kinds were told of a predicate by the first mentions -/
def isTm (M : List pMn) (i p : Nat) (a : Nat) : Prop := a < 2 ^ 16 ∧ ∀ j, a.testBit j = true ↔ ∃ k, k < i ∧ mN M k = (p : Int) ∧ mKd (mW M k) = (j : Int)
section
variable {f n A c i p : Nat} {S : Nat → Nat × Nat × Nat} {G : xG_} {m : Nat × Nat} {M : List pMn} {r : Nat → Nat → Int → xT_ → Option (Int × xT_)} {pl kd : Int} {a : Nat}
theorem st_65a (hs : cSs S) (h14 : G 72 14 = (c : Int)) : c65_7b r f 72 A (c : Int) (S, G, m) = some (-1, (S, G, m)) := by
  unfold c65_7b
  simp (disch := omega) only [cq_gi, cq_gr, cq_a, cq_s, cq_p, cq_pr, cq_is, cq_ar, cq_ab, cq_ln, xq_nz, Option.bind_some, xup2_n, xup2_s, Int.toNat_natCast, Int.reduceToNat, if_pos, if_neg, true_and, and_true, and_self, eq_self, if_true, reduceIte, not_true_eq_false, not_false_eq_true, or_true, true_or, s72 hs, h14]
theorem st_65b (hs : cSs S) (hp : cPs G) (hi : i < c) (hc : c ≤ 1024) (h14 : G 72 14 = (c : Int)) (h79 : G 79 i = kd) : c65_7b r f 72 A (i : Int) (S, G, m) = c65_58 r f 72 A (i : Int) kd (rvl kd : Int) (S, G, m) := by
  unfold rvl
  by_cases c6 : kd = 6
  · rw [if_pos c6]
    rw [c6] at h79 ⊢
    unfold c65_7b
    simp (disch := omega) only [cq_gi, cq_gr, cq_a, cq_s, cq_p, cq_pr, cq_is, cq_ar, cq_ab, cq_ln, xq_nz, Option.bind_some, xup2_n, xup2_s, Int.toNat_natCast, Int.reduceToNat, if_pos, if_neg, true_and, and_true, and_self, eq_self, if_true, reduceIte, not_true_eq_false, not_false_eq_true, or_true, true_or, s72 hs, s79 hs, p72_16 hp, h14, h79]
    rfl
  · rw [if_neg c6]
    by_cases c7 : kd = 7
    · rw [if_pos c7]
      rw [c7] at h79 ⊢
      unfold c65_7b
      simp (disch := omega) only [cq_gi, cq_gr, cq_a, cq_s, cq_p, cq_pr, cq_is, cq_ar, cq_ab, cq_ln, xq_nz, Option.bind_some, xup2_n, xup2_s, Int.toNat_natCast, Int.reduceToNat, if_pos, if_neg, true_and, and_true, and_self, eq_self, if_true, reduceIte, not_true_eq_false, not_false_eq_true, or_true, true_or, s72 hs, s79 hs, p72_16 hp, h14, h79]
      rfl
    · rw [if_neg c7]
      by_cases c14 : kd = 14
      · rw [if_pos c14]
        rw [c14] at h79 ⊢
        unfold c65_7b
        simp (disch := omega) only [cq_gi, cq_gr, cq_a, cq_s, cq_p, cq_pr, cq_is, cq_ar, cq_ab, cq_ln, xq_nz, Option.bind_some, xup2_n, xup2_s, Int.toNat_natCast, Int.reduceToNat, if_pos, if_neg, true_and, and_true, and_self, eq_self, if_true, reduceIte, not_true_eq_false, not_false_eq_true, or_true, true_or, s72 hs, s79 hs, p72_16 hp, h14, h79]
        rfl
      · rw [if_neg c14]
        unfold c65_7b
        simp (disch := omega) only [cq_gi, cq_gr, cq_a, cq_s, cq_p, cq_pr, cq_is, cq_ar, cq_ab, cq_ln, xq_nz, Option.bind_some, xup2_n, xup2_s, Int.toNat_natCast, Int.reduceToNat, if_pos, if_neg, true_and, and_true, and_self, eq_self, if_true, reduceIte, not_true_eq_false, not_false_eq_true, or_true, true_or, s72 hs, s79 hs, p72_16 hp, h14, h79]
        rfl
theorem st_65c {y0 x3 : Int} (hs : cSs S) (hp : cPs G) (hA : 278 < A) (hi : i < 1024) (sA : S A = (2, 3, 16)) (hpp : p < 16) (h78 : G 78 i = (p : Int)) (h80 : G 80 i = pl) (ha : G A p = (a : Int)) : c65_58 r f 72 A (i : Int) x3 y0 (S, G, m) = if xand (a : Int) y0 = 0 then r 72 A (xwr ((i : Int) + 1)) (S, xup2 G A p (xor_ (a : Int) (xshl 1 x3)), m) else some (pl, (S, G, m)) := by
  by_cases c1 : xand (a : Int) y0 = 0
  · rw [if_pos c1]
    unfold c65_58
    simp (disch := omega) only [cq_gi, cq_gr, cq_a, cq_s, cq_p, cq_pr, cq_is, cq_ar, cq_ab, cq_ln, xq_nz, Option.bind_some, xup2_n, xup2_s, Int.toNat_natCast, Int.reduceToNat, if_pos, if_neg, true_and, and_true, and_self, eq_self, if_true, reduceIte, not_true_eq_false, not_false_eq_true, or_true, true_or, s72 hs, s78 hs, p72_15 hp, sA, h78, ha, c1]
  · rw [if_neg c1]
    unfold c65_58
    simp (disch := omega) only [cq_gi, cq_gr, cq_a, cq_s, cq_p, cq_pr, cq_is, cq_ar, cq_ab, cq_ln, xq_nz, Option.bind_some, xup2_n, xup2_s, Int.toNat_natCast, Int.reduceToNat, if_pos, if_neg, true_and, and_true, and_self, eq_self, if_true, reduceIte, not_true_eq_false, not_false_eq_true, or_true, true_or, s72 hs, s78 hs, s80 hs, p72_15 hp, p72_17 hp, sA, h78, h80, ha, c1]
theorem twc_k {x b : Int} (hx : x = 1 ∨ x = 2 ∨ x = 3 ∨ x = 4) : twc x b ↔ b = 1 ∧ (mKd x = 6 ∨ mKd x = 14) ∨ b = 2 ∧ mKd x = 7 ∨ b = 3 ∧ mKd x = 6 := by
  unfold twc
  rcases hx with h | h | h | h <;> rw [h]
  · rw [show mKd 1 = 6 from rfl]; omega
  · rw [show mKd 2 = 7 from rfl]; omega
  · rw [show mKd 3 = 14 from rfl]; omega
  · rw [show mKd 4 = 15 from rfl]; omega
theorem mKd_n {x : Int} : ∃ d : Nat, mKd x = (d : Int) ∧ d < 16 := by
  unfold mKd
  by_cases h1 : x = 1
  · rw [if_pos h1]; exact ⟨6, rfl, by decide⟩
  · rw [if_neg h1]
    by_cases h2 : x = 2
    · rw [if_pos h2]; exact ⟨7, rfl, by decide⟩
    · rw [if_neg h2]
      by_cases h3 : x = 3
      · rw [if_pos h3]; exact ⟨14, rfl, by decide⟩
      · rw [if_neg h3]; exact ⟨15, rfl, by decide⟩
/-- toldTwice() -/
theorem k_65l (hs : cSs S) (hA : 278 < A) (sA : S A = (2, 3, 16)) (hM4 : M.length ≤ 1024) (hn : ∀ k, k < M.length → (0 ≤ mN M k ∧ mN M k < 16) ∧ (mW M k = 1 ∨ mW M k = 2 ∨ mW M k = 3 ∨ mW M k = 4)) : ∀ (d i fu : Nat) (G : xG_), i + d = M.length → d < fu → cPs G → cMe G M → (∀ p, p < 16 → ∃ a : Nat, G A p = (a : Int) ∧ isTm M i p a) → ∃ x G', c65_7 f fu 72 A (i : Int) (S, G, m) = some (x, (S, G', m)) ∧ (∀ b j, b ≠ A → G' b j = G b j) ∧ fMp M (fun i => isF1 M i 0) i x := by
  intro d
  induction d with
  | zero =>
    intro i fu G h1 h2 hp hM hT
    obtain ⟨fu, rfl⟩ : ∃ t, fu = t + 1 := ⟨fu - 1, by omega⟩
    have : i = M.length := by omega
    rw [this]
    exact ⟨-1, G, st_65a (r := c65_7 f fu) hs hM.1, fun _ _ _ => rfl, .inl ⟨rfl, fun i z1 z2 => by omega⟩⟩
  | succ d ih =>
    intro i fu G h1 h2 hp hM hT
    obtain ⟨fu, rfl⟩ : ∃ t, fu = t + 1 := ⟨fu - 1, by omega⟩
    obtain ⟨a1, a2, a3, a4⟩ := hM.2 i (by omega)
    obtain ⟨c1, c2⟩ := hn i (by omega)
    have ek : xwr ((i : Int) + 1) = ((i + 1 : Nat) : Int) := by rw [xwr_g _ (by omega) (by omega)]; omega
    obtain ⟨pn, hpn⟩ : ∃ pn : Nat, mN M i = (pn : Int) := ⟨(mN M i).toNat, by omega⟩
    rw [hpn] at a1
    obtain ⟨a, t1, t2, t3⟩ := hT pn (by omega)
    obtain ⟨kd, kd1, kd2⟩ := mKd_n (x := mW M i)
    have hrv : rvl (mKd (mW M i)) < 2147483648 := by
      unfold rvl
      split
      · decide
      · split
        · decide
        · split <;> decide
    have st : c65_7 f (fu + 1) 72 A (i : Int) (S, G, m) = _ := st_65b (r := c65_7 f fu) (A := A) hs hp (by omega) hM4 hM.1 a2
    rw [st, st_65c hs hp hA (by omega) sA (by omega) a1 a3 t1, xand_nat (by omega) hrv, ek]
    have key : a &&& rvl (mKd (mW M i)) = 0 ↔ ¬ isF1 M i 0 := by
      rw [and0]
      constructor
      · rintro h ⟨k, _, k2, k3, k4⟩
        obtain ⟨dk, dk1, dk2⟩ := mKd_n (x := mW M k)
        have hk4 := (twc_k (hn k (by omega)).2).mp k4
        rw [dk1] at hk4
        have := h dk ((rvl_t c2 dk).mpr (by omega))
        rw [(t3 dk).mpr ⟨k, k2, by rw [k3, hpn], dk1⟩] at this
        cases this
      · intro h j hj
        cases hq : a.testBit j with
        | false => rfl
        | true =>
          obtain ⟨k, k1, k2, k3⟩ := (t3 j).mp hq
          refine absurd ⟨k, Nat.zero_le _, k1, by rw [k2, hpn], (twc_k (hn k (by omega)).2).mpr ?_⟩ h
          have := (rvl_t c2 j).mp hj
          rw [k3]
          omega
    by_cases cz : a &&& rvl (mKd (mW M i)) = 0
    · rw [if_pos (by rw [cz]; rfl), kd1, xorb (by omega) (by omega)]
      have hA72 : ∀ b j, b < 279 → xup2 G A pn ((a ||| 2 ^ kd : Nat) : Int) b j = G b j := fun b j hb => xup2_n (by omega)
      obtain ⟨x, G', x1, x2, x3⟩ := ih (i + 1) fu (xup2 G A pn ((a ||| 2 ^ kd : Nat) : Int)) (by omega) (by omega) (hp.read (fun b j _ _ hb => hA72 b j hb)) (hM.ge (hA72 _ _ (by omega)) (fun b k z1 z2 => hA72 _ _ (by omega))) (fun p hp' => by
        by_cases cp : p = pn
        · rw [cp, xup2_s]
          refine ⟨_, rfl, Nat.or_lt_two_pow t2 (Nat.pow_lt_pow_right (by decide) kd2), fun j => ?_⟩
          rw [tb_or, t3]
          constructor
          · rintro (⟨k, k1, k2, k3⟩ | k1)
            · exact ⟨k, by omega, k2, k3⟩
            · exact ⟨i, by omega, hpn, by rw [kd1, k1]⟩
          · rintro ⟨k, k1, k2, k3⟩
            by_cases ck : k = i
            · rw [ck, kd1] at k3
              exact .inr (by omega)
            · exact .inl ⟨k, by omega, k2, k3⟩
        · rw [xup2_n (fun y => cp y.2)]
          obtain ⟨a', u1, u2, u3⟩ := hT p hp'
          refine ⟨a', u1, u2, fun j => ?_⟩
          rw [u3]
          constructor
          · rintro ⟨k, k1, k2, k3⟩
            exact ⟨k, by omega, k2, k3⟩
          · rintro ⟨k, k1, k2, k3⟩
            by_cases ck : k = i
            · rw [ck, hpn] at k2
              omega
            · exact ⟨k, by omega, k2, k3⟩)
      exact ⟨x, G', x1, fun b j hb => by rw [x2 b j hb, xup2_n (fun y => hb y.1)], x3.step (key.mp cz)⟩
    · rw [if_neg (fun y => cz (by omega))]
      exact ⟨_, G, rfl, fun _ _ _ => rfl, .inr ⟨i, Nat.le_refl _, by omega, Classical.not_not.mp (fun y => cz (key.mpr y)), fun j z1 z2 => by omega, rfl⟩⟩
theorem k_65 {sl : Nat} (hf : 1100 < f) (hs : cSs S) (hp : cPs G) (hA : 278 < A) (hM : cMe G M) (hM4 : M.length ≤ 1024) (hn : ∀ k, k < M.length → (0 ≤ mN M k ∧ mN M k < 16) ∧ (mW M k = 1 ∨ mW M k = 2 ∨ mW M k = 3 ∨ mW M k = 4)) : ∃ x S' G', c65 f 72 (S, G, (A, sl)) = some (x, (S', G', (A + 1, sl + 16))) ∧ (∀ b, b < A → S' b = S b) ∧ (∀ b j, b < A → G' b j = G b j) ∧ fMp M (fun i => isF1 M i 0) 0 x := by
  have hs' : cSs (xup1 S A (2, 3, 16)) := fun k hk => by rw [xup1_n (by omega)]; exact hs k hk
  have z : ∀ b j, b < A → xz1 G A (fun _ => 0) b j = G b j := fun b j hb => xz1_n j (by omega)
  obtain ⟨x, G', x1, x2, x3⟩ := k_65l (f := f) (m := (A + 1, sl + 16)) hs' hA (xup1_s _ _ _) hM4 hn M.length 0 f (xz1 G A (fun _ => 0)) (by omega) (by omega) (hp.read (fun b j _ _ hb => z b j (by omega))) (hM.ge (z _ _ (by omega)) (fun b k z1 z2 => z _ _ (by omega))) (fun p _ => ⟨0, xz1_s _ _ _ _, by decide, fun j => by
    rw [Nat.zero_testBit]
    exact ⟨fun q => (by cases q), fun ⟨k, k1, _⟩ => absurd k1 (Nat.not_lt_zero k)⟩⟩)
  refine ⟨x, xup1 S A (2, 3, 16), G', ?_, fun b hb => xup1_n (Nat.ne_of_lt hb), fun b j hb => by rw [x2 b j (by omega), z b j hb], x3⟩
  unfold c65
  rw [cq_na_ok (by decide) (by decide) (by decide), Option.bind_some]
  exact x1
end
