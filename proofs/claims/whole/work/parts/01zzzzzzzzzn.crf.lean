/-! THE CLASS: ringFault() -/
section
variable {f q u l r n nx np : Nat} {S : Nat → Nat × Nat × Nat} {G : xG_} {m : Nat × Nat} {K : pCd} {Ls : List pLt} {T : Nat → Nat} {r2 : Nat → Int → xT_ → Option (Int × xT_)} {r19 : Nat → Int → Nat → Int → xT_ → Option (Int × xT_)} {kd g0 pl : Int} {R : List pRu}
theorem st_28a (us : S u = (1, 6, 20)) (h8 : G u 8 = (n : Int)) : c28_19b r2 r19 f q (r : Int) u (n : Int) (S, G, m) = r2 q (xwr ((r : Int) + 1)) (S, G, m) := by
  unfold c28_19b
  simp (disch := omega) only [cq_gi, cq_gr, cq_a, cq_s, cq_p, cq_pr, cq_is, cq_ar, cq_ab, cq_ln, xq_nz, Option.bind_some, xup2_n, xup2_s, Int.toNat_natCast, Int.reduceToNat, if_pos, if_neg, true_and, and_true, and_self, eq_self, if_true, reduceIte, not_true_eq_false, not_false_eq_true, or_true, true_or, us, h8]
theorem st_28b (u2 : 278 < u) (hl8 : l < 8) (us : S u = (1, 6, 20)) (us2 : S (u + 2) = (2, 3, 8)) (w9 : G u 9 = ((u + 2 : Nat) : Int)) (h8 : G u 8 = (n : Int)) (hl : l < n) (hk : G (u + 2) l = kd) (h3 : G u 3 = g0) : c28_19b r2 r19 f q (r : Int) u (l : Int) (S, G, m) = if kd = 9 ∨ kd = 15 ∧ g0 ≠ -1 then c28_62 r2 r19 f q (r : Int) u (l : Int) 1 (S, G, m) else c28_97 r2 r19 f q (r : Int) u (l : Int) (S, G, m) := by
  by_cases c9 : kd = 9
  · rw [if_pos (.inl c9)]
    rw [c9] at hk
    unfold c28_19b c28_57
    simp (disch := omega) only [cq_gi, cq_gr, cq_a, cq_s, cq_p, cq_pr, cq_is, cq_ar, cq_ab, cq_ln, xq_nz, Option.bind_some, xup2_n, xup2_s, Int.toNat_natCast, Int.reduceToNat, if_pos, if_neg, true_and, and_true, and_self, eq_self, if_true, reduceIte, not_true_eq_false, not_false_eq_true, or_true, true_or, us, us2, w9, h8, hk]
  · by_cases c15 : kd = 15
    · rw [c15] at hk
      by_cases cg : g0 = -1
      · rw [if_neg (fun y => by rcases y with y | y; exact c9 y; exact y.2 cg)]
        rw [cg] at h3
        unfold c28_19b c28_61 c28_62
        simp (disch := omega) only [cq_gi, cq_gr, cq_a, cq_s, cq_p, cq_pr, cq_is, cq_ar, cq_ab, cq_ln, xq_nz, Option.bind_some, xup2_n, xup2_s, Int.toNat_natCast, Int.reduceToNat, if_pos, if_neg, true_and, and_true, and_self, eq_self, if_true, reduceIte, not_true_eq_false, not_false_eq_true, or_true, true_or, us, us2, w9, h8, hk, h3]
      · rw [if_pos (.inr ⟨c15, cg⟩)]
        unfold c28_19b c28_57
        simp (disch := omega) only [cq_gi, cq_gr, cq_a, cq_s, cq_p, cq_pr, cq_is, cq_ar, cq_ab, cq_ln, xq_nz, Option.bind_some, xup2_n, xup2_s, Int.toNat_natCast, Int.reduceToNat, if_pos, if_neg, true_and, and_true, and_self, eq_self, if_true, reduceIte, not_true_eq_false, not_false_eq_true, or_true, true_or, us, us2, w9, h8, hk, h3, cg]
    · rw [if_neg (fun y => by rcases y with y | y; exact c9 y; exact c15 y.1)]
      unfold c28_19b c28_61 c28_62
      simp (disch := omega) only [cq_gi, cq_gr, cq_a, cq_s, cq_p, cq_pr, cq_is, cq_ar, cq_ab, cq_ln, xq_nz, Option.bind_some, xup2_n, xup2_s, Int.toNat_natCast, Int.reduceToNat, if_pos, if_neg, true_and, and_true, and_self, eq_self, if_true, reduceIte, not_true_eq_false, not_false_eq_true, or_true, true_or, us, us2, w9, h8, hk]
theorem st_28c {p h x y : Nat} (hq : 82 < q) (u2 : 278 < u) (hl8 : l < 8) (hp : p < 16) (hh : h < 16) (us : S u = (1, 6, 20)) (us3 : S (u + 3) = (2, 3, 8)) (qs : S q = (1, 3, 14)) (q8 : S (q + 8) = (2, 3, 16)) (w10 : G u 10 = ((u + 3 : Nat) : Int)) (wq : G q 10 = ((q + 8 : Nat) : Int)) (h3 : G (u + 3) l = (p : Int)) (h0 : G u 0 = (h : Int)) (h1 : G u 1 = pl) (hx : G (q + 8) p = (x : Int)) (hy : G (q + 8) h = (y : Int)) : c28_62 r2 r19 f q (r : Int) u (l : Int) 1 (S, G, m) = if x = y then some (pl, (S, G, m)) else c28_97 r2 r19 f q (r : Int) u (l : Int) (S, G, m) := by
  by_cases c : x = y
  · rw [if_pos c]
    rw [c] at hx
    unfold c28_62
    simp (disch := omega) only [cq_gi, cq_gr, cq_a, cq_s, cq_p, cq_pr, cq_is, cq_ar, cq_ab, cq_ln, xq_nz, Option.bind_some, xup2_n, xup2_s, Int.toNat_natCast, Int.reduceToNat, if_pos, if_neg, true_and, and_true, and_self, eq_self, if_true, reduceIte, not_true_eq_false, not_false_eq_true, or_true, true_or, us, us3, qs, q8, w10, wq, h3, h0, h1, hx, hy]
  · rw [if_neg c]
    unfold c28_62
    simp (disch := omega) only [cq_gi, cq_gr, cq_a, cq_s, cq_p, cq_pr, cq_is, cq_ar, cq_ab, cq_ln, xq_nz, Option.bind_some, xup2_n, xup2_s, Int.toNat_natCast, Int.reduceToNat, if_pos, if_neg, true_and, and_true, and_self, eq_self, if_true, reduceIte, not_true_eq_false, not_false_eq_true, or_true, true_or, us, us3, qs, q8, w10, wq, h3, h0, hx, hy]
end
