/-! THE CLASS: isRepeated() -/
section
variable {f u x i j c l st e nw cap fi : Nat} {S : Nat → Nat × Nat × Nat} {G : xG_} {m : Nat × Nat} {kd a1v a2v rk lo hi an : Int} {r59 : Nat → Int → Nat → Int → Int → Int → xT_ → Option (Int × xT_)} {r120 : Nat → Int → Nat → Int → Int → Int → Int → Int → xT_ → Option (Int × xT_)} {r6 : Nat → Int → Nat → Int → Int → Int → xT_ → Option (Int × xT_)} {jj : Int}
theorem st_137s0 (hj : xwr (jj + (-1)) = jj - 1) : c137_120b r59 r120 f 83 (l : Int) x (i : Int) an jj 0 (c : Int) (S, G, m) = r59 83 (l : Int) x (i : Int) an (jj - 1) (S, G, m) := by
  unfold c137_120b c137_189
  simp (disch := omega) only [cq_gi, cq_gr, cq_a, cq_s, cq_p, cq_pr, cq_is, cq_ar, cq_ab, cq_ln, xq_nz, Option.bind_some, xup2_n, xup2_s, Int.toNat_natCast, Int.reduceToNat, if_pos, if_neg, true_and, and_true, and_self, eq_self, if_true, reduceIte, not_true_eq_false, not_false_eq_true, or_true, true_or, hj]
theorem st_137z (hs : cSs S) (h3 : G 83 3 = (u : Int)) (hu : 278 < u) (us : S u = (1, 6, 20)) (us4 : S (u + 4) = (2, 3, 8)) (w11 : G u 11 = ((u + 4 : Nat) : Int)) (hl : l < 8) (h4 : G (u + 4) l = (nw : Int)) : c137_120b r59 r120 f 83 (l : Int) x (i : Int) an jj 1 (nw : Int) (S, G, m) = some (1, (S, G, m)) := by
  unfold c137_120b c137_189
  simp (disch := omega) only [cq_gi, cq_gr, cq_a, cq_s, cq_p, cq_pr, cq_is, cq_ar, cq_ab, cq_ln, xq_nz, Option.bind_some, xup2_n, xup2_s, Int.toNat_natCast, Int.reduceToNat, if_pos, if_neg, true_and, and_true, and_self, eq_self, if_true, reduceIte, not_true_eq_false, not_false_eq_true, or_true, true_or, s83 hs, h3, us, us4, w11, h4, Int.reduceEq]
theorem st_137c (hs : cSs S) (h3 : G 83 3 = (u : Int)) (hu : 278 < u) (us : S u = (1, 6, 20)) (us4 : S (u + 4) = (2, 3, 8)) (us5 : S (u + 5) = (2, 3, 32)) (w11 : G u 11 = ((u + 4 : Nat) : Int)) (w12 : G u 12 = ((u + 5 : Nat) : Int)) (hl : l < 8) (h4 : G (u + 4) l = (nw : Int)) (hc : c < nw) (ee : xwr ((xwr (4 * (l : Int))) + (c : Int)) = (e : Int)) (he : e < 32) (hk : G (u + 5) e = kd) (xs : S x = (1, 5, 4)) (e1 : c70 f x (i : Int) (c : Int) (S, G, m) = some (a1v, (S, G, m))) (e2 : c70 f x jj (c : Int) (S, G, m) = some (a2v, (S, G, m))) (ec : xwr ((c : Int) + 1) = ((c + 1 : Nat) : Int)) : c137_120b r59 r120 f 83 (l : Int) x (i : Int) an jj 1 (c : Int) (S, G, m) = r120 83 (l : Int) x (i : Int) an jj (if kd = 3 ∨ a1v = a2v then 1 else 0) ((c + 1 : Nat) : Int) (S, G, m) := by
  by_cases q1 : kd = 3
  · rw [if_pos (.inl q1)]
    unfold c137_120b c137_176 c137_181
    simp (disch := omega) only [cq_gi, cq_gr, cq_a, cq_s, cq_p, cq_pr, cq_is, cq_ar, cq_ab, cq_ln, xq_nz, Option.bind_some, xup2_n, xup2_s, Int.toNat_natCast, Int.reduceToNat, if_pos, if_neg, true_and, and_true, and_self, eq_self, if_true, reduceIte, not_true_eq_false, not_false_eq_true, or_true, true_or, s83 hs, h3, us, us4, us5, w11, w12, h4, ee, hk, q1, ec, Int.reduceEq]
  · by_cases q2 : a1v = a2v
    · rw [if_pos (.inr q2)]
      unfold c137_120b c137_176 c137_181
      simp (disch := omega) only [cq_gi, cq_gr, cq_a, cq_s, cq_p, cq_pr, cq_is, cq_ar, cq_ab, cq_ln, xq_nz, Option.bind_some, xup2_n, xup2_s, Int.toNat_natCast, Int.reduceToNat, if_pos, if_neg, true_and, and_true, and_self, eq_self, if_true, reduceIte, not_true_eq_false, not_false_eq_true, or_true, true_or, s83 hs, h3, us, us4, us5, w11, w12, h4, ee, hk, q1, xs, e1, e2, q2, ec, Int.reduceEq]
    · rw [if_neg (fun y => y.elim q1 q2)]
      unfold c137_120b c137_181
      simp (disch := omega) only [cq_gi, cq_gr, cq_a, cq_s, cq_p, cq_pr, cq_is, cq_ar, cq_ab, cq_ln, xq_nz, Option.bind_some, xup2_n, xup2_s, Int.toNat_natCast, Int.reduceToNat, if_pos, if_neg, true_and, and_true, and_self, eq_self, if_true, reduceIte, not_true_eq_false, not_false_eq_true, or_true, true_or, s83 hs, h3, us, us4, us5, w11, w12, h4, ee, hk, q1, xs, e1, e2, q2, ec, Int.reduceEq]
theorem st_137o0 : c137_59b r59 f 83 (l : Int) x (i : Int) 0 jj (S, G, m) = some (0, (S, G, m)) := by
  unfold c137_59b c137_202
  simp (disch := omega) only [cq_gi, cq_gr, cq_a, cq_s, cq_p, cq_pr, cq_is, cq_ar, cq_ab, cq_ln, xq_nz, Option.bind_some, xup2_n, xup2_s, Int.toNat_natCast, Int.reduceToNat, if_pos, if_neg, true_and, and_true, and_self, eq_self, if_true, reduceIte, not_true_eq_false, not_false_eq_true, or_true, true_or, s83]
theorem st_137oe (hs : cSs S) (hp : cPs G) (h6 : G 83 6 = (st : Int)) (hst : st < 8) (h88 : G 88 st = (fi : Int)) (ha : an ≠ 0) (hj : jj < (fi : Int)) : c137_59b r59 f 83 (l : Int) x (i : Int) an jj (S, G, m) = some (0, (S, G, m)) := by
  unfold c137_59b c137_202
  simp (disch := omega) only [cq_gi, cq_gr, cq_a, cq_s, cq_p, cq_pr, cq_is, cq_ar, cq_ab, cq_ln, xq_nz, Option.bind_some, xup2_n, xup2_s, Int.toNat_natCast, Int.reduceToNat, if_pos, if_neg, true_and, and_true, and_self, eq_self, if_true, reduceIte, not_true_eq_false, not_false_eq_true, or_true, true_or, s83 hs, s88 hs, p83_9 hp, h6, h88, ha, hj]
theorem st_137o (hs : cSs S) (hp : cPs G) (h6 : G 83 6 = (st : Int)) (hst : st < 8) (h88 : G 88 st = (fi : Int)) (ha : an ≠ 0) (hj : fi ≤ j) (xs : S x = (1, 5, 4)) (ds : S (x + 2) = (2, 3, cap)) (hjc : j < cap) (w3 : G x 3 = ((x + 2 : Nat) : Int)) (hr : G (x + 2) j = rk) (hl : l < 8) (h85 : G 85 l = lo) (h86 : G 86 l = hi) : c137_59b r59 f 83 (l : Int) x (i : Int) an (j : Int) (S, G, m) = c137_120 r59 f f 83 (l : Int) x (i : Int) an (j : Int) (if lo ≤ rk ∧ rk ≤ hi then 1 else 0) 0 (S, G, m) := by
  by_cases q1 : lo ≤ rk
  · by_cases q2 : rk ≤ hi
    · rw [if_pos ⟨q1, q2⟩]
      unfold c137_59b c137_115
      simp (disch := omega) only [cq_gi, cq_gr, cq_a, cq_s, cq_p, cq_pr, cq_is, cq_ar, cq_ab, cq_ln, xq_nz, Option.bind_some, xup2_n, xup2_s, Int.toNat_natCast, Int.reduceToNat, if_pos, if_neg, true_and, and_true, and_self, eq_self, if_true, reduceIte, not_true_eq_false, not_false_eq_true, or_true, true_or, s83 hs, s85 hs, s86 hs, s88 hs, p83_1 hp, p83_2 hp, p83_9 hp, h6, h88, ha, xs, ds, w3, hr, h85, h86]
    · rw [if_neg (fun y => q2 y.2)]
      unfold c137_59b c137_114 c137_115
      simp (disch := omega) only [cq_gi, cq_gr, cq_a, cq_s, cq_p, cq_pr, cq_is, cq_ar, cq_ab, cq_ln, xq_nz, Option.bind_some, xup2_n, xup2_s, Int.toNat_natCast, Int.reduceToNat, if_pos, if_neg, true_and, and_true, and_self, eq_self, if_true, reduceIte, not_true_eq_false, not_false_eq_true, or_true, true_or, s83 hs, s85 hs, s86 hs, s88 hs, p83_1 hp, p83_2 hp, p83_9 hp, h6, h88, ha, xs, ds, w3, hr, h85, h86]
  · rw [if_neg (fun y => q1 y.1)]
    unfold c137_59b c137_114 c137_115
    simp (disch := omega) only [cq_gi, cq_gr, cq_a, cq_s, cq_p, cq_pr, cq_is, cq_ar, cq_ab, cq_ln, xq_nz, Option.bind_some, xup2_n, xup2_s, Int.toNat_natCast, Int.reduceToNat, if_pos, if_neg, true_and, and_true, and_self, eq_self, if_true, reduceIte, not_true_eq_false, not_false_eq_true, or_true, true_or, s83 hs, s85 hs, s86 hs, s88 hs, p83_1 hp, p83_2 hp, p83_9 hp, h6, h88, ha, xs, ds, w3, hr, h85, h86]
theorem st_137f {jm : Int} (hs : cSs S) (h3 : G 83 3 = (u : Int)) (hu : 278 < u) (us : S u = (1, 6, 20)) (us4 : S (u + 4) = (2, 3, 8)) (w11 : G u 11 = ((u + 4 : Nat) : Int)) (hl : l < 8) (h4 : G (u + 4) l = (nw : Int)) (ej : xwr ((i : Int) - 1) = jm) : c137_6b r6 f 83 (l : Int) x (i : Int) an (nw : Int) (S, G, m) = c137_59 f f 83 (l : Int) x (i : Int) an jm (S, G, m) := by
  unfold c137_6b
  simp (disch := omega) only [cq_gi, cq_gr, cq_a, cq_s, cq_p, cq_pr, cq_is, cq_ar, cq_ab, cq_ln, xq_nz, Option.bind_some, xup2_n, xup2_s, Int.toNat_natCast, Int.reduceToNat, if_pos, if_neg, true_and, and_true, and_self, eq_self, if_true, reduceIte, not_true_eq_false, not_false_eq_true, or_true, true_or, s83 hs, h3, us, us4, w11, h4, ej]
theorem st_137g (hs : cSs S) (h3 : G 83 3 = (u : Int)) (hu : 278 < u) (us : S u = (1, 6, 20)) (us4 : S (u + 4) = (2, 3, 8)) (us5 : S (u + 5) = (2, 3, 32)) (w11 : G u 11 = ((u + 4 : Nat) : Int)) (w12 : G u 12 = ((u + 5 : Nat) : Int)) (hl : l < 8) (h4 : G (u + 4) l = (nw : Int)) (hc : c < nw) (ee : xwr ((xwr (4 * (l : Int))) + (c : Int)) = (e : Int)) (he : e < 32) (hk : G (u + 5) e = kd) (ec : xwr ((c : Int) + 1) = ((c + 1 : Nat) : Int)) : c137_6b r6 f 83 (l : Int) x (i : Int) an (c : Int) (S, G, m) = r6 83 (l : Int) x (i : Int) (xor_ an (if kd = 3 then 1 else 0)) ((c + 1 : Nat) : Int) (S, G, m) := by
  by_cases q : kd = 3
  · rw [if_pos q]
    unfold c137_6b c137_45
    simp (disch := omega) only [cq_gi, cq_gr, cq_a, cq_s, cq_p, cq_pr, cq_is, cq_ar, cq_ab, cq_ln, xq_nz, Option.bind_some, xup2_n, xup2_s, Int.toNat_natCast, Int.reduceToNat, if_pos, if_neg, true_and, and_true, and_self, eq_self, if_true, reduceIte, not_true_eq_false, not_false_eq_true, or_true, true_or, s83 hs, h3, us, us4, us5, w11, w12, h4, ee, hk, q, ec]
  · rw [if_neg q]
    unfold c137_6b c137_45
    simp (disch := omega) only [cq_gi, cq_gr, cq_a, cq_s, cq_p, cq_pr, cq_is, cq_ar, cq_ab, cq_ln, xq_nz, Option.bind_some, xup2_n, xup2_s, Int.toNat_natCast, Int.reduceToNat, if_pos, if_neg, true_and, and_true, and_self, eq_self, if_true, reduceIte, not_true_eq_false, not_false_eq_true, or_true, true_or, s83 hs, h3, us, us4, us5, w11, w12, h4, ee, hk, q, ec]
end
