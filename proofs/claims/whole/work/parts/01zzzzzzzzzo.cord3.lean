/-! THE CLASS: orderRings(), its steps -/
section
variable {f q p np tn dn rc : Nat} {S : Nat → Nat × Nat × Nat} {G : xG_} {m : Nat × Nat} {r4 : Nat → Int → Int → xT_ → Option (xT_)} {r14 : Nat → Int → Int → Int → xT_ → Option (xT_)} {x : Nat}
theorem st_25a (qs : S q = (1, 3, 14)) (h1 : G q 1 = (np : Int)) : c25_14b r4 r14 f q (dn : Int) (tn : Int) (np : Int) (S, G, m) = r4 q (dn : Int) (xwr ((tn : Int) + 1)) (S, G, m) := by
  unfold c25_14b
  simp (disch := omega) only [cq_gi, cq_gr, cq_a, cq_s, cq_p, cq_pr, cq_is, cq_ar, cq_ab, cq_ln, xq_nz, Option.bind_some, xup2_n, xup2_s, Int.toNat_natCast, Int.reduceToNat, if_pos, if_neg, true_and, and_true, and_self, eq_self, if_true, reduceIte, not_true_eq_false, not_false_eq_true, or_true, true_or, qs, h1]
theorem st_25b (hq : 82 < q) (hp : p < np) (hn : np ≤ 16) (qs : S q = (1, 3, 14)) (q8 : S (q + 8) = (2, 3, 16)) (w10 : G q 10 = ((q + 8 : Nat) : Int)) (h1 : G q 1 = (np : Int)) (hx : G (q + 8) p = (x : Int)) (hc : x ≠ p ∨ ¬ xand (xshr (dn : Int) (p : Int)) 1 = 0) : c25_14b r4 r14 f q (dn : Int) (tn : Int) (p : Int) (S, G, m) = r14 q (dn : Int) (tn : Int) (xwr ((p : Int) + 1)) (S, G, m) := by
  by_cases c : x = p
  · have hc' : ¬ xand (xshr (dn : Int) (p : Int)) 1 = 0 := by rcases hc with y | y; exact absurd c y; exact y
    rw [c] at hx
    clear hc
    unfold c25_14b c25_44 c25_45 c25_92
    simp (disch := omega) only [cq_gi, cq_gr, cq_a, cq_s, cq_p, cq_pr, cq_is, cq_ar, cq_ab, cq_ln, xq_nz, Option.bind_some, xup2_n, xup2_s, Int.toNat_natCast, Int.reduceToNat, if_pos, if_neg, true_and, and_true, and_self, eq_self, if_true, reduceIte, not_true_eq_false, not_false_eq_true, or_true, true_or, qs, q8, w10, h1, hx, hc']
  · clear hc
    unfold c25_14b c25_44 c25_45 c25_92
    simp (disch := omega) only [cq_gi, cq_gr, cq_a, cq_s, cq_p, cq_pr, cq_is, cq_ar, cq_ab, cq_ln, xq_nz, Option.bind_some, xup2_n, xup2_s, Int.toNat_natCast, Int.reduceToNat, if_pos, if_neg, true_and, and_true, and_self, eq_self, if_true, reduceIte, not_true_eq_false, not_false_eq_true, or_true, true_or, qs, q8, w10, h1, hx]
theorem st_25c {w : Int} (hq : 82 < q) (hp : p < np) (hn : np ≤ 16) (qs : S q = (1, 3, 14)) (q8 : S (q + 8) = (2, 3, 16)) (w10 : G q 10 = ((q + 8 : Nat) : Int)) (h1 : G q 1 = (np : Int)) (hx : G (q + 8) p = (p : Int)) (hc : xand (xshr (dn : Int) (p : Int)) 1 = 0) (e : c27 f q (p : Int) (S, G, m) = some (w, (S, G, m))) (hw : ¬ xand w (xxor (dn : Int) (-1)) = 0) : c25_14b r4 r14 f q (dn : Int) (tn : Int) (p : Int) (S, G, m) = r14 q (dn : Int) (tn : Int) (xwr ((p : Int) + 1)) (S, G, m) := by
  unfold c25_14b c25_45 c25_92
  simp (disch := omega) only [cq_gi, cq_gr, cq_a, cq_s, cq_p, cq_pr, cq_is, cq_ar, cq_ab, cq_ln, xq_nz, Option.bind_some, xup2_n, xup2_s, Int.toNat_natCast, Int.reduceToNat, if_pos, if_neg, true_and, and_true, and_self, eq_self, if_true, reduceIte, not_true_eq_false, not_false_eq_true, or_true, true_or, qs, q8, w10, h1, hx, hc, e, hw]
theorem st_25d {w b : Int} (hq : 82 < q) (hp : p < np) (hn : np ≤ 16) (hrc : rc < 16) (qs : S q = (1, 3, 14)) (q8 : S (q + 8) = (2, 3, 16)) (q9 : S (q + 9) = (2, 3, 16)) (w10 : G q 10 = ((q + 8 : Nat) : Int)) (w11 : G q 11 = ((q + 9 : Nat) : Int)) (h1 : G q 1 = (np : Int)) (h12 : G q 12 = (rc : Int)) (hx : G (q + 8) p = (p : Int)) (hc : xand (xshr (dn : Int) (p : Int)) 1 = 0) (e : c27 f q (p : Int) (S, G, m) = some (w, (S, G, m))) (hw : xand w (xxor (dn : Int) (-1)) = 0) (er : xwr ((rc : Int) + 1) = ((rc + 1 : Nat) : Int)) (eb : c26 f q (p : Int) (S, xup2 (xup2 G (q + 9) rc (p : Int)) q 12 ((rc + 1 : Nat) : Int), m) = some (b, (S, xup2 (xup2 G (q + 9) rc (p : Int)) q 12 ((rc + 1 : Nat) : Int), m))) : c25_14b r4 r14 f q (dn : Int) (tn : Int) (p : Int) (S, G, m) = r14 q (xor_ (dn : Int) b) (tn : Int) (xwr ((p : Int) + 1)) (S, xup2 (xup2 G (q + 9) rc (p : Int)) q 12 ((rc + 1 : Nat) : Int), m) := by
  unfold c25_14b c25_45 c25_92
  simp (disch := omega) only [cq_gi, cq_gr, cq_a, cq_s, cq_p, cq_pr, cq_is, cq_ar, cq_ab, cq_ln, xq_nz, Option.bind_some, xup2_n, xup2_s, Int.toNat_natCast, Int.reduceToNat, if_pos, if_neg, true_and, and_true, and_self, eq_self, if_true, reduceIte, not_true_eq_false, not_false_eq_true, or_true, true_or, qs, q8, q9, w10, w11, h1, h12, hx, hc, e, hw, er, eb]
end
