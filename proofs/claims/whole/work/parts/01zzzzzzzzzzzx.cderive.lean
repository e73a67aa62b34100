/-! THE CLASS: derive(), steps -/
def c155s (r2 : Nat → Nat → Int → xT_ → Option (Int × xT_)) (f : Nat) (x0 : Nat) (x1 : Nat) (x2 : Int) (R104 : (Int × xT_)) : Option (Int × xT_) := (if (R104.1) = 0 then c155_55  f  R104.2 else ((cq_gr 10 0 18 (x0) R104.2).bind fun v111 => ((cq_gr 10 9 18 (x0) R104.2).bind fun v113 => ((cq_is 9 14 (v111) R104.2).bind fun _ => ((c142 f (v111) (v113) R104.2).bind fun R115 => (if (R115.1) = 0 then c155_49 r2 f (x0) (x1) (x2) R115.2 else ((cq_gi 6 0 20 (x1) R115.2).bind fun v122 => ((cq_gr 10 9 18 (x0) R115.2).bind fun v124 => ((cq_is 10 18 (x0) R115.2).bind fun _ => ((c156 f (x0) (v122) (v124) R115.2).bind fun R126 => (if ¬ (R126.1) = 0 then c155_49 r2 f (x0) (x1) (x2) R126.2 else (some (0, R126.2)))))))))))))
theorem c155s_e (r2 : Nat → Nat → Int → xT_ → Option (Int × xT_)) (f : Nat) (x0 : Nat) (x1 : Nat) (x2 : Int) (T : xT_) : c155_2b r2 f x0 x1 x2 T = (if (10000000) ≤ (x2) then c155_55  f  T else ((cq_gr 10 0 18 (x0) T).bind fun v102 => ((cq_is 9 14 (v102) T).bind fun _ => ((c132 f (v102) T).bind fun R104 => c155s r2 f x0 x1 x2 R104)))) := rfl
def c155t (r2 : Nat → Nat → Int → xT_ → Option (Int × xT_)) (f : Nat) (x0 : Nat) (x1 : Nat) (x2 : Int) (R115 : (Int × xT_)) : Option (Int × xT_) := (if (R115.1) = 0 then c155_49 r2 f (x0) (x1) (x2) R115.2 else ((cq_gi 6 0 20 (x1) R115.2).bind fun v122 => ((cq_gr 10 9 18 (x0) R115.2).bind fun v124 => ((cq_is 10 18 (x0) R115.2).bind fun _ => ((c156 f (x0) (v122) (v124) R115.2).bind fun R126 => (if ¬ (R126.1) = 0 then c155_49 r2 f (x0) (x1) (x2) R126.2 else (some (0, R126.2))))))))
theorem c155t_e (r2 : Nat → Nat → Int → xT_ → Option (Int × xT_)) (f : Nat) (x0 : Nat) (x1 : Nat) (x2 : Int) (R104 : (Int × xT_)) : c155s r2 f x0 x1 x2 R104 = (if (R104.1) = 0 then c155_55  f  R104.2 else ((cq_gr 10 0 18 (x0) R104.2).bind fun v111 => ((cq_gr 10 9 18 (x0) R104.2).bind fun v113 => ((cq_is 9 14 (v111) R104.2).bind fun _ => ((c142 f (v111) (v113) R104.2).bind fun R115 => c155t r2 f x0 x1 x2 R115))))) := rfl
def c155w (r2 : Nat → Nat → Int → xT_ → Option (Int × xT_)) (f : Nat) (x0 : Nat) (x1 : Nat) (x2 : Int) (R126 : (Int × xT_)) : Option (Int × xT_) := (if ¬ (R126.1) = 0 then c155_49 r2 f (x0) (x1) (x2) R126.2 else (some (0, R126.2)))
theorem c155w_e (r2 : Nat → Nat → Int → xT_ → Option (Int × xT_)) (f : Nat) (x0 : Nat) (x1 : Nat) (x2 : Int) (R115 : (Int × xT_)) : c155t r2 f x0 x1 x2 R115 = (if (R115.1) = 0 then c155_49 r2 f (x0) (x1) (x2) R115.2 else ((cq_gi 6 0 20 (x1) R115.2).bind fun v122 => ((cq_gr 10 9 18 (x0) R115.2).bind fun v124 => ((cq_is 10 18 (x0) R115.2).bind fun _ => ((c156 f (x0) (v122) (v124) R115.2).bind fun R126 => c155w r2 f x0 x1 x2 R126))))) := rfl
section
variable {f u i p : Nat} {S : Nat → Nat × Nat × Nat} {G G1 G2 : xG_} {m : Nat × Nat} {r2 : Nat → Nat → Int → xT_ → Option (Int × xT_)} {w b : Int} {R : Int × xT_}
theorem st_155a (hs : cSs S) (hp : cPs G) (hi : i < 10000000) (e : c132 f 83 (S, G, m) = some R) : c155_2b r2 f 93 u (i : Int) (S, G, m) = c155s r2 f 93 u (i : Int) R := by
  rw [c155s_e]
  simp (disch := omega) only [cq_gi, cq_gr, cq_a, cq_s, cq_p, cq_pr, cq_is, cq_ar, cq_ab, cq_ln, xq_nz, Option.bind_some, xup2_n, xup2_s, Int.toNat_natCast, Int.reduceToNat, if_pos, if_neg, true_and, and_true, and_self, eq_self, if_true, reduceIte, not_true_eq_false, not_false_eq_true, or_true, true_or, s93 hs, s83 hs, p93_0 hp, e]
theorem st_155z : c155s r2 f 93 u (i : Int) (0, (S, G, m)) = some (1, (S, G, m)) := by
  rw [c155t_e]
  unfold c155_55
  simp (disch := omega) only [cq_gi, cq_gr, cq_a, cq_s, cq_p, cq_pr, cq_is, cq_ar, cq_ab, cq_ln, xq_nz, Option.bind_some, xup2_n, xup2_s, Int.toNat_natCast, Int.reduceToNat, if_pos, if_neg, true_and, and_true, and_self, eq_self, if_true, reduceIte, not_true_eq_false, not_false_eq_true, or_true, true_or, s93]
theorem st_155b (hs : cSs S) (hp : cPs G) (e : c142 f 83 103 (S, G, m) = some R) : c155s r2 f 93 u (i : Int) (1, (S, G, m)) = c155t r2 f 93 u (i : Int) R := by
  rw [c155t_e]
  simp (disch := omega) only [cq_gi, cq_gr, cq_a, cq_s, cq_p, cq_pr, cq_is, cq_ar, cq_ab, cq_ln, xq_nz, Option.bind_some, xup2_n, xup2_s, Int.toNat_natCast, Int.reduceToNat, if_pos, if_neg, true_and, and_true, and_self, eq_self, if_true, reduceIte, not_true_eq_false, not_false_eq_true, or_true, true_or, s93 hs, s83 hs, p93_0 hp, p93_9 hp, e, Int.reduceEq]
theorem st_155n (ei : xwr ((i : Int) + 1) = ((i + 1 : Nat) : Int)) : c155t r2 f 93 u (i : Int) (0, (S, G, m)) = r2 93 u ((i + 1 : Nat) : Int) (S, G, m) := by
  rw [c155w_e]
  unfold c155_49
  simp (disch := omega) only [cq_gi, cq_gr, cq_a, cq_s, cq_p, cq_pr, cq_is, cq_ar, cq_ab, cq_ln, xq_nz, Option.bind_some, xup2_n, xup2_s, Int.toNat_natCast, Int.reduceToNat, if_pos, if_neg, true_and, and_true, and_self, eq_self, if_true, reduceIte, not_true_eq_false, not_false_eq_true, or_true, true_or, ei]
theorem st_155c (hs : cSs S) (hp : cPs G) (hu : 278 < u) (us : S u = (1, 6, 20)) (h0 : G u 0 = (p : Int)) (e : c156 f 93 (p : Int) 103 (S, G, m) = some R) : c155t r2 f 93 u (i : Int) (1, (S, G, m)) = c155w r2 f 93 u (i : Int) R := by
  rw [c155w_e]
  simp (disch := omega) only [cq_gi, cq_gr, cq_a, cq_s, cq_p, cq_pr, cq_is, cq_ar, cq_ab, cq_ln, xq_nz, Option.bind_some, xup2_n, xup2_s, Int.toNat_natCast, Int.reduceToNat, if_pos, if_neg, true_and, and_true, and_self, eq_self, if_true, reduceIte, not_true_eq_false, not_false_eq_true, or_true, true_or, s93 hs, p93_9 hp, us, h0, e, Int.reduceEq]
theorem st_155y (ei : xwr ((i : Int) + 1) = ((i + 1 : Nat) : Int)) : c155w r2 f 93 u (i : Int) (1, (S, G, m)) = r2 93 u ((i + 1 : Nat) : Int) (S, G, m) := by
  unfold c155w c155_49
  simp (disch := omega) only [cq_gi, cq_gr, cq_a, cq_s, cq_p, cq_pr, cq_is, cq_ar, cq_ab, cq_ln, xq_nz, Option.bind_some, xup2_n, xup2_s, Int.toNat_natCast, Int.reduceToNat, if_pos, if_neg, true_and, and_true, and_self, eq_self, if_true, reduceIte, not_true_eq_false, not_false_eq_true, or_true, true_or, ei, Int.reduceEq]
theorem st_155o : c155w r2 f 93 u (i : Int) (0, (S, G, m)) = some (0, (S, G, m)) := by
  unfold c155w
  simp (disch := omega) only [cq_gi, cq_gr, cq_a, cq_s, cq_p, cq_pr, cq_is, cq_ar, cq_ab, cq_ln, xq_nz, Option.bind_some, xup2_n, xup2_s, Int.toNat_natCast, Int.reduceToNat, if_pos, if_neg, true_and, and_true, and_self, eq_self, if_true, reduceIte, not_true_eq_false, not_false_eq_true, or_true, true_or, s93]
end
