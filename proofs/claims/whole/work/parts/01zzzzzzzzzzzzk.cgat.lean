/-! THE CLASS: gather(), steps -/
def c157s (r4 : Nat → Nat → Int → Int → xT_ → Option (Int × xT_)) (r43 : Nat → Nat → Int → Int → Int → xT_ → Option (Int × xT_)) (f : Nat) (x0 : Nat) (x1 : Nat) (x2 : Int) (x3 : Int) (x4 : Int) (R148 : (Int × xT_)) : Option (Int × xT_) := (if (R148.1) = 0 then c157_185 r4 f (x0) (x1) (x2) (x3) R148.2 else ((cq_gi 6 4 20 (x1) R148.2).bind fun v155 => (if ¬ (v155) = (10) then ((cq_gr 10 0 18 (x0) R148.2).bind fun v158 => ((cq_gr 9 0 14 (v158) R148.2).bind fun v160 => ((cq_gi 6 5 20 (x1) R148.2).bind fun v162 => ((cq_a 4 (v160) (v162) R148.2).bind fun v164 => c157_85 r4 r43 f (x0) (x1) (x2) (x3) (x4) (v164) R148.2)))) else c157_85 r4 r43 f (x0) (x1) (x2) (x3) (x4) (1) R148.2)))
theorem c157s_e (r4 : Nat → Nat → Int → Int → xT_ → Option (Int × xT_)) (r43 : Nat → Nat → Int → Int → Int → xT_ → Option (Int × xT_)) (f : Nat) (x0 : Nat) (x1 : Nat) (x2 : Int) (x3 : Int) (x4 : Int) (T : xT_) : c157_43b r4 r43 f x0 x1 x2 x3 x4 T = (if (10000000) ≤ (x4) then c157_185 r4 f (x0) (x1) (x2) (x3) T else ((cq_gr 10 0 18 (x0) T).bind fun v146 => ((cq_is 9 14 (v146) T).bind fun _ => ((c132 f (v146) T).bind fun R148 => c157s r4 r43 f x0 x1 x2 x3 x4 R148)))) := rfl
def c157t (r4 : Nat → Nat → Int → Int → xT_ → Option (Int × xT_)) (r43 : Nat → Nat → Int → Int → Int → xT_ → Option (Int × xT_)) (f : Nat) (x0 : Nat) (x1 : Nat) (x2 : Int) (x3 : Int) (x4 : Int) (x5 : Int) (R117 : (Int × xT_)) : Option (Int × xT_) := (if (R117.1) = 0 then c157_179 r4 r43 f (x0) (x1) (x2) (x3) (x4) R117.2 else (if (x3) = 0 then c157_146 r4 r43 f (x0) (x1) (x2) (x3) (x4) (x5) R117.2 else ((cq_gi 6 2 20 (x1) R117.2).bind fun v125 => ((cq_is 10 18 (x0) R117.2).bind fun _ => ((c158 f (x0) (v125) R117.2).bind fun R127 => (if (R127.1) = 0 then c157_179 r4 r43 f (x0) (x1) (x2) (x3) (x4) R127.2 else c157_146 r4 r43 f (x0) (x1) (x2) (x3) (x4) (x5) R127.2))))))
theorem c157t_e (r4 : Nat → Nat → Int → Int → xT_ → Option (Int × xT_)) (r43 : Nat → Nat → Int → Int → Int → xT_ → Option (Int × xT_)) (f : Nat) (x0 : Nat) (x1 : Nat) (x2 : Int) (x3 : Int) (x4 : Int) (x5 : Int) (y0 : Int) (T : xT_) : c157_110 r4 r43 f x0 x1 x2 x3 x4 x5 y0 T = (if ¬ (y0) = 0 then c157_179 r4 r43 f (x0) (x1) (x2) (x3) (x4) T else ((cq_gr 10 0 18 (x0) T).bind fun v113 => ((cq_gr 10 9 18 (x0) T).bind fun v115 => ((cq_is 9 14 (v113) T).bind fun _ => ((c142 f (v113) (v115) T).bind fun R117 => c157t r4 r43 f x0 x1 x2 x3 x4 x5 R117))))) := rfl
def c157u (r4 : Nat → Nat → Int → Int → xT_ → Option (Int × xT_)) (r43 : Nat → Nat → Int → Int → Int → xT_ → Option (Int × xT_)) (f : Nat) (x0 : Nat) (x1 : Nat) (x2 : Int) (x3 : Int) (x4 : Int) (x5 : Int) (R127 : (Int × xT_)) : Option (Int × xT_) := (if (R127.1) = 0 then c157_179 r4 r43 f (x0) (x1) (x2) (x3) (x4) R127.2 else c157_146 r4 r43 f (x0) (x1) (x2) (x3) (x4) (x5) R127.2)
theorem c157u_e (r4 : Nat → Nat → Int → Int → xT_ → Option (Int × xT_)) (r43 : Nat → Nat → Int → Int → Int → xT_ → Option (Int × xT_)) (f : Nat) (x0 : Nat) (x1 : Nat) (x2 : Int) (x3 : Int) (x4 : Int) (x5 : Int) (R117 : (Int × xT_)) : c157t r4 r43 f x0 x1 x2 x3 x4 x5 R117 = (if (R117.1) = 0 then c157_179 r4 r43 f (x0) (x1) (x2) (x3) (x4) R117.2 else (if (x3) = 0 then c157_146 r4 r43 f (x0) (x1) (x2) (x3) (x4) (x5) R117.2 else ((cq_gi 6 2 20 (x1) R117.2).bind fun v125 => ((cq_is 10 18 (x0) R117.2).bind fun _ => ((c158 f (x0) (v125) R117.2).bind fun R127 => c157u r4 r43 f x0 x1 x2 x3 x4 x5 R127))))) := rfl
section
variable {f u i t p gO : Nat} {S : Nat → Nat × Nat × Nat} {G G1 G2 : xG_} {m : Nat × Nat} {r4 : Nat → Nat → Int → Int → xT_ → Option (Int × xT_)} {r43 : Nat → Nat → Int → Int → Int → xT_ → Option (Int × xT_)} {kk mo x v w b : Int} {n : Nat} {R : Int × xT_}
theorem st_157a (hs : cSs S) (hp : cPs G) (hi : i < 10000000) (e : c132 f 83 (S, G, m) = some R) : c157_43b r4 r43 f 93 u mo (t : Int) (i : Int) (S, G, m) = c157s r4 r43 f 93 u mo (t : Int) (i : Int) R := by
  rw [c157s_e]
  simp (disch := omega) only [cq_gi, cq_gr, cq_a, cq_s, cq_p, cq_pr, cq_is, cq_ar, cq_ab, cq_ln, xq_nz, Option.bind_some, xup2_n, xup2_s, Int.toNat_natCast, Int.reduceToNat, if_pos, if_neg, true_and, and_true, and_self, eq_self, if_true, reduceIte, not_true_eq_false, not_false_eq_true, or_true, true_or, s93 hs, s83 hs, p93_0 hp, e]
theorem st_157z : c157s r4 r43 f 93 u mo (t : Int) (i : Int) (0, (S, G, m)) = c157_185 r4 f 93 u mo (t : Int) (S, G, m) := by
  unfold c157s
  simp (disch := omega) only [cq_gi, cq_gr, cq_a, cq_s, cq_p, cq_pr, cq_is, cq_ar, cq_ab, cq_ln, xq_nz, Option.bind_some, xup2_n, xup2_s, Int.toNat_natCast, Int.reduceToNat, if_pos, if_neg, true_and, and_true, and_self, eq_self, if_true, reduceIte, not_true_eq_false, not_false_eq_true, or_true, true_or, s93]
theorem st_157b (hs : cSs S) (hp : cPs G) (us : S u = (1, 6, 20)) (h4 : G u 4 = kk + 9) (h5 : kk ≠ 1 → G u 5 = (gO : Int) ∧ gO < 8) : c157s r4 r43 f 93 u mo (t : Int) (i : Int) (1, (S, G, m)) = c157_85 r4 r43 f 93 u mo (t : Int) (i : Int) (if kk = 1 then 1 else G 84 gO) (S, G, m) := by
  have h10 : ¬ (1 : Int) = 0 := by decide
  by_cases c : kk = 1
  · have c' : kk + 9 = 10 := by omega
    rw [if_pos c]
    unfold c157s
    simp (disch := omega) only [cq_gi, cq_gr, cq_a, cq_s, cq_p, cq_pr, cq_is, cq_ar, cq_ab, cq_ln, xq_nz, Option.bind_some, xup2_n, xup2_s, Int.toNat_natCast, Int.reduceToNat, if_pos, if_neg, true_and, and_true, and_self, eq_self, if_true, reduceIte, not_true_eq_false, not_false_eq_true, or_true, true_or, us, h4, c', h10]
  · have c' : ¬ kk + 9 = 10 := by omega
    obtain ⟨g1, g2⟩ := h5 c
    rw [if_neg c]
    unfold c157s
    simp (disch := omega) only [cq_gi, cq_gr, cq_a, cq_s, cq_p, cq_pr, cq_is, cq_ar, cq_ab, cq_ln, xq_nz, Option.bind_some, xup2_n, xup2_s, Int.toNat_natCast, Int.reduceToNat, if_pos, if_neg, true_and, and_true, and_self, eq_self, if_true, reduceIte, not_true_eq_false, not_false_eq_true, or_true, true_or, us, h4, c', h10, s93 hs, s83 hs, s84 hs, p93_0 hp, p83_0 hp, g1]
theorem st_157c (us : S u = (1, 6, 20)) (h4 : G u 4 = kk + 9) : c157_85 r4 r43 f 93 u mo (t : Int) (i : Int) x (S, G, m) = c157_110 r4 r43 f 93 u mo (t : Int) (i : Int) x (if kk = 2 ∧ 1000000000000 < x then 1 else 0) (S, G, m) := by
  by_cases c : kk = 2
  · have c' : kk + 9 = 11 := by omega
    by_cases d : 1000000000000 < x
    · have d' : ¬ x ≤ 1000000000000 := by omega
      rw [if_pos ⟨c, d⟩]
      unfold c157_85
      simp (disch := omega) only [cq_gi, cq_gr, cq_a, cq_s, cq_p, cq_pr, cq_is, cq_ar, cq_ab, cq_ln, xq_nz, Option.bind_some, xup2_n, xup2_s, Int.toNat_natCast, Int.reduceToNat, if_pos, if_neg, true_and, and_true, and_self, eq_self, if_true, reduceIte, not_true_eq_false, not_false_eq_true, or_true, true_or, us, h4, c', d']
    · have d' : x ≤ 1000000000000 := by omega
      rw [if_neg (fun y => d y.2)]
      unfold c157_85 c157_109
      simp (disch := omega) only [cq_gi, cq_gr, cq_a, cq_s, cq_p, cq_pr, cq_is, cq_ar, cq_ab, cq_ln, xq_nz, Option.bind_some, xup2_n, xup2_s, Int.toNat_natCast, Int.reduceToNat, if_pos, if_neg, true_and, and_true, and_self, eq_self, if_true, reduceIte, not_true_eq_false, not_false_eq_true, or_true, true_or, us, h4, c', d']
  · have c' : ¬ kk + 9 = 11 := by omega
    rw [if_neg (fun y => c y.1)]
    unfold c157_85 c157_109
    simp (disch := omega) only [cq_gi, cq_gr, cq_a, cq_s, cq_p, cq_pr, cq_is, cq_ar, cq_ab, cq_ln, xq_nz, Option.bind_some, xup2_n, xup2_s, Int.toNat_natCast, Int.reduceToNat, if_pos, if_neg, true_and, and_true, and_self, eq_self, if_true, reduceIte, not_true_eq_false, not_false_eq_true, or_true, true_or, us, h4, c']
theorem st_157n (ei : xwr ((i : Int) + 1) = ((i + 1 : Nat) : Int)) : c157_110 r4 r43 f 93 u mo (t : Int) (i : Int) x 1 (S, G, m) = r43 93 u mo (t : Int) ((i + 1 : Nat) : Int) (S, G, m) := by
  have h10 : ¬ (1 : Int) = 0 := by decide
  unfold c157_110 c157_179
  simp (disch := omega) only [cq_gi, cq_gr, cq_a, cq_s, cq_p, cq_pr, cq_is, cq_ar, cq_ab, cq_ln, xq_nz, Option.bind_some, xup2_n, xup2_s, Int.toNat_natCast, Int.reduceToNat, if_pos, if_neg, true_and, and_true, and_self, eq_self, if_true, reduceIte, not_true_eq_false, not_false_eq_true, or_true, true_or, ei, h10]
theorem st_157h (hs : cSs S) (hp : cPs G) (e : c142 f 83 103 (S, G, m) = some R) : c157_110 r4 r43 f 93 u mo (t : Int) (i : Int) x 0 (S, G, m) = c157t r4 r43 f 93 u mo (t : Int) (i : Int) x R := by
  rw [c157t_e]
  simp (disch := omega) only [cq_gi, cq_gr, cq_a, cq_s, cq_p, cq_pr, cq_is, cq_ar, cq_ab, cq_ln, xq_nz, Option.bind_some, xup2_n, xup2_s, Int.toNat_natCast, Int.reduceToNat, if_pos, if_neg, true_and, and_true, and_self, eq_self, if_true, reduceIte, not_true_eq_false, not_false_eq_true, or_true, true_or, s93 hs, s83 hs, p93_0 hp, p93_9 hp, e]
theorem st_157m (ei : xwr ((i : Int) + 1) = ((i + 1 : Nat) : Int)) : c157t r4 r43 f 93 u mo (t : Int) (i : Int) x (0, (S, G, m)) = r43 93 u mo (t : Int) ((i + 1 : Nat) : Int) (S, G, m) := by
  rw [c157u_e]
  unfold c157_179
  simp (disch := omega) only [cq_gi, cq_gr, cq_a, cq_s, cq_p, cq_pr, cq_is, cq_ar, cq_ab, cq_ln, xq_nz, Option.bind_some, xup2_n, xup2_s, Int.toNat_natCast, Int.reduceToNat, if_pos, if_neg, true_and, and_true, and_self, eq_self, if_true, reduceIte, not_true_eq_false, not_false_eq_true, or_true, true_or, ei]
theorem st_157y : c157t r4 r43 f 93 u mo ((0 : Nat) : Int) (i : Int) x (1, (S, G, m)) = c157_146 r4 r43 f 93 u mo ((0 : Nat) : Int) (i : Int) x (S, G, m) := by
  have h10 : ¬ (1 : Int) = 0 := by decide
  rw [c157u_e]
  simp (disch := omega) only [cq_gi, cq_gr, cq_a, cq_s, cq_p, cq_pr, cq_is, cq_ar, cq_ab, cq_ln, xq_nz, Option.bind_some, xup2_n, xup2_s, Int.toNat_natCast, Int.reduceToNat, if_pos, if_neg, true_and, and_true, and_self, eq_self, if_true, reduceIte, not_true_eq_false, not_false_eq_true, or_true, true_or, h10, Int.natCast_zero]
theorem st_157f (hs : cSs S) (us : S u = (1, 6, 20)) (ht : t ≠ 0) (h2 : G u 2 = (n : Int)) (e : c158 f 93 (n : Int) (S, G, m) = some R) : c157t r4 r43 f 93 u mo (t : Int) (i : Int) x (1, (S, G, m)) = c157u r4 r43 f 93 u mo (t : Int) (i : Int) x R := by
  have h10 : ¬ (1 : Int) = 0 := by decide
  have ht' : ¬ (t : Int) = 0 := by omega
  rw [c157u_e]
  simp (disch := omega) only [cq_gi, cq_gr, cq_a, cq_s, cq_p, cq_pr, cq_is, cq_ar, cq_ab, cq_ln, xq_nz, Option.bind_some, xup2_n, xup2_s, Int.toNat_natCast, Int.reduceToNat, if_pos, if_neg, true_and, and_true, and_self, eq_self, if_true, reduceIte, not_true_eq_false, not_false_eq_true, or_true, true_or, s93 hs, us, h10, ht', h2, e]
theorem st_157g (ei : xwr ((i : Int) + 1) = ((i + 1 : Nat) : Int)) : c157u r4 r43 f 93 u mo (t : Int) (i : Int) x (0, (S, G, m)) = r43 93 u mo (t : Int) ((i + 1 : Nat) : Int) (S, G, m) := by
  unfold c157u c157_179
  simp (disch := omega) only [cq_gi, cq_gr, cq_a, cq_s, cq_p, cq_pr, cq_is, cq_ar, cq_ab, cq_ln, xq_nz, Option.bind_some, xup2_n, xup2_s, Int.toNat_natCast, Int.reduceToNat, if_pos, if_neg, true_and, and_true, and_self, eq_self, if_true, reduceIte, not_true_eq_false, not_false_eq_true, or_true, true_or, ei]
theorem st_157i : c157u r4 r43 f 93 u mo (t : Int) (i : Int) x (1, (S, G, m)) = c157_146 r4 r43 f 93 u mo (t : Int) (i : Int) x (S, G, m) := by
  have h10 : ¬ (1 : Int) = 0 := by decide
  unfold c157u
  simp (disch := omega) only [cq_gi, cq_gr, cq_a, cq_s, cq_p, cq_pr, cq_is, cq_ar, cq_ab, cq_ln, xq_nz, Option.bind_some, xup2_n, xup2_s, Int.toNat_natCast, Int.reduceToNat, if_pos, if_neg, true_and, and_true, and_self, eq_self, if_true, reduceIte, not_true_eq_false, not_false_eq_true, or_true, true_or, h10]
/-- behind addToGroup() -/
theorem st_157j (hs : cSs S) (us : S u = (1, 6, 20)) (hm : mo = 0 ∨ mo = 1) (ei : xwr ((i : Int) + 1) = ((i + 1 : Nat) : Int)) (hk : mo = 1 → kk = 2) (e : c159 f 93 u x (S, G, m) = some (1, (S, G1, m))) (h4 : G1 u 4 = kk + 9) : c157_146 r4 r43 f 93 u mo (t : Int) (i : Int) x (S, G, m) = r43 93 u mo (t : Int) ((i + 1 : Nat) : Int) (S, G1, m) := by
  have h10 : ¬ (1 : Int) = 0 := by decide
  rcases hm with h | h
  · subst h
    have ex : xor_ 0 0 = 0 := by decide
    unfold c157_146 c157_162 c157_179
    simp (disch := omega) only [cq_gi, cq_gr, cq_a, cq_s, cq_p, cq_pr, cq_is, cq_ar, cq_ab, cq_ln, xq_nz, Option.bind_some, xup2_n, xup2_s, Int.toNat_natCast, Int.reduceToNat, if_pos, if_neg, true_and, and_true, and_self, eq_self, if_true, reduceIte, not_true_eq_false, not_false_eq_true, or_true, true_or, s93 hs, us, e, h10, ex, ei]
  · subst h
    have ex : xor_ 1 0 = 1 := by decide
    have hk' : kk + 9 = 11 := by have := hk rfl; omega
    unfold c157_146 c157_162 c157_179
    simp (disch := omega) only [cq_gi, cq_gr, cq_a, cq_s, cq_p, cq_pr, cq_is, cq_ar, cq_ab, cq_ln, xq_nz, Option.bind_some, xup2_n, xup2_s, Int.toNat_natCast, Int.reduceToNat, if_pos, if_neg, true_and, and_true, and_self, eq_self, if_true, reduceIte, not_true_eq_false, not_false_eq_true, or_true, true_or, s93 hs, us, e, h10, ex, ei, h4, hk']
theorem st_157k (hs : cSs S) (us : S u = (1, 6, 20)) (hm : mo = 0 ∨ mo = 1) (ei : xwr ((i : Int) + 1) = ((i + 1 : Nat) : Int)) (e : c159 f 93 u x (S, G, m) = some (0, (S, G1, m))) (h4 : G1 u 4 = kk + 9) : c157_146 r4 r43 f 93 u mo (t : Int) (i : Int) x (S, G, m) = if kk = 2 then r43 93 u 1 (t : Int) ((i + 1 : Nat) : Int) (S, G1, m) else some (0, (S, G1, m)) := by
  have h10 : ¬ (1 : Int) = 0 := by decide
  have ex : xor_ mo 1 = 1 := by rcases hm with h | h <;> subst h <;> decide
  by_cases c : kk = 2
  · have c' : kk + 9 = 11 := by omega
    rw [if_pos c]
    unfold c157_146 c157_162 c157_179
    simp (disch := omega) only [cq_gi, cq_gr, cq_a, cq_s, cq_p, cq_pr, cq_is, cq_ar, cq_ab, cq_ln, xq_nz, Option.bind_some, xup2_n, xup2_s, Int.toNat_natCast, Int.reduceToNat, if_pos, if_neg, true_and, and_true, and_self, eq_self, if_true, reduceIte, not_true_eq_false, not_false_eq_true, or_true, true_or, s93 hs, us, e, h10, ex, ei, h4, c']
  · have c' : ¬ kk + 9 = 11 := by omega
    rw [if_neg c]
    unfold c157_146 c157_162 c157_179
    simp (disch := omega) only [cq_gi, cq_gr, cq_a, cq_s, cq_p, cq_pr, cq_is, cq_ar, cq_ab, cq_ln, xq_nz, Option.bind_some, xup2_n, xup2_s, Int.toNat_natCast, Int.reduceToNat, if_pos, if_neg, true_and, and_true, and_self, eq_self, if_true, reduceIte, not_true_eq_false, not_false_eq_true, or_true, true_or, s93 hs, us, e, h10, ex, ei, h4, c']
theorem st_157e (hs : cSs S) (e : c161 f 93 u (S, G, m) = some (v, (S, G1, m))) (ei : xwr ((t : Int) + 1) = ((t + 1 : Nat) : Int)) : c157_185 r4 f 93 u mo (t : Int) (S, G, m) = if v = 0 then some (0, (S, G1, m)) else r4 93 u mo ((t + 1 : Nat) : Int) (S, G1, m) := by
  by_cases c : v = 0
  · rw [if_pos c]
    unfold c157_185
    simp (disch := omega) only [cq_gi, cq_gr, cq_a, cq_s, cq_p, cq_pr, cq_is, cq_ar, cq_ab, cq_ln, xq_nz, Option.bind_some, xup2_n, xup2_s, Int.toNat_natCast, Int.reduceToNat, if_pos, if_neg, true_and, and_true, and_self, eq_self, if_true, reduceIte, not_true_eq_false, not_false_eq_true, or_true, true_or, s93 hs, e, ei, c]
  · rw [if_neg c]
    unfold c157_185
    simp (disch := omega) only [cq_gi, cq_gr, cq_a, cq_s, cq_p, cq_pr, cq_is, cq_ar, cq_ab, cq_ln, xq_nz, Option.bind_some, xup2_n, xup2_s, Int.toNat_natCast, Int.reduceToNat, if_pos, if_neg, true_and, and_true, and_self, eq_self, if_true, reduceIte, not_true_eq_false, not_false_eq_true, or_true, true_or, s93 hs, e, ei, c]
theorem st_157w (ht : t < 10000000) : c157_4b r4 f 93 u 0 (t : Int) (S, G, m) = some (1, (S, G, m)) := by
  unfold c157_4b c157_201
  simp (disch := omega) only [cq_gi, cq_gr, cq_a, cq_s, cq_p, cq_pr, cq_is, cq_ar, cq_ab, cq_ln, xq_nz, Option.bind_some, xup2_n, xup2_s, Int.toNat_natCast, Int.reduceToNat, if_pos, if_neg, true_and, and_true, and_self, eq_self, if_true, reduceIte, not_true_eq_false, not_false_eq_true, or_true, true_or, s93]
theorem st_157x (hs : cSs S) (hp : cPs G) (us : S u = (1, 6, 20)) (hu : 278 < u) (ht : t < 10000000) (h2 : G u 2 = (n : Int)) (hp1 : cPs (xup2 (xup2 G 99 0 (n : Int)) 99 1 0)) (e : c130 f 83 u 94 0 (S, xup2 (xup2 G 99 0 (n : Int)) 99 1 0, m) = some (S, G1, m)) : c157_4b r4 f 93 u 1 (t : Int) (S, G, m) = c157_43 r4 f f 93 u 0 (t : Int) 0 (S, G1, m) := by
  have h10 : ¬ (1 : Int) = 0 := by decide
  unfold c157_4b
  simp (disch := omega) only [cq_gi, cq_gr, cq_a, cq_s, cq_p, cq_pr, cq_is, cq_ar, cq_ab, cq_ln, xq_nz, Option.bind_some, xup2_n, xup2_s, Int.toNat_natCast, Int.reduceToNat, if_pos, if_neg, true_and, and_true, and_self, eq_self, if_true, reduceIte, not_true_eq_false, not_false_eq_true, or_true, true_or, s93 hs, s99 hs, s83 hs, p93_7 hp, p93_0 hp, p93_2 hp, us, h2, h10, k_69 (s99 hs), e]
end
