/-! THE CLASS: next(), steps -/
section
variable {f u l st b nl : Nat} {S : Nat → Nat × Nat × Nat} {G G1 G2 : xG_} {m : Nat × Nat} {v w x kd : Int} {r2 : Nat → Int → xT_ → Option (Int × xT_)}
theorem sw_132e (hs : cSs S) (hx : x < 1000000000) (h6 : G 83 6 = -1) : c132_2b r2 f 83 x (S, G, m) = some (0, (S, G, m)) := by
  have e : cq_gi 9 6 14 83 (S, G, m) = some (-1) := by
    unfold cq_gi
    rw [if_pos (s83 hs)]
    exact congrArg some h6
  unfold c132_2b c132_215
  rw [if_neg (by omega), e, Option.bind_some, if_pos (by decide)]
theorem sw_132l (hs : cSs S) (hx : x < 1000000000) (h3 : G 83 3 = (u : Int)) (hu : 278 < u) (us : S u = (1, 6, 20)) (h8 : G u 8 = (nl : Int)) (h6 : G 83 6 = (nl : Int)) (en : xwr ((nl : Int) - 1) = (nl : Int) - 1) : c132_2b r2 f 83 x (S, G, m) = some (1, (S, xup2 (xup2 G 83 6 ((nl : Int) - 1)) 83 7 0, m)) := by
  unfold c132_2b
  simp (disch := omega) only [cq_gi, cq_gr, cq_a, cq_s, cq_p, cq_pr, cq_is, cq_ar, cq_ab, cq_ln, xq_nz, Option.bind_some, xup2_n, xup2_s, Int.toNat_natCast, Int.reduceToNat, if_pos, if_neg, true_and, and_true, and_self, eq_self, if_true, reduceIte, not_true_eq_false, not_false_eq_true, or_true, true_or, s83 hs, h3, us, h8, h6, en, cq_pb]
theorem st_205 (hs : cSs S) (h6 : G 83 6 = (st : Int)) (hw : w = 0 ∨ w = 1) (ep : xwr ((st : Int) + 1) = (st : Int) + 1) (em : xwr ((st : Int) + (-1)) = (st : Int) - 1) (ex : xwr (x + 1) = x + 1) : c132_113 r2 f 83 x w 83 (S, G, m) = r2 83 (x + 1) (S, xup2 (xup2 G 83 7 w) 83 6 (if w = 0 then (st : Int) - 1 else (st : Int) + 1), m) := by
  rcases hw with rfl | rfl
  · rw [if_pos rfl]
    unfold c132_113 c132_188 c132_205
    simp (disch := omega) only [cq_gi, cq_gr, cq_a, cq_s, cq_p, cq_pr, cq_is, cq_ar, cq_ab, cq_ln, xq_nz, Option.bind_some, xup2_n, xup2_s, Int.toNat_natCast, Int.reduceToNat, if_pos, if_neg, true_and, and_true, and_self, eq_self, if_true, reduceIte, not_true_eq_false, not_false_eq_true, or_true, true_or, s83 hs, h6, em, ex, cq_pb]
  · rw [if_neg (by decide)]
    unfold c132_113 c132_188 c132_205
    simp (disch := omega) only [cq_gi, cq_gr, cq_a, cq_s, cq_p, cq_pr, cq_is, cq_ar, cq_ab, cq_ln, xq_nz, Option.bind_some, xup2_n, xup2_s, Int.toNat_natCast, Int.reduceToNat, if_pos, if_neg, true_and, and_true, and_self, eq_self, if_true, reduceIte, not_true_eq_false, not_false_eq_true, or_true, true_or, s83 hs, h6, ep, ex, cq_pb, Int.reduceEq]
theorem st_185 (hs : cSs S) (h6 : G 83 6 = (st : Int)) (hw : w = 0 ∨ w = 1) (ep : xwr ((st : Int) + 1) = (st : Int) + 1) (em : xwr ((st : Int) + (-1)) = (st : Int) - 1) (ex : xwr (x + 1) = x + 1) : c132_185 r2 f 83 x w 83 (S, G, m) = r2 83 (x + 1) (S, xup2 (xup2 G 83 7 w) 83 6 (if w = 0 then (st : Int) - 1 else (st : Int) + 1), m) := by
  rcases hw with rfl | rfl
  · rw [if_pos rfl]
    unfold c132_185 c132_188 c132_205
    simp (disch := omega) only [cq_gi, cq_gr, cq_a, cq_s, cq_p, cq_pr, cq_is, cq_ar, cq_ab, cq_ln, xq_nz, Option.bind_some, xup2_n, xup2_s, Int.toNat_natCast, Int.reduceToNat, if_pos, if_neg, true_and, and_true, and_self, eq_self, if_true, reduceIte, not_true_eq_false, not_false_eq_true, or_true, true_or, s83 hs, h6, em, ex, cq_pb]
  · rw [if_neg (by decide)]
    unfold c132_185 c132_188 c132_205
    simp (disch := omega) only [cq_gi, cq_gr, cq_a, cq_s, cq_p, cq_pr, cq_is, cq_ar, cq_ab, cq_ln, xq_nz, Option.bind_some, xup2_n, xup2_s, Int.toNat_natCast, Int.reduceToNat, if_pos, if_neg, true_and, and_true, and_self, eq_self, if_true, reduceIte, not_true_eq_false, not_false_eq_true, or_true, true_or, s83 hs, h6, ep, ex, cq_pb, Int.reduceEq]
theorem st_100 (hs : cSs S) (e : c135 f 83 (l : Int) (S, G, m) = some (w, (S, G1, m))) (hw : w = 0 ∨ w = 1) : c132_100 r2 f 83 x (l : Int) 83 (S, G, m) = c132_113 r2 f 83 x w 83 (S, G1, m) := by
  rcases hw with rfl | rfl
  · unfold c132_100 c132_112
    simp (disch := omega) only [cq_gi, cq_gr, cq_a, cq_s, cq_p, cq_pr, cq_is, cq_ar, cq_ab, cq_ln, xq_nz, Option.bind_some, xup2_n, xup2_s, Int.toNat_natCast, Int.reduceToNat, if_pos, if_neg, true_and, and_true, and_self, eq_self, if_true, reduceIte, not_true_eq_false, not_false_eq_true, or_true, true_or, s83 hs, e]
  · unfold c132_100
    simp (disch := omega) only [cq_gi, cq_gr, cq_a, cq_s, cq_p, cq_pr, cq_is, cq_ar, cq_ab, cq_ln, xq_nz, Option.bind_some, xup2_n, xup2_s, Int.toNat_natCast, Int.reduceToNat, if_pos, if_neg, true_and, and_true, and_self, eq_self, if_true, reduceIte, not_true_eq_false, not_false_eq_true, or_true, true_or, s83 hs, e, Int.reduceEq]
theorem sw_132f (hs : cSs S) (hx : x < 1000000000) (h3 : G 83 3 = (u : Int)) (hu : 278 < u) (us : S u = (1, 6, 20)) (us2 : S (u + 2) = (2, 3, 8)) (us9 : S (u + 9) = (2, 3, 8)) (w9 : G u 9 = ((u + 2 : Nat) : Int)) (w18 : G u 18 = ((u + 9 : Nat) : Int)) (h8 : G u 8 = (nl : Int)) (h6 : G 83 6 = (st : Int)) (hst : st < nl) (hnl : nl ≤ 8) (hp : G (u + 9) st = (l : Int)) (hl : l < 8) (hk : G (u + 2) l = 15) (h7 : G 83 7 = 1) (e1 : c134 f 83 (l : Int) (S, G, m) = some (S, G1, m)) (h71 : G1 83 7 = 1) : c132_2b r2 f 83 x (S, G, m) = c132_100 r2 f 83 x (l : Int) 83 (S, G1, m) := by
  unfold c132_2b c132_85
  simp (disch := omega) only [cq_gi, cq_gr, cq_a, cq_s, cq_p, cq_pr, cq_is, cq_ar, cq_ab, cq_ln, xq_nz, Option.bind_some, xup2_n, xup2_s, Int.toNat_natCast, Int.reduceToNat, if_pos, if_neg, true_and, and_true, and_self, eq_self, if_true, reduceIte, not_true_eq_false, not_false_eq_true, or_true, true_or, s83 hs, h3, us, us2, us9, w9, w18, h8, h6, hp, hk, h7, e1, h71, Int.reduceEq]
theorem sw_132b (hs : cSs S) (hx : x < 1000000000) (h3 : G 83 3 = (u : Int)) (hu : 278 < u) (us : S u = (1, 6, 20)) (us2 : S (u + 2) = (2, 3, 8)) (us9 : S (u + 9) = (2, 3, 8)) (w9 : G u 9 = ((u + 2 : Nat) : Int)) (w18 : G u 18 = ((u + 9 : Nat) : Int)) (h8 : G u 8 = (nl : Int)) (h6 : G 83 6 = (st : Int)) (hst : st < nl) (hnl : nl ≤ 8) (hp : G (u + 9) st = (l : Int)) (hl : l < 8) (hk : G (u + 2) l = 15) (h7 : G 83 7 = 0) (e1 : c133 f 83 (S, G, m) = some (w, (S, G, m))) : c132_2b r2 f 83 x (S, G, m) = if w = 0 then c132_113 r2 f 83 x 0 83 (S, G, m) else c132_100 r2 f 83 x (l : Int) 83 (S, G, m) := by
  by_cases q : w = 0
  · rw [if_pos q]
    unfold c132_2b c132_85 c132_112
    simp (disch := omega) only [cq_gi, cq_gr, cq_a, cq_s, cq_p, cq_pr, cq_is, cq_ar, cq_ab, cq_ln, xq_nz, Option.bind_some, xup2_n, xup2_s, Int.toNat_natCast, Int.reduceToNat, if_pos, if_neg, true_and, and_true, and_self, eq_self, if_true, reduceIte, not_true_eq_false, not_false_eq_true, or_true, true_or, s83 hs, h3, us, us2, us9, w9, w18, h8, h6, hp, hk, h7, e1, q]
  · rw [if_neg q]
    unfold c132_2b c132_85
    simp (disch := omega) only [cq_gi, cq_gr, cq_a, cq_s, cq_p, cq_pr, cq_is, cq_ar, cq_ab, cq_ln, xq_nz, Option.bind_some, xup2_n, xup2_s, Int.toNat_natCast, Int.reduceToNat, if_pos, if_neg, true_and, and_true, and_self, eq_self, if_true, reduceIte, not_true_eq_false, not_false_eq_true, or_true, true_or, s83 hs, h3, us, us2, us9, w9, w18, h8, h6, hp, hk, h7, e1, q]
theorem sw_132c (hs : cSs S) (hpp : cPs G) (hx : x < 1000000000) (h3 : G 83 3 = (u : Int)) (hu : 278 < u) (us : S u = (1, 6, 20)) (us2 : S (u + 2) = (2, 3, 8)) (us9 : S (u + 9) = (2, 3, 8)) (w9 : G u 9 = ((u + 2 : Nat) : Int)) (w18 : G u 18 = ((u + 9 : Nat) : Int)) (h8 : G u 8 = (nl : Int)) (h6 : G 83 6 = (st : Int)) (hst : st < nl) (hnl : nl ≤ 8) (hp : G (u + 9) st = (l : Int)) (hl : l < 8) (hk : G (u + 2) l = kd) (hkd : kd ≠ 15) (hb : G 87 st = (b : Int)) (es : xwr ((st : Int) + 1) = ((st + 1 : Nat) : Int)) (h7 : G 83 7 = 0) : c132_2b r2 f 83 x (S, G, m) = c132_185 r2 f 83 x 0 83 (S, xup2 G 87 (st + 1) (b : Int), m) := by
  unfold c132_2b c132_184
  simp (disch := omega) only [cq_gi, cq_gr, cq_a, cq_s, cq_p, cq_pr, cq_is, cq_ar, cq_ab, cq_ln, xq_nz, Option.bind_some, xup2_n, xup2_s, Int.toNat_natCast, Int.reduceToNat, if_pos, if_neg, true_and, and_true, and_self, eq_self, if_true, reduceIte, not_true_eq_false, not_false_eq_true, or_true, true_or, s83 hs, s87 hs, p83_8 hpp, h3, us, us2, us9, w9, w18, h8, h6, hp, hk, hkd, hb, es, h7]
theorem sw_132n (hs : cSs S) (hpp : cPs G) (hx : x < 1000000000) (h3 : G 83 3 = (u : Int)) (hu : 278 < u) (us : S u = (1, 6, 20)) (us2 : S (u + 2) = (2, 3, 8)) (us9 : S (u + 9) = (2, 3, 8)) (w9 : G u 9 = ((u + 2 : Nat) : Int)) (w18 : G u 18 = ((u + 9 : Nat) : Int)) (h8 : G u 8 = (nl : Int)) (h6 : G 83 6 = (st : Int)) (hst : st < nl) (hnl : nl ≤ 8) (hp : G (u + 9) st = (l : Int)) (hl : l < 8) (hk : G (u + 2) l = 9) (hb : G 87 st = (b : Int)) (es : xwr ((st : Int) + 1) = ((st + 1 : Nat) : Int)) (h7 : G 83 7 = 1) (e : c138 f 83 (l : Int) (S, xup2 G 87 (st + 1) (b : Int), m) = some (w, (S, G1, m))) (hw : w = 0 ∨ w = 1) : c132_2b r2 f 83 x (S, G, m) = c132_185 r2 f 83 x w 83 (S, G1, m) := by
  rcases hw with rfl | rfl
  · unfold c132_2b c132_184
    simp (disch := omega) only [cq_gi, cq_gr, cq_a, cq_s, cq_p, cq_pr, cq_is, cq_ar, cq_ab, cq_ln, xq_nz, Option.bind_some, xup2_n, xup2_s, Int.toNat_natCast, Int.reduceToNat, if_pos, if_neg, true_and, and_true, and_self, eq_self, if_true, reduceIte, not_true_eq_false, not_false_eq_true, or_true, true_or, s83 hs, s87 hs, p83_8 hpp, h3, us, us2, us9, w9, w18, h8, h6, hp, hk, hb, es, h7, e, Int.reduceEq]
  · unfold c132_2b c132_180
    simp (disch := omega) only [cq_gi, cq_gr, cq_a, cq_s, cq_p, cq_pr, cq_is, cq_ar, cq_ab, cq_ln, xq_nz, Option.bind_some, xup2_n, xup2_s, Int.toNat_natCast, Int.reduceToNat, if_pos, if_neg, true_and, and_true, and_self, eq_self, if_true, reduceIte, not_true_eq_false, not_false_eq_true, or_true, true_or, s83 hs, s87 hs, p83_8 hpp, h3, us, us2, us9, w9, w18, h8, h6, hp, hk, hb, es, h7, e, Int.reduceEq]
theorem sw_132m (hs : cSs S) (hpp : cPs G) (hx : x < 1000000000) (h3 : G 83 3 = (u : Int)) (hu : 278 < u) (us : S u = (1, 6, 20)) (us2 : S (u + 2) = (2, 3, 8)) (us9 : S (u + 9) = (2, 3, 8)) (w9 : G u 9 = ((u + 2 : Nat) : Int)) (w18 : G u 18 = ((u + 9 : Nat) : Int)) (h8 : G u 8 = (nl : Int)) (h6 : G 83 6 = (st : Int)) (hst : st < nl) (hnl : nl ≤ 8) (hp : G (u + 9) st = (l : Int)) (hl : l < 8) (hk : G (u + 2) l = kd) (hkd : kd ≠ 15) (hkd2 : kd ≠ 9) (hb : G 87 st = (b : Int)) (es : xwr ((st : Int) + 1) = ((st + 1 : Nat) : Int)) (h7 : G 83 7 = 1) (e : c139 f 83 (l : Int) (S, xup2 G 87 (st + 1) (b : Int), m) = some (w, (S, G1, m))) (hw : w = 0 ∨ w = 1) : c132_2b r2 f 83 x (S, G, m) = c132_185 r2 f 83 x w 83 (S, G1, m) := by
  rcases hw with rfl | rfl
  · unfold c132_2b c132_184
    simp (disch := omega) only [cq_gi, cq_gr, cq_a, cq_s, cq_p, cq_pr, cq_is, cq_ar, cq_ab, cq_ln, xq_nz, Option.bind_some, xup2_n, xup2_s, Int.toNat_natCast, Int.reduceToNat, if_pos, if_neg, true_and, and_true, and_self, eq_self, if_true, reduceIte, not_true_eq_false, not_false_eq_true, or_true, true_or, s83 hs, s87 hs, p83_8 hpp, h3, us, us2, us9, w9, w18, h8, h6, hp, hk, hkd, hkd2, hb, es, h7, e, Int.reduceEq]
  · unfold c132_2b c132_180
    simp (disch := omega) only [cq_gi, cq_gr, cq_a, cq_s, cq_p, cq_pr, cq_is, cq_ar, cq_ab, cq_ln, xq_nz, Option.bind_some, xup2_n, xup2_s, Int.toNat_natCast, Int.reduceToNat, if_pos, if_neg, true_and, and_true, and_self, eq_self, if_true, reduceIte, not_true_eq_false, not_false_eq_true, or_true, true_or, s83 hs, s87 hs, p83_8 hpp, h3, us, us2, us9, w9, w18, h8, h6, hp, hk, hkd, hkd2, hb, es, h7, e, Int.reduceEq]
end
