/-! THE CLASS: openVariable(), compares() -/
def c139a (f : Nat) (a0 : Nat) (a1 : Int) (v162 : Int) (R165 : (Int × xT_)) : Option (Int × xT_) := (if ¬ (R165.1) = (-1) then c139_54  f (a0) (xwr ((4) + (xwr ((2) * (a1))))) (xwr ((xwr ((4) + (xwr ((2) * (a1))))) + (1))) (v162) (R165.1) (xwr ((xwr ((4) + (xwr ((2) * (a1))))) + (1))) R165.2 else ((cq_is 9 14 (a0) R165.2).bind fun _ => ((c140 f (a0) (xwr ((xwr ((4) + (xwr ((2) * (a1))))) + (1))) R165.2).bind fun R172 => c139_54  f (a0) (xwr ((4) + (xwr ((2) * (a1))))) (xwr ((xwr ((4) + (xwr ((2) * (a1))))) + (1))) (v162) (R172.1) (xwr ((4) + (xwr ((2) * (a1))))) R172.2)))
theorem c139a_e (f : Nat) (a0 : Nat) (a1 : Int) (T : xT_) : c139 f a0 a1 T = ((cq_gr 9 3 14 (a0) T).bind fun v158 => ((cq_gr 6 9 20 (v158) T).bind fun v160 => ((cq_a 3 (v160) (a1) T).bind fun v162 => (if ¬ (v162) = (61) then c139_111  f (a0) (xwr ((4) + (xwr ((2) * (a1))))) (xwr ((xwr ((4) + (xwr ((2) * (a1))))) + (1))) (v162) T else ((cq_is 9 14 (a0) T).bind fun _ => ((c140 f (a0) (xwr ((4) + (xwr ((2) * (a1))))) T).bind fun R165 => c139a f a0 a1 v162 R165)))))) := rfl
def c139b (f : Nat) (a0 : Nat) (a1 : Int) (v162 : Int) (R172 : (Int × xT_)) : Option (Int × xT_) := c139_54  f (a0) (xwr ((4) + (xwr ((2) * (a1))))) (xwr ((xwr ((4) + (xwr ((2) * (a1))))) + (1))) (v162) (R172.1) (xwr ((4) + (xwr ((2) * (a1))))) R172.2
theorem c139b_e (f : Nat) (a0 : Nat) (a1 : Int) (v162 : Int) (R165 : (Int × xT_)) : c139a f a0 a1 v162 R165 = (if ¬ (R165.1) = (-1) then c139_54  f (a0) (xwr ((4) + (xwr ((2) * (a1))))) (xwr ((xwr ((4) + (xwr ((2) * (a1))))) + (1))) (v162) (R165.1) (xwr ((xwr ((4) + (xwr ((2) * (a1))))) + (1))) R165.2 else ((cq_is 9 14 (a0) R165.2).bind fun _ => ((c140 f (a0) (xwr ((xwr ((4) + (xwr ((2) * (a1))))) + (1))) R165.2).bind fun R172 => c139b f a0 a1 v162 R172))) := rfl
def c139_54a (f : Nat) (x0 : Nat) (x5 : Int) (v129 : Nat) (R131 : (Int × xT_)) : Option (Int × xT_) := ((cq_s 4 (v129) (x5) (R131.1) R131.2).bind fun T138 => ((cq_gr 9 8 14 (x0) T138).bind fun v142 => ((cq_gi 9 6 14 (x0) T138).bind fun v144 => ((cq_a 3 (v142) (xwr ((v144) + (1))) T138).bind fun v146 => ((cq_s 3 (v142) (xwr ((v144) + (1))) (xor_ (v146) (xshl (1) (x5))) T138).bind fun T149 => ((cq_gr 9 0 14 (x0) T149).bind fun v153 => ((cq_a 4 (v153) (x5) T149).bind fun v155 => (if (v155) < (-1000000000000) then c139_110  f (0) T149 else c139_110  f (1) T149))))))))
theorem c139_54a_e (f : Nat) (x0 : Nat) (x2 : Int) (x3 : Int) (x4 : Int) (x5 : Int) (x6 : Int) (T : xT_) : c139_54 f x0 x2 x3 x4 x5 x6 T = (if (x5) = (-1) then c139_111  f (x0) (x2) (x3) (x4) T else ((cq_gr 9 0 14 (x0) T).bind fun v129 => ((cq_is 9 14 (x0) T).bind fun _ => ((c141 f (x0) (x6) T).bind fun R131 => c139_54a f x0 x5 v129 R131)))) := rfl
def c139_111a (f : Nat) (x0 : Nat) (x3 : Int) (x4 : Int) (R103 : (Int × xT_)) : Option (Int × xT_) := ((cq_is 9 14 (x0) R103.2).bind fun _ => ((c141 f (x0) (x3) R103.2).bind fun R109 => (if (R103.1) < (-1000000000000) then c139_143  f  R109.2 else (if (-1000000000000) ≤ (R109.1) then (if ¬ (x4) = (61) then (if ¬ (x4) = (257) then (if ¬ (x4) = (60) then (if ¬ (x4) = (258) then (if ¬ (x4) = (62) then (if (R103.1) < (R109.1) then c139_275  f (0) R109.2 else c139_275  f (1) R109.2) else (if (R103.1) ≤ (R109.1) then c139_275  f (0) R109.2 else c139_275  f (1) R109.2)) else (if (R109.1) < (R103.1) then c139_275  f (0) R109.2 else c139_275  f (1) R109.2)) else (if (R109.1) ≤ (R103.1) then c139_275  f (0) R109.2 else c139_275  f (1) R109.2)) else (if (R103.1) = (R109.1) then c139_275  f (0) R109.2 else c139_275  f (1) R109.2)) else (if ¬ (R103.1) = (R109.1) then c139_275  f (0) R109.2 else c139_275  f (1) R109.2)) else c139_143  f  R109.2))))
theorem c139_111a_e (f : Nat) (x0 : Nat) (x2 : Int) (x3 : Int) (x4 : Int) (T : xT_) : c139_111 f x0 x2 x3 x4 T = ((cq_is 9 14 (x0) T).bind fun _ => ((c141 f (x0) (x2) T).bind fun R103 => c139_111a f x0 x3 x4 R103)) := rfl
def c139_111b (f : Nat) (x4 : Int) (R103 : (Int × xT_)) (R109 : (Int × xT_)) : Option (Int × xT_) := (if (R103.1) < (-1000000000000) then c139_143  f  R109.2 else (if (-1000000000000) ≤ (R109.1) then (if ¬ (x4) = (61) then (if ¬ (x4) = (257) then (if ¬ (x4) = (60) then (if ¬ (x4) = (258) then (if ¬ (x4) = (62) then (if (R103.1) < (R109.1) then c139_275  f (0) R109.2 else c139_275  f (1) R109.2) else (if (R103.1) ≤ (R109.1) then c139_275  f (0) R109.2 else c139_275  f (1) R109.2)) else (if (R109.1) < (R103.1) then c139_275  f (0) R109.2 else c139_275  f (1) R109.2)) else (if (R109.1) ≤ (R103.1) then c139_275  f (0) R109.2 else c139_275  f (1) R109.2)) else (if (R103.1) = (R109.1) then c139_275  f (0) R109.2 else c139_275  f (1) R109.2)) else (if ¬ (R103.1) = (R109.1) then c139_275  f (0) R109.2 else c139_275  f (1) R109.2)) else c139_143  f  R109.2))
theorem c139_111b_e (f : Nat) (x0 : Nat) (x3 : Int) (x4 : Int) (R103 : (Int × xT_)) : c139_111a f x0 x3 x4 R103 = ((cq_is 9 14 (x0) R103.2).bind fun _ => ((c141 f (x0) (x3) R103.2).bind fun R109 => c139_111b f x4 R103 R109)) := rfl
section
variable {f u s l st b nv x : Nat} {S : Nat → Nat × Nat × Nat} {G G1 : xG_} {m : Nat × Nat} {K E : pCd} {vl : Nat → Int} {v w z kd s1 s2 : Int} {R : Int × xT_}
/-- loneVariable() -/
theorem k_91w (hW : cWy S G u K) (hs : s < 20) (hg : cSg G u K s E) (hE : wC nv E) (hnv : nv ≤ 8) : (∃ x : Nat, x < nv ∧ E = [(2, (x : Int))] ∧ c91 f u (s : Int) (S, G, m) = some ((x : Int), (S, G, m))) ∨ (¬ qAl2 E ∧ c91 f u (s : Int) (S, G, m) = some (-1, (S, G, m))) := by
  obtain ⟨A, C, hK, h7, h8⟩ := hg
  have hl := K_len hK
  obtain ⟨_, _, _, u2, ⟨us, us1, us2, us3, us4, us5, us6, us7, us8, _⟩, ⟨w7, w9, w10, w11, w12, w13, w14, w15, _⟩, ⟨k1, k2, k3, k4, k5⟩, hk⟩ := hW
  have e1 : xwr (((A.length + E.length : Nat) : Int) - (A.length : Int)) = (E.length : Int) := by rw [xwr_g _ (by omega) (by omega)]; omega
  by_cases c : E.length = 1
  · have hv := k5 A.length (by omega)
    have hv0 := K_get hK (i := 0) (by omega)
    rw [Nat.add_zero] at hv0
    rw [hv0] at hv
    have hw := hE (E.getD 0 (0, 0)) (by rw [getD_e (by omega)]; exact List.getElem_mem _)
    have e1' : xwr (((A.length + E.length : Nat) : Int) - (A.length : Int)) = 1 := by rw [e1, c]; rfl
    by_cases c2 : (E.getD 0 (0, 0)).1 = 2
    · obtain ⟨x, hx, hxE⟩ := qAl_is hE ⟨c, c2⟩
      have eo : cOp (E.getD 0 (0, 0)) = (2, (x : Int)) := by rw [hxE]; rfl
      rw [eo] at hv
      refine .inl ⟨x, hx, hxE, ?_⟩
      have hv1 := hv.1
      have hv2 : G (u + 12) A.length = (x : Int) := hv.2
      have ex : xwr (x : Int) = (x : Int) := xwr_g _ (by omega) (by omega)
      clear hw hv0 eo e1 hK
      unfold c91 c91_37 c91_58
      simp (disch := omega) only [cq_gi, cq_gr, cq_a, cq_s, cq_p, cq_pr, cq_is, cq_ar, cq_ab, cq_ln, xq_nz, Option.bind_some, xup2_n, xup2_s, Int.toNat_natCast, Int.reduceToNat, if_pos, if_neg, true_and, and_true, and_self, eq_self, if_true, reduceIte, not_true_eq_false, not_false_eq_true, or_true, true_or, us, us7, us8, w14, w15, k1, k2, k3, k4, h7, h8, hv1, hv2, e1', ex, Int.reduceEq]
    · have hne : ¬ (cOp (E.getD 0 (0, 0))).1 = 2 := by
        unfold cOp
        rcases hw with a | a | ⟨a, b⟩
        · rw [if_neg (by omega)]; exact c2
        · exact absurd a.1 c2
        · rw [if_pos a]
          show ¬ (E.getD 0 (0, 0)).2 = 2
          unfold wSg at b
          omega
      refine .inr ⟨fun q => c2 q.2, ?_⟩
      have hv1 := hv.1
      clear hw hv0 e1 hK hv
      unfold c91 c91_36 c91_37 c91_58
      simp (disch := omega) only [cq_gi, cq_gr, cq_a, cq_s, cq_p, cq_pr, cq_is, cq_ar, cq_ab, cq_ln, xq_nz, Option.bind_some, xup2_n, xup2_s, Int.toNat_natCast, Int.reduceToNat, if_pos, if_neg, true_and, and_true, and_self, eq_self, if_true, reduceIte, not_true_eq_false, not_false_eq_true, or_true, true_or, us, us7, us8, w14, w15, k1, k2, k3, k4, h7, h8, hv1, e1', hne]
  · refine .inr ⟨fun q => c q.1, ?_⟩
    have hne : ¬ (E.length : Int) = 1 := by omega
    unfold c91 c91_36 c91_37 c91_58
    simp (disch := omega) only [cq_gi, cq_gr, cq_a, cq_s, cq_p, cq_pr, cq_is, cq_ar, cq_ab, cq_ln, xq_nz, Option.bind_some, xup2_n, xup2_s, Int.toNat_natCast, Int.reduceToNat, if_pos, if_neg, true_and, and_true, and_self, eq_self, if_true, reduceIte, not_true_eq_false, not_false_eq_true, or_true, true_or, us, us7, us8, w14, w15, h7, h8, e1, hne]
theorem st_140n (hs : cSs S) (h3 : G 83 3 = (u : Int)) (us : S u = (1, 6, 20)) (e : c91 f u s1 (S, G, m) = some (-1, (S, G, m))) : c140 f 83 s1 (S, G, m) = some (-1, (S, G, m)) := by
  unfold c140 c140_34 c140_35
  simp (disch := omega) only [cq_gi, cq_gr, cq_a, cq_s, cq_p, cq_pr, cq_is, cq_ar, cq_ab, cq_ln, xq_nz, Option.bind_some, xup2_n, xup2_s, Int.toNat_natCast, Int.reduceToNat, if_pos, if_neg, true_and, and_true, and_self, eq_self, if_true, reduceIte, not_true_eq_false, not_false_eq_true, or_true, true_or, s83 hs, h3, us, e]
theorem st_140v (hs : cSs S) (hp : cPs G) (h3 : G 83 3 = (u : Int)) (us : S u = (1, 6, 20)) (h6 : G 83 6 = (st : Int)) (hst : st < 8) (hb : G 87 st = (b : Int)) (hb8 : b < 2 ^ 8) (hx : x < 8) (e : c91 f u s1 (S, G, m) = some ((x : Int), (S, G, m))) : c140 f 83 s1 (S, G, m) = some (if b.testBit x = true then -1 else (x : Int), (S, G, m)) := by
  have hx1 : ¬ (x : Int) = -1 := by omega
  by_cases q : b.testBit x = true
  · rw [if_pos q]
    have eb : ¬ xand (xshr (b : Int) (x : Int)) 1 = 0 := fun y => by
      rw [(xbit0 (by omega) (by omega)).mp y] at q; cases q
    unfold c140 c140_34 c140_35
    simp (disch := omega) only [cq_gi, cq_gr, cq_a, cq_s, cq_p, cq_pr, cq_is, cq_ar, cq_ab, cq_ln, xq_nz, Option.bind_some, xup2_n, xup2_s, Int.toNat_natCast, Int.reduceToNat, if_pos, if_neg, true_and, and_true, and_self, eq_self, if_true, reduceIte, not_true_eq_false, not_false_eq_true, or_true, true_or, s83 hs, s87 hs, p83_8 hp, h3, us, h6, hb, e, hx1, eb]
  · rw [if_neg q]
    have eb : xand (xshr (b : Int) (x : Int)) 1 = 0 := (xbit0 (by omega) (by omega)).mpr (by cases hq : b.testBit x; rfl; exact absurd hq q)
    unfold c140 c140_35
    simp (disch := omega) only [cq_gi, cq_gr, cq_a, cq_s, cq_p, cq_pr, cq_is, cq_ar, cq_ab, cq_ln, xq_nz, Option.bind_some, xup2_n, xup2_s, Int.toNat_natCast, Int.reduceToNat, if_pos, if_neg, true_and, and_true, and_self, eq_self, if_true, reduceIte, not_true_eq_false, not_false_eq_true, or_true, true_or, s83 hs, s87 hs, p83_8 hp, h3, us, h6, hb, e, hx1, eb]
theorem st_139o (hs : cSs S) (h3 : G 83 3 = (u : Int)) (us : S u = (1, 6, 20)) (us2 : S (u + 2) = (2, 3, 8)) (w9 : G u 9 = ((u + 2 : Nat) : Int)) (hl : l < 8) (hk : G (u + 2) l = kd) (q1 : xwr (4 + xwr (2 * (l : Int))) = s1) (q2 : xwr (s1 + 1) = s2) (hne : kd ≠ 61) : c139 f 83 (l : Int) (S, G, m) = c139_111 f 83 s1 s2 kd (S, G, m) := by
  unfold c139
  simp (disch := omega) only [cq_gi, cq_gr, cq_a, cq_s, cq_p, cq_pr, cq_is, cq_ar, cq_ab, cq_ln, xq_nz, Option.bind_some, xup2_n, xup2_s, Int.toNat_natCast, Int.reduceToNat, if_pos, if_neg, true_and, and_true, and_self, eq_self, if_true, reduceIte, not_true_eq_false, not_false_eq_true, or_true, true_or, s83 hs, h3, us, us2, w9, hk, hne, q1, q2]
theorem st_139e (hs : cSs S) (h3 : G 83 3 = (u : Int)) (us : S u = (1, 6, 20)) (us2 : S (u + 2) = (2, 3, 8)) (w9 : G u 9 = ((u + 2 : Nat) : Int)) (hl : l < 8) (hk : G (u + 2) l = 61) (q1 : xwr (4 + xwr (2 * (l : Int))) = s1) (q2 : xwr (s1 + 1) = s2) (e : c140 f 83 s1 (S, G, m) = some R) : c139 f 83 (l : Int) (S, G, m) = c139a f 83 (l : Int) 61 R := by
  rw [c139a_e]
  simp (disch := omega) only [cq_gi, cq_gr, cq_a, cq_s, cq_p, cq_pr, cq_is, cq_ar, cq_ab, cq_ln, xq_nz, Option.bind_some, xup2_n, xup2_s, Int.toNat_natCast, Int.reduceToNat, if_pos, if_neg, true_and, and_true, and_self, eq_self, if_true, reduceIte, not_true_eq_false, not_false_eq_true, or_true, true_or, s83 hs, h3, us, us2, w9, hk, q1, e]
theorem st_139l (q1 : xwr (4 + xwr (2 * (l : Int))) = s1) (q2 : xwr (s1 + 1) = s2) (hv : v ≠ -1) : c139a f 83 (l : Int) 61 (v, (S, G, m)) = c139_54 f 83 s1 s2 61 v s2 (S, G, m) := by
  rw [c139b_e]
  simp (disch := omega) only [cq_gi, cq_gr, cq_a, cq_s, cq_p, cq_pr, cq_is, cq_ar, cq_ab, cq_ln, xq_nz, Option.bind_some, xup2_n, xup2_s, Int.toNat_natCast, Int.reduceToNat, if_pos, if_neg, true_and, and_true, and_self, eq_self, if_true, reduceIte, not_true_eq_false, not_false_eq_true, or_true, true_or, hv, q1, q2]
theorem st_139r (hs : cSs S) (q1 : xwr (4 + xwr (2 * (l : Int))) = s1) (q2 : xwr (s1 + 1) = s2) (e : c140 f 83 s2 (S, G, m) = some (v, (S, G, m))) : c139a f 83 (l : Int) 61 (-1, (S, G, m)) = c139_54 f 83 s1 s2 61 v s1 (S, G, m) := by
  rw [c139b_e]
  unfold c139b
  simp (disch := omega) only [cq_gi, cq_gr, cq_a, cq_s, cq_p, cq_pr, cq_is, cq_ar, cq_ab, cq_ln, xq_nz, Option.bind_some, xup2_n, xup2_s, Int.toNat_natCast, Int.reduceToNat, if_pos, if_neg, true_and, and_true, and_self, eq_self, if_true, reduceIte, not_true_eq_false, not_false_eq_true, or_true, true_or, s83 hs, q1, q2, e]
theorem st_54n {s3 : Int} : c139_54 f 83 s1 s2 kd (-1) s3 (S, G, m) = c139_111 f 83 s1 s2 kd (S, G, m) := by
  unfold c139_54
  simp (disch := omega) only [cq_gi, cq_gr, cq_a, cq_s, cq_p, cq_pr, cq_is, cq_ar, cq_ab, cq_ln, xq_nz, Option.bind_some, xup2_n, xup2_s, Int.toNat_natCast, Int.reduceToNat, if_pos, if_neg, true_and, and_true, and_self, eq_self, if_true, reduceIte, not_true_eq_false, not_false_eq_true, or_true, true_or, s83]
theorem st_54v {s3 : Int} (hs : cSs S) (hs1 : cPs G) (hp : cPs G1) (hx : x < 8) (h6 : G1 83 6 = (st : Int)) (hst : st < 8) (es : xwr ((st : Int) + 1) = ((st + 1 : Nat) : Int)) (hb : G1 87 (st + 1) = (b : Int)) (hb8 : b < 2 ^ 8) (e : c141 f 83 s3 (S, G, m) = some (w, (S, G1, m))) : c139_54 f 83 s1 s2 kd (x : Int) s3 (S, G, m) = some (if w < -1000000000000 then 0 else 1, (S, xup2 (xup2 G1 84 x w) 87 (st + 1) ((b ||| 2 ^ x : Nat) : Int), m)) := by
  have hx1 : ¬ (x : Int) = -1 := by omega
  have eo : xor_ (b : Int) (xshl 1 (x : Int)) = ((b ||| 2 ^ x : Nat) : Int) := xorb (by omega) (by omega)
  by_cases q : w < -1000000000000
  · rw [if_pos q]
    unfold c139_54 c139_110
    simp (disch := omega) only [cq_gi, cq_gr, cq_a, cq_s, cq_p, cq_pr, cq_is, cq_ar, cq_ab, cq_ln, xq_nz, Option.bind_some, xup2_n, xup2_s, Int.toNat_natCast, Int.reduceToNat, if_pos, if_neg, true_and, and_true, and_self, eq_self, if_true, reduceIte, not_true_eq_false, not_false_eq_true, or_true, true_or, s83 hs, s84 hs, s87 hs, p83_0 hs1, p83_0 hp, p83_8 hp, h6, es, hb, e, hx1, eo, q]
  · rw [if_neg q]
    unfold c139_54 c139_110
    simp (disch := omega) only [cq_gi, cq_gr, cq_a, cq_s, cq_p, cq_pr, cq_is, cq_ar, cq_ab, cq_ln, xq_nz, Option.bind_some, xup2_n, xup2_s, Int.toNat_natCast, Int.reduceToNat, if_pos, if_neg, true_and, and_true, and_self, eq_self, if_true, reduceIte, not_true_eq_false, not_false_eq_true, or_true, true_or, s83 hs, s84 hs, s87 hs, p83_0 hs1, p83_0 hp, p83_8 hp, h6, es, hb, e, hx1, eo, q]
end
