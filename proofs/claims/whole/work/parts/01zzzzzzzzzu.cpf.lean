/-! THE CLASS: programFault(), steps -/
def c62_56t (f : Nat) (x0 : Nat) (R108 : (xT_)) : Option (Int × xT_) := ((cq_gr 4 3 20 (x0) R108).bind fun v114 => ((cq_is 3 14 (v114) R108).bind fun _ => ((c28 f (v114) R108).bind fun R116 => ((cq_p 4 2 20 (x0) (R116.1) R116.2).bind fun T123 => ((cq_gi 4 2 20 (x0) T123).bind fun v127 => (if (v127) = (-1) then c62_130  f (0) T123 else c62_130  f (5) T123))))))
theorem c62_56t_e (r56 : Nat → Int → xT_ → Option (Int × xT_)) (f : Nat) (x0 : Nat) (x1 : Int) (T : xT_) : c62_56b r56 f x0 x1 T = ((cq_gr 4 3 20 (x0) T).bind fun v101 => ((cq_gi 3 8 14 (v101) T).bind fun v103 => (if (v103) ≤ (x1) then ((cq_gr 4 3 20 (x0) T).bind fun v106 => ((cq_is 3 14 (v106) T).bind fun _ => ((c24 f (v106) T).bind fun R108 => c62_56t f x0 R108))) else ((cq_gr 4 3 20 (x0) T).bind fun v130 => ((cq_gr 3 9 14 (v130) T).bind fun v132 => ((cq_ar (v132) (x1) T).bind fun v134 => ((cq_is 6 20 (v134) T).bind fun _ => ((c95 f (v134) T).bind fun R136 => ((cq_p 4 2 20 (x0) (R136.1) R136.2).bind fun T143 => ((cq_gi 4 2 20 (x0) T143).bind fun v147 => (if (v147) = (-1) then r56 (x0) (xwr ((x1) + (1))) T143 else (some (4, T143))))))))))))) := rfl
section
variable {f q u r n : Nat} {S : Nat → Nat × Nat × Nat} {G : xG_} {m : Nat × Nat} {x : Int} {r56 : Nat → Int → xT_ → Option (Int × xT_)}
theorem st_62r (hs : cSs S) (hq : 82 < q) (u2 : 278 < u) (hr : r < n) (hn : n ≤ 24) (qs : S q = (1, 3, 14)) (us : S u = (1, 6, 20)) (q7 : S (q + 7) = (2, 11, 24)) (h3 : G 72 3 = (q : Int)) (h8 : G q 8 = (n : Int)) (w9 : G q 9 = ((q + 7 : Nat) : Int)) (h7 : G (q + 7) r = (u : Int)) (e : c95 f u (S, G, m) = some (x, (S, G, m))) : c62_56b r56 f 72 (r : Int) (S, G, m) = if x = -1 then r56 72 (xwr ((r : Int) + 1)) (S, xup2 G 72 2 x, m) else some (4, (S, xup2 G 72 2 x, m)) := by
  rw [c62_56t_e]
  by_cases c : x = -1
  · rw [if_pos c]
    rw [c] at e ⊢
    simp (disch := omega) only [cq_gi, cq_gr, cq_a, cq_s, cq_p, cq_pr, cq_is, cq_ar, cq_ab, cq_ln, xq_nz, Option.bind_some, xup2_n, xup2_s, Int.toNat_natCast, Int.reduceToNat, if_pos, if_neg, true_and, and_true, and_self, eq_self, if_true, reduceIte, not_true_eq_false, not_false_eq_true, or_true, true_or, s72 hs, qs, us, q7, h3, h8, w9, h7, e]
  · rw [if_neg c]
    simp (disch := omega) only [cq_gi, cq_gr, cq_a, cq_s, cq_p, cq_pr, cq_is, cq_ar, cq_ab, cq_ln, xq_nz, Option.bind_some, xup2_n, xup2_s, Int.toNat_natCast, Int.reduceToNat, if_pos, if_neg, true_and, and_true, and_self, eq_self, if_true, reduceIte, not_true_eq_false, not_false_eq_true, or_true, true_or, s72 hs, qs, us, q7, h3, h8, w9, h7, e, c]
theorem st_62e {T : xT_} (hs : cSs S) (hq : 82 < q) (qs : S q = (1, 3, 14)) (h3 : G 72 3 = (q : Int)) (h8 : G q 8 = (n : Int)) (e : c24 f q (S, G, m) = some T) : c62_56b r56 f 72 (n : Int) (S, G, m) = c62_56t f 72 T := by
  rw [c62_56t_e]
  simp (disch := omega) only [cq_gi, cq_gr, cq_a, cq_s, cq_p, cq_pr, cq_is, cq_ar, cq_ab, cq_ln, xq_nz, Option.bind_some, xup2_n, xup2_s, Int.toNat_natCast, Int.reduceToNat, if_pos, if_neg, true_and, and_true, and_self, eq_self, if_true, reduceIte, not_true_eq_false, not_false_eq_true, or_true, true_or, s72 hs, qs, h3, h8, e]
theorem st_62t (s72' : S 72 = (1, 4, 20)) (hq : 82 < q) (qs : S q = (1, 3, 14)) (h3 : G 72 3 = (q : Int)) (e : c28 f q (S, G, m) = some (x, (S, G, m))) : c62_56t f 72 (S, G, m) = some (if x = -1 then 0 else 5, (S, xup2 G 72 2 x, m)) := by
  by_cases c : x = -1
  · rw [if_pos c]
    rw [c] at e ⊢
    unfold c62_56t c62_130
    simp (disch := omega) only [cq_gi, cq_gr, cq_a, cq_s, cq_p, cq_pr, cq_is, cq_ar, cq_ab, cq_ln, xq_nz, Option.bind_some, xup2_n, xup2_s, Int.toNat_natCast, Int.reduceToNat, if_pos, if_neg, true_and, and_true, and_self, eq_self, if_true, reduceIte, not_true_eq_false, not_false_eq_true, or_true, true_or, s72', qs, h3, e]
  · rw [if_neg c]
    unfold c62_56t c62_130
    simp (disch := omega) only [cq_gi, cq_gr, cq_a, cq_s, cq_p, cq_pr, cq_is, cq_ar, cq_ab, cq_ln, xq_nz, Option.bind_some, xup2_n, xup2_s, Int.toNat_natCast, Int.reduceToNat, if_pos, if_neg, true_and, and_true, and_self, eq_self, if_true, reduceIte, not_true_eq_false, not_false_eq_true, or_true, true_or, s72', qs, h3, e, c]
end
