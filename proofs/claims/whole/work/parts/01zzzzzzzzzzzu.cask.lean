/-! THE CLASS: ask() -/
/-- values of the first nv VARIABLES -/
def vec (nv : Nat) (v : Nat → Int) : List Int := (List.range nv).map v
theorem vec_len {nv : Nat} {v : Nat → Int} : (vec nv v).length = nv := by unfold vec; rw [List.length_map, List.length_range]
theorem vec_get {nv k : Nat} {v : Nat → Int} (h : k < nv) : (vec nv v).getD k 0 = v k := by
  unfold vec
  rw [List.getD_eq_getElem?_getD, List.getElem?_map, List.getElem?_range h]
  rfl
theorem vec_ext {nv : Nat} {v w : Nat → Int} (h : ∀ k, k < nv → v k = w k) : vec nv v = vec nv w := by
  unfold vec
  exact List.map_congr_left (fun k hk => h k (List.mem_range.mp hk))
theorem vec_vF {nv : Nat} {v : Nat → Int} {k : Nat} (h : k < nv) : vF (vec nv v) k = v k := vec_get h
section
variable {f x y nv i lo : Nat} {S : Nat → Nat × Nat × Nat} {G G1 G2 : xG_} {m : Nat × Nat} {r29 : Nat → Nat → Int → xT_ → Option (Int × xT_)} {v n : Int}
theorem st_179z (hs : cSs S) (hp : cPs G) (hi : i < 10000000) (e : c132 f 83 (S, G, m) = some (0, (S, G1, m))) : c179_29b r29 f 64 x (i : Int) (S, G, m) = c179_101 f 64 x (S, G1, m) := by
  unfold c179_29b
  simp (disch := omega) only [cq_gi, cq_gr, cq_a, cq_s, cq_p, cq_pr, cq_is, cq_ar, cq_ab, cq_ln, xq_nz, Option.bind_some, xup2_n, xup2_s, Int.toNat_natCast, Int.reduceToNat, if_pos, if_neg, true_and, and_true, and_self, eq_self, if_true, reduceIte, not_true_eq_false, not_false_eq_true, or_true, true_or, s64 hs, s83 hs, p64_2 hp, e]
theorem st_179f (hs : cSs S) (hp : cPs G) (hp1 : cPs G1) (hi : i < 10000000) (e : c132 f 83 (S, G, m) = some (1, (S, G1, m))) (xs : S x = (1, 5, 4)) (e2 : c74 f x 84 (S, G1, m) = some (v, (S, G1, m))) (hv : 0 ≤ v) (ei : xwr ((i : Int) + 1) = ((i + 1 : Nat) : Int)) : c179_29b r29 f 64 x (i : Int) (S, G, m) = r29 64 x ((i + 1 : Nat) : Int) (S, G1, m) := by
  unfold c179_29b c179_95
  simp (disch := omega) only [cq_gi, cq_gr, cq_a, cq_s, cq_p, cq_pr, cq_is, cq_ar, cq_ab, cq_ln, xq_nz, Option.bind_some, xup2_n, xup2_s, Int.toNat_natCast, Int.reduceToNat, if_pos, if_neg, true_and, and_true, and_self, eq_self, if_true, reduceIte, not_true_eq_false, not_false_eq_true, or_true, true_or, s64 hs, s83 hs, p64_2 hp, p64_2 hp1, p83_0 hp1, e, xs, e2, hv, ei, Int.reduceEq]
theorem st_179t (hs : cSs S) (hp : cPs G) (hp1 : cPs G1) (hi : i < 10000000) (e : c132 f 83 (S, G, m) = some (1, (S, G1, m))) (xs : S x = (1, 5, 4)) (e2 : c74 f x 84 (S, G1, m) = some (v, (S, G1, m))) (hv : ¬ 0 ≤ v) (h1 : G1 x 1 = 500) : c179_29b r29 f 64 x (i : Int) (S, G, m) = some (-6000, (S, G1, m)) := by
  unfold c179_29b
  simp (disch := omega) only [cq_gi, cq_gr, cq_a, cq_s, cq_p, cq_pr, cq_is, cq_ar, cq_ab, cq_ln, xq_nz, Option.bind_some, xup2_n, xup2_s, Int.toNat_natCast, Int.reduceToNat, if_pos, if_neg, true_and, and_true, and_self, eq_self, if_true, reduceIte, not_true_eq_false, not_false_eq_true, or_true, true_or, s64 hs, s83 hs, p64_2 hp, p64_2 hp1, p83_0 hp1, e, xs, e2, hv, h1, Int.reduceEq]
theorem st_179i (hs : cSs S) (hp : cPs G) (hp1 : cPs G1) (hi : i < 10000000) (e : c132 f 83 (S, G, m) = some (1, (S, G1, m))) (xs : S x = (1, 5, 4)) (e2 : c74 f x 84 (S, G1, m) = some (v, (S, G1, m))) (hv : ¬ 0 ≤ v) (h1 : G1 x 1 = n) (hn : n ≠ 500) (ev : xwr (-1 - v) = (lo : Int)) (e3 : c76 f x (lo : Int) 84 0 (S, G1, m) = some (S, G2, m)) (ei : xwr ((i : Int) + 1) = ((i + 1 : Nat) : Int)) : c179_29b r29 f 64 x (i : Int) (S, G, m) = r29 64 x ((i + 1 : Nat) : Int) (S, G2, m) := by
  unfold c179_29b c179_95
  simp (disch := omega) only [cq_gi, cq_gr, cq_a, cq_s, cq_p, cq_pr, cq_is, cq_ar, cq_ab, cq_ln, xq_nz, Option.bind_some, xup2_n, xup2_s, Int.toNat_natCast, Int.reduceToNat, if_pos, if_neg, true_and, and_true, and_self, eq_self, if_true, reduceIte, not_true_eq_false, not_false_eq_true, or_true, true_or, s64 hs, s83 hs, p64_2 hp, p64_2 hp1, p83_0 hp1, e, xs, e2, hv, h1, hn, ev, e3, ei, Int.reduceEq]
theorem st_179e (hs : cSs S) (xs : S x = (1, 5, 4)) (hx : 64 < x) (h1 : G x 1 = (i : Int)) (h10 : G 64 10 = (y : Int)) : c179_101 f 64 x (S, G, m) = some ((i : Int), (S, if i = 0 then G else xup2 (xup2 G 64 11 (y : Int)) 64 10 (x : Int), m)) := by
  by_cases c : i = 0
  · rw [if_pos c]
    rw [c] at h1 ⊢
    unfold c179_101 c179_121
    simp (disch := omega) only [cq_gi, cq_gr, cq_a, cq_s, cq_p, cq_pr, cq_is, cq_ar, cq_ab, cq_ln, xq_nz, Option.bind_some, xup2_n, xup2_s, Int.toNat_natCast, Int.reduceToNat, if_pos, if_neg, true_and, and_true, and_self, eq_self, if_true, reduceIte, not_true_eq_false, not_false_eq_true, or_true, true_or, xs, h1]
  · rw [if_neg c]
    unfold c179_101 c179_121
    simp (disch := omega) only [cq_gi, cq_gr, cq_a, cq_s, cq_p, cq_pr, cq_is, cq_ar, cq_ab, cq_ln, xq_nz, Option.bind_some, xup2_n, xup2_s, Int.toNat_natCast, Int.reduceToNat, if_pos, if_neg, true_and, and_true, and_self, eq_self, if_true, reduceIte, not_true_eq_false, not_false_eq_true, or_true, true_or, s64 hs, xs, h1, h10]
end
