/-! THE CLASS: rows: insert(), remove() -/
theorem getD_i9 {R : List pRw} {r : pRw} {p i : Nat} (hp : p ≤ R.length) : (R.take p ++ r :: R.drop p).getD i dRw = if i < p then R.getD i dRw else if i = p then r else R.getD (i - 1) dRw := by
  have hl : (R.take p).length = p := by rw [List.length_take]; omega
  rw [List.getD_eq_getElem?_getD, List.getElem?_append, hl]
  by_cases c : i < p
  · rw [if_pos c, if_pos c, List.getElem?_take, if_pos c, ← List.getD_eq_getElem?_getD]
  · rw [if_neg c, if_neg c]
    by_cases d : i = p
    · rw [if_pos d, d, Nat.sub_self]
      rfl
    · rw [if_neg d]
      obtain ⟨t, ht⟩ : ∃ t, i - p = t + 1 := ⟨i - p - 1, by omega⟩
      rw [ht, List.getElem?_cons_succ, List.getElem?_drop, ← List.getD_eq_getElem?_getD]
      congr 1
      omega
theorem len_i9 {R : List pRw} {r : pRw} {p : Nat} (hp : p ≤ R.length) : (R.take p ++ r :: R.drop p).length = R.length + 1 := by
  rw [List.length_append, List.length_take, List.length_cons, List.length_drop]
  omega
theorem getD_rem {R : List pRw} {p i : Nat} (hp : p < R.length) : (R.take p ++ R.drop (p + 1)).getD i dRw = if i < p then R.getD i dRw else R.getD (i + 1) dRw := by
  have hl : (R.take p).length = p := by rw [List.length_take]; omega
  rw [List.getD_eq_getElem?_getD, List.getElem?_append, hl]
  by_cases c : i < p
  · rw [if_pos c, if_pos c, List.getElem?_take, if_pos c, ← List.getD_eq_getElem?_getD]
  · rw [if_neg c, if_neg c, List.getElem?_drop, ← List.getD_eq_getElem?_getD]
    congr 1
    omega
theorem len_rem {R : List pRw} {p : Nat} (hp : p < R.length) : (R.take p ++ R.drop (p + 1)).length = R.length - 1 := by
  rw [List.length_append, List.length_take, List.length_drop]
  omega
def c76a (f : Nat) (a0 : Nat) (a1 : Int) (a2 : Nat) (a3 : Int) (T125 : xT_) : Option (xT_) := ((cq_gr 5 3 4 (a0) T125).bind fun v129 => ((cq_gr 5 3 4 (a0) T125).bind fun v131 => ((cq_gi 5 1 4 (a0) T125).bind fun v133 => ((cq_cp (v129) (a1) (v131) (xwr ((a1) + (1))) (xwr ((v133) - (a1))) T125).bind fun T136 => ((cq_gr 5 2 4 (a0) T136).bind fun v140 => ((cq_gi 5 0 4 (a0) T136).bind fun v142 => ((cq_gi 5 0 4 (a0) T136).bind fun v144 => ((cq_cp (a2) (0) (v140) (xwr ((a1) * (v142))) (v144) T136).bind fun T147 => ((cq_gr 5 3 4 (a0) T147).bind fun v151 => ((cq_s 3 (v151) (a1) (a3) T147).bind fun T154 => ((cq_gi 5 1 4 (a0) T154).bind fun v158 => ((cq_p 5 1 4 (a0) (xwr ((v158) + (1))) T154).bind fun T161 => (some T161)))))))))))))
theorem c76a_e (f : Nat) (a0 : Nat) (a1 : Int) (a2 : Nat) (a3 : Int) (T : xT_) : c76 f a0 a1 a2 a3 T = ((cq_gi 5 1 4 (a0) T).bind fun v101 => ((cq_gr 5 3 4 (a0) T).bind fun v103 => ((cq_ln (v103) T).bind fun v105 => (if (v105) ≤ (v101) then c76_24  f  T else (if (a1) < 0 then c76_24  f  T else ((cq_gi 5 1 4 (a0) T).bind fun v109 => (if (a1) ≤ (v109) then ((cq_gr 5 2 4 (a0) T).bind fun v112 => ((cq_gi 5 0 4 (a0) T).bind fun v114 => ((cq_gr 5 2 4 (a0) T).bind fun v116 => ((cq_gi 5 0 4 (a0) T).bind fun v118 => ((cq_gi 5 1 4 (a0) T).bind fun v120 => ((cq_gi 5 0 4 (a0) T).bind fun v122 => ((cq_cp (v112) (xwr ((a1) * (v114))) (v116) (xwr ((xwr ((a1) + (1))) * (v118))) (xwr ((xwr ((v120) - (a1))) * (v122))) T).bind fun T125 => c76a f a0 a1 a2 a3 T125))))))) else c76_24  f  T))))))) := rfl
def c76b (f : Nat) (a0 : Nat) (a1 : Int) (a2 : Nat) (a3 : Int) (T136 : xT_) : Option (xT_) := ((cq_gr 5 2 4 (a0) T136).bind fun v140 => ((cq_gi 5 0 4 (a0) T136).bind fun v142 => ((cq_gi 5 0 4 (a0) T136).bind fun v144 => ((cq_cp (a2) (0) (v140) (xwr ((a1) * (v142))) (v144) T136).bind fun T147 => ((cq_gr 5 3 4 (a0) T147).bind fun v151 => ((cq_s 3 (v151) (a1) (a3) T147).bind fun T154 => ((cq_gi 5 1 4 (a0) T154).bind fun v158 => ((cq_p 5 1 4 (a0) (xwr ((v158) + (1))) T154).bind fun T161 => (some T161)))))))))
theorem c76b_e (f : Nat) (a0 : Nat) (a1 : Int) (a2 : Nat) (a3 : Int) (T125 : xT_) : c76a f a0 a1 a2 a3 T125 = ((cq_gr 5 3 4 (a0) T125).bind fun v129 => ((cq_gr 5 3 4 (a0) T125).bind fun v131 => ((cq_gi 5 1 4 (a0) T125).bind fun v133 => ((cq_cp (v129) (a1) (v131) (xwr ((a1) + (1))) (xwr ((v133) - (a1))) T125).bind fun T136 => c76b f a0 a1 a2 a3 T136)))) := rfl
def c76c (f : Nat) (a0 : Nat) (a1 : Int) (a3 : Int) (T147 : xT_) : Option (xT_) := ((cq_gr 5 3 4 (a0) T147).bind fun v151 => ((cq_s 3 (v151) (a1) (a3) T147).bind fun T154 => ((cq_gi 5 1 4 (a0) T154).bind fun v158 => ((cq_p 5 1 4 (a0) (xwr ((v158) + (1))) T154).bind fun T161 => (some T161)))))
theorem c76c_e (f : Nat) (a0 : Nat) (a1 : Int) (a2 : Nat) (a3 : Int) (T136 : xT_) : c76b f a0 a1 a2 a3 T136 = ((cq_gr 5 2 4 (a0) T136).bind fun v140 => ((cq_gi 5 0 4 (a0) T136).bind fun v142 => ((cq_gi 5 0 4 (a0) T136).bind fun v144 => ((cq_cp (a2) (0) (v140) (xwr ((a1) * (v142))) (v144) T136).bind fun T147 => c76c f a0 a1 a3 T147)))) := rfl
def c77a (f : Nat) (a0 : Nat) (a1 : Int) (v105 : Int) (T118 : xT_) : Option (xT_) := ((cq_gr 5 3 4 (a0) T118).bind fun v122 => ((cq_gr 5 3 4 (a0) T118).bind fun v124 => ((cq_cp (v122) (xwr ((a1) + (1))) (v124) (a1) (xwr ((xwr ((v105) - (a1))) - (1))) T118).bind fun T127 => ((cq_gi 5 1 4 (a0) T127).bind fun v131 => ((cq_p 5 1 4 (a0) (xwr ((v131) - (1))) T127).bind fun T134 => (some T134))))))
theorem c77a_e (f : Nat) (a0 : Nat) (a1 : Int) (T : xT_) : c77 f a0 a1 T = (if (a1) < 0 then c77_12  f  T else ((cq_gi 5 1 4 (a0) T).bind fun v102 => (if (a1) < (v102) then ((cq_gi 5 1 4 (a0) T).bind fun v105 => ((cq_gr 5 2 4 (a0) T).bind fun v107 => ((cq_gi 5 0 4 (a0) T).bind fun v109 => ((cq_gr 5 2 4 (a0) T).bind fun v111 => ((cq_gi 5 0 4 (a0) T).bind fun v113 => ((cq_gi 5 0 4 (a0) T).bind fun v115 => ((cq_cp (v107) (xwr ((xwr ((a1) + (1))) * (v109))) (v111) (xwr ((a1) * (v113))) (xwr ((xwr ((xwr ((v105) - (a1))) - (1))) * (v115))) T).bind fun T118 => c77a f a0 a1 v105 T118))))))) else c77_12  f  T))) := rfl
def c77b (f : Nat) (a0 : Nat) (T127 : xT_) : Option (xT_) := ((cq_gi 5 1 4 (a0) T127).bind fun v131 => ((cq_p 5 1 4 (a0) (xwr ((v131) - (1))) T127).bind fun T134 => (some T134)))
theorem c77b_e (f : Nat) (a0 : Nat) (a1 : Int) (v105 : Int) (T118 : xT_) : c77a f a0 a1 v105 T118 = ((cq_gr 5 3 4 (a0) T118).bind fun v122 => ((cq_gr 5 3 4 (a0) T118).bind fun v124 => ((cq_cp (v122) (xwr ((a1) + (1))) (v124) (a1) (xwr ((xwr ((v105) - (a1))) - (1))) T118).bind fun T127 => c77b f a0 T127))) := rfl
section
variable {f x W cap p n a kz z e1 e2 e3 : Nat} {S : Nat → Nat × Nat × Nat} {G G1 : xG_} {m : Nat × Nat} {R : List pRw} {kl : List Int} {rk : Int} {T : xT_}
theorem st_76a (xs : S x = (1, 5, 4)) (ds : S (x + 2) = (2, 3, cap)) (hcap : cap ≤ 512) (w0 : G x 0 = (W : Int)) (w1 : G x 1 = (n : Int)) (w2 : G x 2 = ((x + 1 : Nat) : Int)) (w3 : G x 3 = ((x + 2 : Nat) : Int)) (hp : p ≤ n) (hn : n < cap) (q1 : xwr ((p : Int) * (W : Int)) = (e1 : Int)) (q2 : xwr ((xwr ((p : Int) + 1)) * (W : Int)) = (e2 : Int)) (q3 : xwr ((xwr ((n : Int) - (p : Int))) * (W : Int)) = (e3 : Int)) (ec : cq_cp (x + 1) (e1 : Int) (x + 1) (e2 : Int) (e3 : Int) (S, G, m) = some T) : c76 f x (p : Int) a rk (S, G, m) = c76a f x (p : Int) a rk T := by
  rw [c76a_e]
  simp (disch := omega) only [cq_gi, cq_gr, cq_a, cq_s, cq_p, cq_pr, cq_is, cq_ar, cq_ab, cq_ln, xq_nz, Option.bind_some, xup2_n, xup2_s, Int.toNat_natCast, Int.reduceToNat, if_pos, if_neg, true_and, and_true, and_self, eq_self, if_true, reduceIte, not_true_eq_false, not_false_eq_true, or_true, true_or, xs, ds, w0, w1, w2, w3, q1, q2, q3, ec]
theorem st_76b (xs : S x = (1, 5, 4)) (w1 : G x 1 = (n : Int)) (w3 : G x 3 = ((x + 2 : Nat) : Int)) (q1 : xwr ((p : Int) + 1) = (e1 : Int)) (q2 : xwr ((n : Int) - (p : Int)) = (e2 : Int)) (ec : cq_cp (x + 2) (p : Int) (x + 2) (e1 : Int) (e2 : Int) (S, G, m) = some T) : c76a f x (p : Int) a rk (S, G, m) = c76b f x (p : Int) a rk T := by
  rw [c76b_e]
  simp (disch := omega) only [cq_gi, cq_gr, cq_a, cq_s, cq_p, cq_pr, cq_is, cq_ar, cq_ab, cq_ln, xq_nz, Option.bind_some, xup2_n, xup2_s, Int.toNat_natCast, Int.reduceToNat, if_pos, if_neg, true_and, and_true, and_self, eq_self, if_true, reduceIte, not_true_eq_false, not_false_eq_true, or_true, true_or, xs, w1, w3, q1, q2, ec]
theorem st_76c (xs : S x = (1, 5, 4)) (w0 : G x 0 = (W : Int)) (w2 : G x 2 = ((x + 1 : Nat) : Int)) (q1 : xwr ((p : Int) * (W : Int)) = (e1 : Int)) (ec : cq_cp a 0 (x + 1) (e1 : Int) (W : Int) (S, G, m) = some T) : c76b f x (p : Int) a rk (S, G, m) = c76c f x (p : Int) rk T := by
  rw [c76c_e]
  simp (disch := omega) only [cq_gi, cq_gr, cq_a, cq_s, cq_p, cq_pr, cq_is, cq_ar, cq_ab, cq_ln, xq_nz, Option.bind_some, xup2_n, xup2_s, Int.toNat_natCast, Int.reduceToNat, if_pos, if_neg, true_and, and_true, and_self, eq_self, if_true, reduceIte, not_true_eq_false, not_false_eq_true, or_true, true_or, xs, w0, w2, q1, ec]
theorem st_76d (xs : S x = (1, 5, 4)) (ds : S (x + 2) = (2, 3, cap)) (w1 : G x 1 = (n : Int)) (w3 : G x 3 = ((x + 2 : Nat) : Int)) (hp : p < cap) (q1 : xwr ((n : Int) + 1) = ((n + 1 : Nat) : Int)) : c76c f x (p : Int) rk (S, G, m) = some (S, xup2 (xup2 G (x + 2) p rk) x 1 ((n + 1 : Nat) : Int), m) := by
  unfold c76c
  simp (disch := omega) only [cq_gi, cq_gr, cq_a, cq_s, cq_p, cq_pr, cq_is, cq_ar, cq_ab, cq_ln, xq_nz, Option.bind_some, xup2_n, xup2_s, Int.toNat_natCast, Int.reduceToNat, if_pos, if_neg, true_and, and_true, and_self, eq_self, if_true, reduceIte, not_true_eq_false, not_false_eq_true, or_true, true_or, xs, ds, w1, w3, q1]
theorem st_77a (xs : S x = (1, 5, 4)) (w0 : G x 0 = (W : Int)) (w1 : G x 1 = (n : Int)) (w2 : G x 2 = ((x + 1 : Nat) : Int)) (hp : p < n) (q1 : xwr ((xwr ((p : Int) + 1)) * (W : Int)) = (e1 : Int)) (q2 : xwr ((p : Int) * (W : Int)) = (e2 : Int)) (q3 : xwr ((xwr ((xwr ((n : Int) - (p : Int))) - 1)) * (W : Int)) = (e3 : Int)) (ec : cq_cp (x + 1) (e1 : Int) (x + 1) (e2 : Int) (e3 : Int) (S, G, m) = some T) : c77 f x (p : Int) (S, G, m) = c77a f x (p : Int) (n : Int) T := by
  rw [c77a_e]
  simp (disch := omega) only [cq_gi, cq_gr, cq_a, cq_s, cq_p, cq_pr, cq_is, cq_ar, cq_ab, cq_ln, xq_nz, Option.bind_some, xup2_n, xup2_s, Int.toNat_natCast, Int.reduceToNat, if_pos, if_neg, true_and, and_true, and_self, eq_self, if_true, reduceIte, not_true_eq_false, not_false_eq_true, or_true, true_or, xs, w0, w1, w2, q1, q2, q3, ec]
theorem st_77b (xs : S x = (1, 5, 4)) (w3 : G x 3 = ((x + 2 : Nat) : Int)) (q1 : xwr ((p : Int) + 1) = (e1 : Int)) (q2 : xwr ((xwr ((n : Int) - (p : Int))) - 1) = (e2 : Int)) (ec : cq_cp (x + 2) (e1 : Int) (x + 2) (p : Int) (e2 : Int) (S, G, m) = some T) : c77a f x (p : Int) (n : Int) (S, G, m) = c77b f x T := by
  rw [c77b_e]
  simp (disch := omega) only [cq_gi, cq_gr, cq_a, cq_s, cq_p, cq_pr, cq_is, cq_ar, cq_ab, cq_ln, xq_nz, Option.bind_some, xup2_n, xup2_s, Int.toNat_natCast, Int.reduceToNat, if_pos, if_neg, true_and, and_true, and_self, eq_self, if_true, reduceIte, not_true_eq_false, not_false_eq_true, or_true, true_or, xs, w3, q1, q2, ec]
theorem st_77c (xs : S x = (1, 5, 4)) (w1 : G x 1 = (n : Int)) (q1 : xwr ((n : Int) - 1) = (e1 : Int)) : c77b f x (S, G, m) = some (S, xup2 G x 1 (e1 : Int), m) := by
  unfold c77b
  simp (disch := omega) only [cq_gi, cq_gr, cq_a, cq_s, cq_p, cq_pr, cq_is, cq_ar, cq_ab, cq_ln, xq_nz, Option.bind_some, xup2_n, xup2_s, Int.toNat_natCast, Int.reduceToNat, if_pos, if_neg, true_and, and_true, and_self, eq_self, if_true, reduceIte, not_true_eq_false, not_false_eq_true, or_true, true_or, xs, w1, q1]
theorem st_77n {v : Int} (xs : S x = (1, 5, 4)) (w1 : G x 1 = (n : Int)) (hv : v < 0 ∨ (n : Int) ≤ v) : c77 f x v (S, G, m) = some (S, G, m) := by
  unfold c77 c77_12
  by_cases c : v < 0
  · simp (disch := omega) only [cq_gi, cq_gr, cq_a, cq_s, cq_p, cq_pr, cq_is, cq_ar, cq_ab, cq_ln, xq_nz, Option.bind_some, xup2_n, xup2_s, Int.toNat_natCast, Int.reduceToNat, if_pos, if_neg, true_and, and_true, and_self, eq_self, if_true, reduceIte, not_true_eq_false, not_false_eq_true, or_true, true_or, c]
  · simp (disch := omega) only [cq_gi, cq_gr, cq_a, cq_s, cq_p, cq_pr, cq_is, cq_ar, cq_ab, cq_ln, xq_nz, Option.bind_some, xup2_n, xup2_s, Int.toNat_natCast, Int.reduceToNat, if_pos, if_neg, true_and, and_true, and_self, eq_self, if_true, reduceIte, not_true_eq_false, not_false_eq_true, or_true, true_or, xs, w1, c]
theorem mulw {A B : Nat} (hb : A * B < 2147483648) : xwr ((A : Int) * (B : Int)) = ((A * B : Nat) : Int) := by
  have e1 : (A : Int) * (B : Int) = ((A * B : Nat) : Int) := by rw [Int.natCast_mul]
  rw [e1]
  exact xwr_g _ (by omega) (by omega)
/-- only this Rows has changed -/
def xFx (x : Nat) (G G' : xG_) : Prop := ∀ b j, ¬ (b = x ∧ j = 1) → b ≠ x + 1 → b ≠ x + 2 → G' b j = G b j
/-- insert() -/
theorem k_76 (h : cRw S G x W cap R) (hp : p ≤ R.length) (hn : R.length < cap) (as : S a = (2, 4, kz)) (hkz : W ≤ kz) (hax : a ≠ x + 1) (hk : kl.length = W) (hK : ∀ c, c < W → G a c = kl.getD c 0) : ∃ G', c76 f x (p : Int) a rk (S, G, m) = some (S, G', m) ∧ xFx x G G' ∧ cRw S G' x W cap (R.take p ++ (kl, rk) :: R.drop p) := by
  obtain ⟨xs, ⟨z, cs, z1, z2⟩, ds, ⟨w0, w1, w2, w3⟩, hl, hcap, hW, hR⟩ := id h
  have ha2 : a ≠ x + 2 := fun q => by rw [q, ds] at as; injection as with _ as; injection as with as _; omega
  have ha0 : a ≠ x := fun q => by rw [q, xs] at as; injection as with as _; omega
  have m1 : R.length * W + W ≤ cap * W := by
    have := Nat.mul_le_mul_right W (by omega : R.length + 1 ≤ cap)
    rw [Nat.succ_mul] at this
    exact this
  have m2 : p * W ≤ R.length * W := Nat.mul_le_mul_right W hp
  have m3 : p * W + (R.length - p) * W = R.length * W := by rw [← Nat.add_mul]; congr 1; omega
  have m4 : (p + 1) * W = p * W + W := Nat.succ_mul _ _
  have q0 : xwr ((p : Int) + 1) = ((p + 1 : Nat) : Int) := by rw [xwr_g _ (by omega) (by omega)]; omega
  have q5 : xwr ((R.length : Int) - (p : Int)) = ((R.length - p : Nat) : Int) := by rw [xwr_g _ (by omega) (by omega)]; omega
  have q1 := mulw (A := p) (B := W) (by omega)
  have q2 : xwr ((xwr ((p : Int) + 1)) * (W : Int)) = (((p + 1) * W : Nat) : Int) := by rw [q0]; exact mulw (by omega)
  have q3 : xwr ((xwr ((R.length : Int) - (p : Int))) * (W : Int)) = (((R.length - p) * W : Nat) : Int) := by rw [q5]; exact mulw (by omega)
  have c1 := cp_ok (G := G) (m := m) (sp := p * W) (dp := (p + 1) * W) (n := (R.length - p) * W) cs cs (.inr rfl) (by omega) (by omega)
  obtain ⟨G1, hG1⟩ : ∃ G1, G1 = cpG G (x + 1) (p * W) (x + 1) ((p + 1) * W) ((R.length - p) * W) := ⟨_, rfl⟩
  rw [← hG1] at c1
  have f1 : ∀ b j, b ≠ x + 1 → G1 b j = G b j := fun b j hb => by rw [hG1]; exact cpG_n hb
  have e1 := st_76a (f := f) (a := a) (rk := rk) xs ds hcap w0 w1 w2 w3 hp hn q1 q2 q3 c1
  have c2 := cp_ok (G := G1) (m := m) (sp := p) (dp := p + 1) (n := R.length - p) ds ds (.inl rfl) (by omega) (by omega)
  obtain ⟨G2, hG2⟩ : ∃ G2, G2 = cpG G1 (x + 2) p (x + 2) (p + 1) (R.length - p) := ⟨_, rfl⟩
  rw [← hG2] at c2
  have f2 : ∀ b j, b ≠ x + 2 → G2 b j = G1 b j := fun b j hb => by rw [hG2]; exact cpG_n hb
  have e2 := st_76b (f := f) (a := a) (rk := rk) xs (by rw [f1 _ _ (by omega)]; exact w1) (by rw [f1 _ _ (by omega)]; exact w3) q0 q5 c2
  have c3 := cp_ok (G := G2) (m := m) (sp := 0) (dp := p * W) (n := W) as cs (.inr rfl) (by omega) (by omega)
  obtain ⟨G3, hG3⟩ : ∃ G3, G3 = cpG G2 a 0 (x + 1) (p * W) W := ⟨_, rfl⟩
  rw [← hG3] at c3
  have f3 : ∀ b j, b ≠ x + 1 → G3 b j = G2 b j := fun b j hb => by rw [hG3]; exact cpG_n hb
  have e3 := st_76c (f := f) (a := a) (rk := rk) xs (by rw [f2 _ _ (by omega), f1 _ _ (by omega)]; exact w0) (by rw [f2 _ _ (by omega), f1 _ _ (by omega)]; exact w2) q1 c3
  have qn : xwr ((R.length : Int) + 1) = ((R.length + 1 : Nat) : Int) := by rw [xwr_g _ (by omega) (by omega)]; omega
  have g3 : ∀ j, G3 x j = G x j := fun j => by rw [f3 _ _ (by omega), f2 _ _ (by omega), f1 _ _ (by omega)]
  have e4 := st_76d (f := f) (G := G3) (p := p) (rk := rk) (m := m) xs ds (by rw [g3]; exact w1) (by rw [g3]; exact w3) (by omega) qn
  have z4 : ∀ b j, ¬ (b = x ∧ j = 1) → ¬ (b = x + 2 ∧ j = p) → xup2 (xup2 G3 (x + 2) p rk) x 1 ((R.length + 1 : Nat) : Int) b j = G3 b j := fun b j y1 y2 => by rw [xup2_n y1, xup2_n y2]
  refine ⟨_, e1.trans (e2.trans (e3.trans e4)), fun b j y1 y2 y3 => by rw [z4 b j y1 (by omega), f3 b j y2, f2 b j y3, f1 b j y2], xs, ⟨z, cs, z1, z2⟩, ds, ⟨by rw [z4 _ _ (by omega) (by omega), g3]; exact w0, by rw [xup2_s, len_i9 hp], by rw [z4 _ _ (by omega) (by omega), g3]; exact w2, by rw [z4 _ _ (by omega) (by omega), g3]; exact w3⟩, by rw [len_i9 hp]; omega, hcap, hW, fun i hi => ?_⟩
  rw [len_i9 hp] at hi
  rw [getD_i9 hp]
  have rowz : ∀ c, c < W → xup2 (xup2 G3 (x + 2) p rk) x 1 ((R.length + 1 : Nat) : Int) (x + 1) (i * W + c) = G3 (x + 1) (i * W + c) := fun c hc => z4 _ _ (by omega) (by omega)
  by_cases ca : i < p
  · rw [if_pos ca]
    obtain ⟨r1, r2, r3⟩ := hR i (by omega)
    have b1 : i * W + W ≤ p * W := by
      have := Nat.mul_le_mul_right W (by omega : i + 1 ≤ p)
      rw [Nat.succ_mul] at this
      exact this
    refine ⟨r1, fun c hc => ?_, ?_⟩
    · rw [rowz c hc, hG3, cpG_o (by omega), f2 _ _ (by omega), hG1, cpG_o (by omega)]
      exact r2 c hc
    · rw [z4 _ _ (by omega) (by omega), f3 _ _ (by omega), hG2, cpG_o (by omega), f1 _ _ (by omega)]
      exact r3
  · rw [if_neg ca]
    by_cases cb : i = p
    · rw [if_pos cb]
      subst cb
      refine ⟨hk, fun c hc => ?_, ?_⟩
      · rw [rowz c hc, hG3, cpG_i (by omega) (by omega), f2 _ _ ha2, f1 _ _ hax, show 0 + (i * W + c - i * W) = c by omega]
        exact hK c hc
      · rw [xup2_n (by omega), xup2_s]
    · rw [if_neg cb]
      obtain ⟨t, rfl⟩ : ∃ t, i = t + 1 := ⟨i - 1, by omega⟩
      rw [Nat.add_sub_cancel]
      obtain ⟨r1, r2, r3⟩ := hR t (by omega)
      have b1 : p * W ≤ t * W := Nat.mul_le_mul_right W (by omega)
      have b2 : t * W + W ≤ R.length * W := by
        have := Nat.mul_le_mul_right W (by omega : t + 1 ≤ R.length)
        rw [Nat.succ_mul] at this
        exact this
      refine ⟨r1, fun c hc => ?_, ?_⟩
      · rw [rowz c hc, Nat.succ_mul, hG3, cpG_o (by omega), f2 _ _ (by omega), hG1, cpG_i (by omega) (by omega), show p * W + (t * W + W + c - (p + 1) * W) = t * W + c by omega]
        exact r2 c hc
      · rw [z4 _ _ (by omega) (by omega), f3 _ _ (by omega), hG2, cpG_i (by omega) (by omega), f1 _ _ (by omega), show p + (t + 1 - (p + 1)) = t by omega]
        exact r3
/-- remove() -/
theorem k_77 (h : cRw S G x W cap R) (hp : p < R.length) : ∃ G', c77 f x (p : Int) (S, G, m) = some (S, G', m) ∧ xFx x G G' ∧ cRw S G' x W cap (R.take p ++ R.drop (p + 1)) := by
  obtain ⟨xs, ⟨z, cs, z1, z2⟩, ds, ⟨w0, w1, w2, w3⟩, hl, hcap, hW, hR⟩ := id h
  have m1 : R.length * W ≤ cap * W := Nat.mul_le_mul_right W hl
  have m3 : (p + 1) * W + (R.length - p - 1) * W = R.length * W := by rw [← Nat.add_mul]; congr 1; omega
  have m4 : (p + 1) * W = p * W + W := Nat.succ_mul _ _
  have q0 : xwr ((p : Int) + 1) = ((p + 1 : Nat) : Int) := by rw [xwr_g _ (by omega) (by omega)]; omega
  have q5 : xwr ((xwr ((R.length : Int) - (p : Int))) - 1) = ((R.length - p - 1 : Nat) : Int) := by rw [xwr_g ((R.length : Int) - (p : Int)) (by omega) (by omega), xwr_g _ (by omega) (by omega)]; omega
  have q1 : xwr ((xwr ((p : Int) + 1)) * (W : Int)) = (((p + 1) * W : Nat) : Int) := by rw [q0]; exact mulw (by omega)
  have q2 := mulw (A := p) (B := W) (by omega)
  have q3 : xwr ((xwr ((xwr ((R.length : Int) - (p : Int))) - 1)) * (W : Int)) = (((R.length - p - 1) * W : Nat) : Int) := by rw [q5]; exact mulw (by omega)
  have c1 := cp_ok (G := G) (m := m) (sp := (p + 1) * W) (dp := p * W) (n := (R.length - p - 1) * W) cs cs (.inr rfl) (by omega) (by omega)
  obtain ⟨G1, hG1⟩ : ∃ G1, G1 = cpG G (x + 1) ((p + 1) * W) (x + 1) (p * W) ((R.length - p - 1) * W) := ⟨_, rfl⟩
  rw [← hG1] at c1
  have f1 : ∀ b j, b ≠ x + 1 → G1 b j = G b j := fun b j hb => by rw [hG1]; exact cpG_n hb
  have e1 := st_77a (f := f) xs w0 w1 w2 hp q1 q2 q3 c1
  have c2 := cp_ok (G := G1) (m := m) (sp := p + 1) (dp := p) (n := R.length - p - 1) ds ds (.inl rfl) (by omega) (by omega)
  obtain ⟨G2, hG2⟩ : ∃ G2, G2 = cpG G1 (x + 2) (p + 1) (x + 2) p (R.length - p - 1) := ⟨_, rfl⟩
  rw [← hG2] at c2
  have f2 : ∀ b j, b ≠ x + 2 → G2 b j = G1 b j := fun b j hb => by rw [hG2]; exact cpG_n hb
  have g2 : ∀ j, G2 x j = G x j := fun j => by rw [f2 _ _ (by omega), f1 _ _ (by omega)]
  have e2 := st_77b (f := f) (n := R.length) xs (by rw [f1 _ _ (by omega)]; exact w3) q0 q5 c2
  have qn : xwr ((R.length : Int) - 1) = ((R.length - 1 : Nat) : Int) := by rw [xwr_g _ (by omega) (by omega)]; omega
  have e3 := st_77c (f := f) (G := G2) (m := m) xs (by rw [g2]; exact w1) qn
  have z4 : ∀ b j, ¬ (b = x ∧ j = 1) → xup2 G2 x 1 ((R.length - 1 : Nat) : Int) b j = G2 b j := fun b j y1 => xup2_n y1
  refine ⟨_, e1.trans (e2.trans e3), fun b j y1 y2 y3 => by rw [z4 b j y1, f2 b j y3, f1 b j y2], xs, ⟨z, cs, z1, z2⟩, ds, ⟨by rw [z4 _ _ (by omega), g2]; exact w0, by rw [xup2_s, len_rem hp], by rw [z4 _ _ (by omega), g2]; exact w2, by rw [z4 _ _ (by omega), g2]; exact w3⟩, by rw [len_rem hp]; omega, hcap, hW, fun i hi => ?_⟩
  rw [len_rem hp] at hi
  rw [getD_rem hp]
  by_cases ca : i < p
  · rw [if_pos ca]
    obtain ⟨r1, r2, r3⟩ := hR i (by omega)
    have b1 : i * W + W ≤ p * W := by
      have := Nat.mul_le_mul_right W (by omega : i + 1 ≤ p)
      rw [Nat.succ_mul] at this
      exact this
    refine ⟨r1, fun c hc => ?_, ?_⟩
    · rw [z4 _ _ (by omega), f2 _ _ (by omega), hG1, cpG_o (by omega)]
      exact r2 c hc
    · rw [z4 _ _ (by omega), hG2, cpG_o (by omega), f1 _ _ (by omega)]
      exact r3
  · rw [if_neg ca]
    obtain ⟨r1, r2, r3⟩ := hR (i + 1) (by omega)
    have b1 : p * W ≤ i * W := Nat.mul_le_mul_right W (by omega)
    have b2 : i * W + W + W ≤ R.length * W := by
      have := Nat.mul_le_mul_right W (by omega : i + 1 + 1 ≤ R.length)
      rw [Nat.succ_mul, Nat.succ_mul] at this
      exact this
    refine ⟨r1, fun c hc => ?_, ?_⟩
    · rw [z4 _ _ (by omega), f2 _ _ (by omega), hG1, cpG_i (by omega) (by omega), show (p + 1) * W + (i * W + c - p * W) = (i + 1) * W + c by rw [Nat.succ_mul i]; omega]
      exact r2 c hc
    · rw [z4 _ _ (by omega), hG2, cpG_i (by omega) (by omega), f1 _ _ (by omega), show p + 1 + (i - p) = i + 1 by omega]
      exact r3
end
