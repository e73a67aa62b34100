section
/-! THE CLASS: rows: insert(), remove() -/
theorem getD_i9 {R : List pRw} {r : pRw} {p i : Nat} (hp : p ≤ R.length) : (R.take p ++ r :: R.drop p).getD i dRw = if i < p then R.getD i dRw else if i = p then r else R.getD (i - 1) dRw := by
  have hl : (R.take p).length = p := by rw [List.length_take]; omega
  rw [List.getD_eq_getElem?_getD, List.getElem?_append, hl]
  by_cases c : i < p
  · rw [if_pos c, if_pos c, List.getElem?_take, if_pos c, ← List.getD_eq_getElem?_getD]
  · rw [if_neg c, if_neg c]
    by_cases d : i = p
    · rw [if_pos d, d, Nat.sub_self]
      rfl
    · rw [if_neg d]
      obtain ⟨t, ht⟩ : ∃ t, i - p = t + 1 := ⟨i - p - 1, by omega⟩
      rw [ht, List.getElem?_cons_succ, List.getElem?_drop, ← List.getD_eq_getElem?_getD]
      congr 1
      omega
theorem len_i9 {R : List pRw} {r : pRw} {p : Nat} (hp : p ≤ R.length) : (R.take p ++ r :: R.drop p).length = R.length + 1 := by
  rw [List.length_append, List.length_take, List.length_cons, List.length_drop]
  omega
theorem getD_rem {R : List pRw} {p i : Nat} (hp : p < R.length) : (R.take p ++ R.drop (p + 1)).getD i dRw = if i < p then R.getD i dRw else R.getD (i + 1) dRw := by
  have hl : (R.take p).length = p := by rw [List.length_take]; omega
  rw [List.getD_eq_getElem?_getD, List.getElem?_append, hl]
  by_cases c : i < p
  · rw [if_pos c, if_pos c, List.getElem?_take, if_pos c, ← List.getD_eq_getElem?_getD]
  · rw [if_neg c, if_neg c, List.getElem?_drop, ← List.getD_eq_getElem?_getD]
    congr 1
    omega
theorem len_rem {R : List pRw} {p : Nat} (hp : p < R.length) : (R.take p ++ R.drop (p + 1)).length = R.length - 1 := by
  rw [List.length_append, List.length_take, List.length_drop]
  omega
def c76a (f : Nat) (a0 : Nat) (a1 : Int) (a2 : Nat) (a3 : Int) (T125 : xT_) : Option (xT_) := ((cq_gr 5 3 4 (a0) T125).bind fun v129 => ((cq_gr 5 3 4 (a0) T125).bind fun v131 => ((cq_gi 5 1 4 (a0) T125).bind fun v133 => ((cq_cp (v129) (a1) (v131) (xwr ((a1) + (1))) (xwr ((v133) - (a1))) T125).bind fun T136 => ((cq_gr 5 2 4 (a0) T136).bind fun v140 => ((cq_gi 5 0 4 (a0) T136).bind fun v142 => ((cq_gi 5 0 4 (a0) T136).bind fun v144 => ((cq_cp (a2) (0) (v140) (xwr ((a1) * (v142))) (v144) T136).bind fun T147 => ((cq_gr 5 3 4 (a0) T147).bind fun v151 => ((cq_s 3 (v151) (a1) (a3) T147).bind fun T154 => ((cq_gi 5 1 4 (a0) T154).bind fun v158 => ((cq_p 5 1 4 (a0) (xwr ((v158) + (1))) T154).bind fun T161 => (some T161)))))))))))))
theorem c76a_e (f : Nat) (a0 : Nat) (a1 : Int) (a2 : Nat) (a3 : Int) (T : xT_) : c76 f a0 a1 a2 a3 T = ((cq_gi 5 1 4 (a0) T).bind fun v101 => ((cq_gr 5 3 4 (a0) T).bind fun v103 => ((cq_ln (v103) T).bind fun v105 => (if (v105) ≤ (v101) then c76_24  f  T else (if (a1) < 0 then c76_24  f  T else ((cq_gi 5 1 4 (a0) T).bind fun v109 => (if (a1) ≤ (v109) then ((cq_gr 5 2 4 (a0) T).bind fun v112 => ((cq_gi 5 0 4 (a0) T).bind fun v114 => ((cq_gr 5 2 4 (a0) T).bind fun v116 => ((cq_gi 5 0 4 (a0) T).bind fun v118 => ((cq_gi 5 1 4 (a0) T).bind fun v120 => ((cq_gi 5 0 4 (a0) T).bind fun v122 => ((cq_cp (v112) (xwr ((a1) * (v114))) (v116) (xwr ((xwr ((a1) + (1))) * (v118))) (xwr ((xwr ((v120) - (a1))) * (v122))) T).bind fun T125 => c76a f a0 a1 a2 a3 T125))))))) else c76_24  f  T))))))) := rfl
def c76b (f : Nat) (a0 : Nat) (a1 : Int) (a2 : Nat) (a3 : Int) (T136 : xT_) : Option (xT_) := ((cq_gr 5 2 4 (a0) T136).bind fun v140 => ((cq_gi 5 0 4 (a0) T136).bind fun v142 => ((cq_gi 5 0 4 (a0) T136).bind fun v144 => ((cq_cp (a2) (0) (v140) (xwr ((a1) * (v142))) (v144) T136).bind fun T147 => ((cq_gr 5 3 4 (a0) T147).bind fun v151 => ((cq_s 3 (v151) (a1) (a3) T147).bind fun T154 => ((cq_gi 5 1 4 (a0) T154).bind fun v158 => ((cq_p 5 1 4 (a0) (xwr ((v158) + (1))) T154).bind fun T161 => (some T161)))))))))
theorem c76b_e (f : Nat) (a0 : Nat) (a1 : Int) (a2 : Nat) (a3 : Int) (T125 : xT_) : c76a f a0 a1 a2 a3 T125 = ((cq_gr 5 3 4 (a0) T125).bind fun v129 => ((cq_gr 5 3 4 (a0) T125).bind fun v131 => ((cq_gi 5 1 4 (a0) T125).bind fun v133 => ((cq_cp (v129) (a1) (v131) (xwr ((a1) + (1))) (xwr ((v133) - (a1))) T125).bind fun T136 => c76b f a0 a1 a2 a3 T136)))) := rfl
def c76c (f : Nat) (a0 : Nat) (a1 : Int) (a3 : Int) (T147 : xT_) : Option (xT_) := ((cq_gr 5 3 4 (a0) T147).bind fun v151 => ((cq_s 3 (v151) (a1) (a3) T147).bind fun T154 => ((cq_gi 5 1 4 (a0) T154).bind fun v158 => ((cq_p 5 1 4 (a0) (xwr ((v158) + (1))) T154).bind fun T161 => (some T161)))))
theorem c76c_e (f : Nat) (a0 : Nat) (a1 : Int) (a2 : Nat) (a3 : Int) (T136 : xT_) : c76b f a0 a1 a2 a3 T136 = ((cq_gr 5 2 4 (a0) T136).bind fun v140 => ((cq_gi 5 0 4 (a0) T136).bind fun v142 => ((cq_gi 5 0 4 (a0) T136).bind fun v144 => ((cq_cp (a2) (0) (v140) (xwr ((a1) * (v142))) (v144) T136).bind fun T147 => c76c f a0 a1 a3 T147)))) := rfl
def c77a (f : Nat) (a0 : Nat) (a1 : Int) (v105 : Int) (T118 : xT_) : Option (xT_) := ((cq_gr 5 3 4 (a0) T118).bind fun v122 => ((cq_gr 5 3 4 (a0) T118).bind fun v124 => ((cq_cp (v122) (xwr ((a1) + (1))) (v124) (a1) (xwr ((xwr ((v105) - (a1))) - (1))) T118).bind fun T127 => ((cq_gi 5 1 4 (a0) T127).bind fun v131 => ((cq_p 5 1 4 (a0) (xwr ((v131) - (1))) T127).bind fun T134 => (some T134))))))
theorem c77a_e (f : Nat) (a0 : Nat) (a1 : Int) (T : xT_) : c77 f a0 a1 T = (if (a1) < 0 then c77_12  f  T else ((cq_gi 5 1 4 (a0) T).bind fun v102 => (if (a1) < (v102) then ((cq_gi 5 1 4 (a0) T).bind fun v105 => ((cq_gr 5 2 4 (a0) T).bind fun v107 => ((cq_gi 5 0 4 (a0) T).bind fun v109 => ((cq_gr 5 2 4 (a0) T).bind fun v111 => ((cq_gi 5 0 4 (a0) T).bind fun v113 => ((cq_gi 5 0 4 (a0) T).bind fun v115 => ((cq_cp (v107) (xwr ((xwr ((a1) + (1))) * (v109))) (v111) (xwr ((a1) * (v113))) (xwr ((xwr ((xwr ((v105) - (a1))) - (1))) * (v115))) T).bind fun T118 => c77a f a0 a1 v105 T118))))))) else c77_12  f  T))) := rfl
def c77b (f : Nat) (a0 : Nat) (T127 : xT_) : Option (xT_) := ((cq_gi 5 1 4 (a0) T127).bind fun v131 => ((cq_p 5 1 4 (a0) (xwr ((v131) - (1))) T127).bind fun T134 => (some T134)))
theorem c77b_e (f : Nat) (a0 : Nat) (a1 : Int) (v105 : Int) (T118 : xT_) : c77a f a0 a1 v105 T118 = ((cq_gr 5 3 4 (a0) T118).bind fun v122 => ((cq_gr 5 3 4 (a0) T118).bind fun v124 => ((cq_cp (v122) (xwr ((a1) + (1))) (v124) (a1) (xwr ((xwr ((v105) - (a1))) - (1))) T118).bind fun T127 => c77b f a0 T127))) := rfl
section
variable {f x W cap p n a kz z e1 e2 e3 : Nat} {S : Nat → Nat × Nat × Nat} {G G1 : xG_} {m : Nat × Nat} {R : List pRw} {kl : List Int} {rk : Int} {T : xT_}
theorem st_76a (xs : S x = (1, 5, 4)) (ds : S (x + 2) = (2, 3, cap)) (hcap : cap ≤ 512) (w0 : G x 0 = (W : Int)) (w1 : G x 1 = (n : Int)) (w2 : G x 2 = ((x + 1 : Nat) : Int)) (w3 : G x 3 = ((x + 2 : Nat) : Int)) (hp : p ≤ n) (hn : n < cap) (q1 : xwr ((p : Int) * (W : Int)) = (e1 : Int)) (q2 : xwr ((xwr ((p : Int) + 1)) * (W : Int)) = (e2 : Int)) (q3 : xwr ((xwr ((n : Int) - (p : Int))) * (W : Int)) = (e3 : Int)) (ec : cq_cp (x + 1) (e1 : Int) (x + 1) (e2 : Int) (e3 : Int) (S, G, m) = some T) : c76 f x (p : Int) a rk (S, G, m) = c76a f x (p : Int) a rk T := by
  rw [c76a_e]
  simp (disch := omega) only [cq_gi, cq_gr, cq_a, cq_s, cq_p, cq_pr, cq_is, cq_ar, cq_ab, cq_ln, xq_nz, Option.bind_some, xup2_n, xup2_s, Int.toNat_natCast, Int.reduceToNat, if_pos, if_neg, true_and, and_true, and_self, eq_self, if_true, reduceIte, not_true_eq_false, not_false_eq_true, or_true, true_or, xs, ds, w0, w1, w2, w3, q1, q2, q3, ec]
theorem st_76b (xs : S x = (1, 5, 4)) (w1 : G x 1 = (n : Int)) (w3 : G x 3 = ((x + 2 : Nat) : Int)) (q1 : xwr ((p : Int) + 1) = (e1 : Int)) (q2 : xwr ((n : Int) - (p : Int)) = (e2 : Int)) (ec : cq_cp (x + 2) (p : Int) (x + 2) (e1 : Int) (e2 : Int) (S, G, m) = some T) : c76a f x (p : Int) a rk (S, G, m) = c76b f x (p : Int) a rk T := by
  rw [c76b_e]
  simp (disch := omega) only [cq_gi, cq_gr, cq_a, cq_s, cq_p, cq_pr, cq_is, cq_ar, cq_ab, cq_ln, xq_nz, Option.bind_some, xup2_n, xup2_s, Int.toNat_natCast, Int.reduceToNat, if_pos, if_neg, true_and, and_true, and_self, eq_self, if_true, reduceIte, not_true_eq_false, not_false_eq_true, or_true, true_or, xs, w1, w3, q1, q2, ec]
theorem st_76c (xs : S x = (1, 5, 4)) (w0 : G x 0 = (W : Int)) (w2 : G x 2 = ((x + 1 : Nat) : Int)) (q1 : xwr ((p : Int) * (W : Int)) = (e1 : Int)) (ec : cq_cp a 0 (x + 1) (e1 : Int) (W : Int) (S, G, m) = some T) : c76b f x (p : Int) a rk (S, G, m) = c76c f x (p : Int) rk T := by
  rw [c76c_e]
  simp (disch := omega) only [cq_gi, cq_gr, cq_a, cq_s, cq_p, cq_pr, cq_is, cq_ar, cq_ab, cq_ln, xq_nz, Option.bind_some, xup2_n, xup2_s, Int.toNat_natCast, Int.reduceToNat, if_pos, if_neg, true_and, and_true, and_self, eq_self, if_true, reduceIte, not_true_eq_false, not_false_eq_true, or_true, true_or, xs, w0, w2, q1, ec]
theorem st_76d (xs : S x = (1, 5, 4)) (ds : S (x + 2) = (2, 3, cap)) (w1 : G x 1 = (n : Int)) (w3 : G x 3 = ((x + 2 : Nat) : Int)) (hp : p < cap) (q1 : xwr ((n : Int) + 1) = ((n + 1 : Nat) : Int)) : c76c f x (p : Int) rk (S, G, m) = some (S, xup2 (xup2 G (x + 2) p rk) x 1 ((n + 1 : Nat) : Int), m) := by
  unfold c76c
  simp (disch := omega) only [cq_gi, cq_gr, cq_a, cq_s, cq_p, cq_pr, cq_is, cq_ar, cq_ab, cq_ln, xq_nz, Option.bind_some, xup2_n, xup2_s, Int.toNat_natCast, Int.reduceToNat, if_pos, if_neg, true_and, and_true, and_self, eq_self, if_true, reduceIte, not_true_eq_false, not_false_eq_true, or_true, true_or, xs, ds, w1, w3, q1]
theorem st_77a (xs : S x = (1, 5, 4)) (w0 : G x 0 = (W : Int)) (w1 : G x 1 = (n : Int)) (w2 : G x 2 = ((x + 1 : Nat) : Int)) (hp : p < n) (q1 : xwr ((xwr ((p : Int) + 1)) * (W : Int)) = (e1 : Int)) (q2 : xwr ((p : Int) * (W : Int)) = (e2 : Int)) (q3 : xwr ((xwr ((xwr ((n : Int) - (p : Int))) - 1)) * (W : Int)) = (e3 : Int)) (ec : cq_cp (x + 1) (e1 : Int) (x + 1) (e2 : Int) (e3 : Int) (S, G, m) = some T) : c77 f x (p : Int) (S, G, m) = c77a f x (p : Int) (n : Int) T := by
  rw [c77a_e]
  simp (disch := omega) only [cq_gi, cq_gr, cq_a, cq_s, cq_p, cq_pr, cq_is, cq_ar, cq_ab, cq_ln, xq_nz, Option.bind_some, xup2_n, xup2_s, Int.toNat_natCast, Int.reduceToNat, if_pos, if_neg, true_and, and_true, and_self, eq_self, if_true, reduceIte, not_true_eq_false, not_false_eq_true, or_true, true_or, xs, w0, w1, w2, q1, q2, q3, ec]
theorem st_77b (xs : S x = (1, 5, 4)) (w3 : G x 3 = ((x + 2 : Nat) : Int)) (q1 : xwr ((p : Int) + 1) = (e1 : Int)) (q2 : xwr ((xwr ((n : Int) - (p : Int))) - 1) = (e2 : Int)) (ec : cq_cp (x + 2) (e1 : Int) (x + 2) (p : Int) (e2 : Int) (S, G, m) = some T) : c77a f x (p : Int) (n : Int) (S, G, m) = c77b f x T := by
  rw [c77b_e]
  simp (disch := omega) only [cq_gi, cq_gr, cq_a, cq_s, cq_p, cq_pr, cq_is, cq_ar, cq_ab, cq_ln, xq_nz, Option.bind_some, xup2_n, xup2_s, Int.toNat_natCast, Int.reduceToNat, if_pos, if_neg, true_and, and_true, and_self, eq_self, if_true, reduceIte, not_true_eq_false, not_false_eq_true, or_true, true_or, xs, w3, q1, q2, ec]
theorem st_77c (xs : S x = (1, 5, 4)) (w1 : G x 1 = (n : Int)) (q1 : xwr ((n : Int) - 1) = (e1 : Int)) : c77b f x (S, G, m) = some (S, xup2 G x 1 (e1 : Int), m) := by
  unfold c77b
  simp (disch := omega) only [cq_gi, cq_gr, cq_a, cq_s, cq_p, cq_pr, cq_is, cq_ar, cq_ab, cq_ln, xq_nz, Option.bind_some, xup2_n, xup2_s, Int.toNat_natCast, Int.reduceToNat, if_pos, if_neg, true_and, and_true, and_self, eq_self, if_true, reduceIte, not_true_eq_false, not_false_eq_true, or_true, true_or, xs, w1, q1]
theorem st_77n {v : Int} (xs : S x = (1, 5, 4)) (w1 : G x 1 = (n : Int)) (hv : v < 0 ∨ (n : Int) ≤ v) : c77 f x v (S, G, m) = some (S, G, m) := by
  unfold c77 c77_12
  by_cases c : v < 0
  · simp (disch := omega) only [cq_gi, cq_gr, cq_a, cq_s, cq_p, cq_pr, cq_is, cq_ar, cq_ab, cq_ln, xq_nz, Option.bind_some, xup2_n, xup2_s, Int.toNat_natCast, Int.reduceToNat, if_pos, if_neg, true_and, and_true, and_self, eq_self, if_true, reduceIte, not_true_eq_false, not_false_eq_true, or_true, true_or, c]
  · simp (disch := omega) only [cq_gi, cq_gr, cq_a, cq_s, cq_p, cq_pr, cq_is, cq_ar, cq_ab, cq_ln, xq_nz, Option.bind_some, xup2_n, xup2_s, Int.toNat_natCast, Int.reduceToNat, if_pos, if_neg, true_and, and_true, and_self, eq_self, if_true, reduceIte, not_true_eq_false, not_false_eq_true, or_true, true_or, xs, w1, c]
theorem mulw {A B : Nat} (hb : A * B < 2147483648) : xwr ((A : Int) * (B : Int)) = ((A * B : Nat) : Int) := by
  have e1 : (A : Int) * (B : Int) = ((A * B : Nat) : Int) := by rw [Int.natCast_mul]
  rw [e1]
  exact xwr_g _ (by omega) (by omega)
/-- only this Rows has changed -/
def xFx (x : Nat) (G G' : xG_) : Prop := ∀ b j, ¬ (b = x ∧ j = 1) → b ≠ x + 1 → b ≠ x + 2 → G' b j = G b j
/-- insert() -/
theorem k_76 (h : cRw S G x W cap R) (hp : p ≤ R.length) (hn : R.length < cap) (as : S a = (2, 4, kz)) (hkz : W ≤ kz) (hax : a ≠ x + 1) (hk : kl.length = W) (hK : ∀ c, c < W → G a c = kl.getD c 0) : ∃ G', c76 f x (p : Int) a rk (S, G, m) = some (S, G', m) ∧ xFx x G G' ∧ cRw S G' x W cap (R.take p ++ (kl, rk) :: R.drop p) := by
  obtain ⟨xs, ⟨z, cs, z1, z2⟩, ds, ⟨w0, w1, w2, w3⟩, hl, hcap, hW, hR⟩ := id h
  have ha2 : a ≠ x + 2 := fun q => by rw [q, ds] at as; injection as with _ as; injection as with as _; omega
  have ha0 : a ≠ x := fun q => by rw [q, xs] at as; injection as with as _; omega
  have m1 : R.length * W + W ≤ cap * W := by
    have := Nat.mul_le_mul_right W (by omega : R.length + 1 ≤ cap)
    rw [Nat.succ_mul] at this
    exact this
  have m2 : p * W ≤ R.length * W := Nat.mul_le_mul_right W hp
  have m3 : p * W + (R.length - p) * W = R.length * W := by rw [← Nat.add_mul]; congr 1; omega
  have m4 : (p + 1) * W = p * W + W := Nat.succ_mul _ _
  have q0 : xwr ((p : Int) + 1) = ((p + 1 : Nat) : Int) := by rw [xwr_g _ (by omega) (by omega)]; omega
  have q5 : xwr ((R.length : Int) - (p : Int)) = ((R.length - p : Nat) : Int) := by rw [xwr_g _ (by omega) (by omega)]; omega
  have q1 := mulw (A := p) (B := W) (by omega)
  have q2 : xwr ((xwr ((p : Int) + 1)) * (W : Int)) = (((p + 1) * W : Nat) : Int) := by rw [q0]; exact mulw (by omega)
  have q3 : xwr ((xwr ((R.length : Int) - (p : Int))) * (W : Int)) = (((R.length - p) * W : Nat) : Int) := by rw [q5]; exact mulw (by omega)
  have c1 := cp_ok (G := G) (m := m) (sp := p * W) (dp := (p + 1) * W) (n := (R.length - p) * W) cs cs (.inr rfl) (by omega) (by omega)
  obtain ⟨G1, hG1⟩ : ∃ G1, G1 = cpG G (x + 1) (p * W) (x + 1) ((p + 1) * W) ((R.length - p) * W) := ⟨_, rfl⟩
  rw [← hG1] at c1
  have f1 : ∀ b j, b ≠ x + 1 → G1 b j = G b j := fun b j hb => by rw [hG1]; exact cpG_n hb
  have e1 := st_76a (f := f) (a := a) (rk := rk) xs ds hcap w0 w1 w2 w3 hp hn q1 q2 q3 c1
  have c2 := cp_ok (G := G1) (m := m) (sp := p) (dp := p + 1) (n := R.length - p) ds ds (.inl rfl) (by omega) (by omega)
  obtain ⟨G2, hG2⟩ : ∃ G2, G2 = cpG G1 (x + 2) p (x + 2) (p + 1) (R.length - p) := ⟨_, rfl⟩
  rw [← hG2] at c2
  have f2 : ∀ b j, b ≠ x + 2 → G2 b j = G1 b j := fun b j hb => by rw [hG2]; exact cpG_n hb
  have e2 := st_76b (f := f) (a := a) (rk := rk) xs (by rw [f1 _ _ (by omega)]; exact w1) (by rw [f1 _ _ (by omega)]; exact w3) q0 q5 c2
  have c3 := cp_ok (G := G2) (m := m) (sp := 0) (dp := p * W) (n := W) as cs (.inr rfl) (by omega) (by omega)
  obtain ⟨G3, hG3⟩ : ∃ G3, G3 = cpG G2 a 0 (x + 1) (p * W) W := ⟨_, rfl⟩
  rw [← hG3] at c3
  have f3 : ∀ b j, b ≠ x + 1 → G3 b j = G2 b j := fun b j hb => by rw [hG3]; exact cpG_n hb
  have e3 := st_76c (f := f) (a := a) (rk := rk) xs (by rw [f2 _ _ (by omega), f1 _ _ (by omega)]; exact w0) (by rw [f2 _ _ (by omega), f1 _ _ (by omega)]; exact w2) q1 c3
  have qn : xwr ((R.length : Int) + 1) = ((R.length + 1 : Nat) : Int) := by rw [xwr_g _ (by omega) (by omega)]; omega
  have g3 : ∀ j, G3 x j = G x j := fun j => by rw [f3 _ _ (by omega), f2 _ _ (by omega), f1 _ _ (by omega)]
  have e4 := st_76d (f := f) (G := G3) (p := p) (rk := rk) (m := m) xs ds (by rw [g3]; exact w1) (by rw [g3]; exact w3) (by omega) qn
  have z4 : ∀ b j, ¬ (b = x ∧ j = 1) → ¬ (b = x + 2 ∧ j = p) → xup2 (xup2 G3 (x + 2) p rk) x 1 ((R.length + 1 : Nat) : Int) b j = G3 b j := fun b j y1 y2 => by rw [xup2_n y1, xup2_n y2]
  refine ⟨_, e1.trans (e2.trans (e3.trans e4)), fun b j y1 y2 y3 => by rw [z4 b j y1 (by omega), f3 b j y2, f2 b j y3, f1 b j y2], xs, ⟨z, cs, z1, z2⟩, ds, ⟨by rw [z4 _ _ (by omega) (by omega), g3]; exact w0, by rw [xup2_s, len_i9 hp], by rw [z4 _ _ (by omega) (by omega), g3]; exact w2, by rw [z4 _ _ (by omega) (by omega), g3]; exact w3⟩, by rw [len_i9 hp]; omega, hcap, hW, fun i hi => ?_⟩
  rw [len_i9 hp] at hi
  rw [getD_i9 hp]
  have rowz : ∀ c, c < W → xup2 (xup2 G3 (x + 2) p rk) x 1 ((R.length + 1 : Nat) : Int) (x + 1) (i * W + c) = G3 (x + 1) (i * W + c) := fun c hc => z4 _ _ (by omega) (by omega)
  by_cases ca : i < p
  · rw [if_pos ca]
    obtain ⟨r1, r2, r3⟩ := hR i (by omega)
    have b1 : i * W + W ≤ p * W := by
      have := Nat.mul_le_mul_right W (by omega : i + 1 ≤ p)
      rw [Nat.succ_mul] at this
      exact this
    refine ⟨r1, fun c hc => ?_, ?_⟩
    · rw [rowz c hc, hG3, cpG_o (by omega), f2 _ _ (by omega), hG1, cpG_o (by omega)]
      exact r2 c hc
    · rw [z4 _ _ (by omega) (by omega), f3 _ _ (by omega), hG2, cpG_o (by omega), f1 _ _ (by omega)]
      exact r3
  · rw [if_neg ca]
    by_cases cb : i = p
    · rw [if_pos cb]
      subst cb
      refine ⟨hk, fun c hc => ?_, ?_⟩
      · rw [rowz c hc, hG3, cpG_i (by omega) (by omega), f2 _ _ ha2, f1 _ _ hax, show 0 + (i * W + c - i * W) = c by omega]
        exact hK c hc
      · rw [xup2_n (by omega), xup2_s]
    · rw [if_neg cb]
      obtain ⟨t, rfl⟩ : ∃ t, i = t + 1 := ⟨i - 1, by omega⟩
      rw [Nat.add_sub_cancel]
      obtain ⟨r1, r2, r3⟩ := hR t (by omega)
      have b1 : p * W ≤ t * W := Nat.mul_le_mul_right W (by omega)
      have b2 : t * W + W ≤ R.length * W := by
        have := Nat.mul_le_mul_right W (by omega : t + 1 ≤ R.length)
        rw [Nat.succ_mul] at this
        exact this
      refine ⟨r1, fun c hc => ?_, ?_⟩
      · rw [rowz c hc, Nat.succ_mul, hG3, cpG_o (by omega), f2 _ _ (by omega), hG1, cpG_i (by omega) (by omega), show p * W + (t * W + W + c - (p + 1) * W) = t * W + c by omega]
        exact r2 c hc
      · rw [z4 _ _ (by omega) (by omega), f3 _ _ (by omega), hG2, cpG_i (by omega) (by omega), f1 _ _ (by omega), show p + (t + 1 - (p + 1)) = t by omega]
        exact r3
/-- remove() -/
theorem k_77 (h : cRw S G x W cap R) (hp : p < R.length) : ∃ G', c77 f x (p : Int) (S, G, m) = some (S, G', m) ∧ xFx x G G' ∧ cRw S G' x W cap (R.take p ++ R.drop (p + 1)) := by
  obtain ⟨xs, ⟨z, cs, z1, z2⟩, ds, ⟨w0, w1, w2, w3⟩, hl, hcap, hW, hR⟩ := id h
  have m1 : R.length * W ≤ cap * W := Nat.mul_le_mul_right W hl
  have m3 : (p + 1) * W + (R.length - p - 1) * W = R.length * W := by rw [← Nat.add_mul]; congr 1; omega
  have m4 : (p + 1) * W = p * W + W := Nat.succ_mul _ _
  have q0 : xwr ((p : Int) + 1) = ((p + 1 : Nat) : Int) := by rw [xwr_g _ (by omega) (by omega)]; omega
  have q5 : xwr ((xwr ((R.length : Int) - (p : Int))) - 1) = ((R.length - p - 1 : Nat) : Int) := by rw [xwr_g ((R.length : Int) - (p : Int)) (by omega) (by omega), xwr_g _ (by omega) (by omega)]; omega
  have q1 : xwr ((xwr ((p : Int) + 1)) * (W : Int)) = (((p + 1) * W : Nat) : Int) := by rw [q0]; exact mulw (by omega)
  have q2 := mulw (A := p) (B := W) (by omega)
  have q3 : xwr ((xwr ((xwr ((R.length : Int) - (p : Int))) - 1)) * (W : Int)) = (((R.length - p - 1) * W : Nat) : Int) := by rw [q5]; exact mulw (by omega)
  have c1 := cp_ok (G := G) (m := m) (sp := (p + 1) * W) (dp := p * W) (n := (R.length - p - 1) * W) cs cs (.inr rfl) (by omega) (by omega)
  obtain ⟨G1, hG1⟩ : ∃ G1, G1 = cpG G (x + 1) ((p + 1) * W) (x + 1) (p * W) ((R.length - p - 1) * W) := ⟨_, rfl⟩
  rw [← hG1] at c1
  have f1 : ∀ b j, b ≠ x + 1 → G1 b j = G b j := fun b j hb => by rw [hG1]; exact cpG_n hb
  have e1 := st_77a (f := f) xs w0 w1 w2 hp q1 q2 q3 c1
  have c2 := cp_ok (G := G1) (m := m) (sp := p + 1) (dp := p) (n := R.length - p - 1) ds ds (.inl rfl) (by omega) (by omega)
  obtain ⟨G2, hG2⟩ : ∃ G2, G2 = cpG G1 (x + 2) (p + 1) (x + 2) p (R.length - p - 1) := ⟨_, rfl⟩
  rw [← hG2] at c2
  have f2 : ∀ b j, b ≠ x + 2 → G2 b j = G1 b j := fun b j hb => by rw [hG2]; exact cpG_n hb
  have g2 : ∀ j, G2 x j = G x j := fun j => by rw [f2 _ _ (by omega), f1 _ _ (by omega)]
  have e2 := st_77b (f := f) (n := R.length) xs (by rw [f1 _ _ (by omega)]; exact w3) q0 q5 c2
  have qn : xwr ((R.length : Int) - 1) = ((R.length - 1 : Nat) : Int) := by rw [xwr_g _ (by omega) (by omega)]; omega
  have e3 := st_77c (f := f) (G := G2) (m := m) xs (by rw [g2]; exact w1) qn
  have z4 : ∀ b j, ¬ (b = x ∧ j = 1) → xup2 G2 x 1 ((R.length - 1 : Nat) : Int) b j = G2 b j := fun b j y1 => xup2_n y1
  refine ⟨_, e1.trans (e2.trans e3), fun b j y1 y2 y3 => by rw [z4 b j y1, f2 b j y3, f1 b j y2], xs, ⟨z, cs, z1, z2⟩, ds, ⟨by rw [z4 _ _ (by omega), g2]; exact w0, by rw [xup2_s, len_rem hp], by rw [z4 _ _ (by omega), g2]; exact w2, by rw [z4 _ _ (by omega), g2]; exact w3⟩, by rw [len_rem hp]; omega, hcap, hW, fun i hi => ?_⟩
  rw [len_rem hp] at hi
  rw [getD_rem hp]
  by_cases ca : i < p
  · rw [if_pos ca]
    obtain ⟨r1, r2, r3⟩ := hR i (by omega)
    have b1 : i * W + W ≤ p * W := by
      have := Nat.mul_le_mul_right W (by omega : i + 1 ≤ p)
      rw [Nat.succ_mul] at this
      exact this
    refine ⟨r1, fun c hc => ?_, ?_⟩
    · rw [z4 _ _ (by omega), f2 _ _ (by omega), hG1, cpG_o (by omega)]
      exact r2 c hc
    · rw [z4 _ _ (by omega), hG2, cpG_o (by omega), f1 _ _ (by omega)]
      exact r3
  · rw [if_neg ca]
    obtain ⟨r1, r2, r3⟩ := hR (i + 1) (by omega)
    have b1 : p * W ≤ i * W := Nat.mul_le_mul_right W (by omega)
    have b2 : i * W + W + W ≤ R.length * W := by
      have := Nat.mul_le_mul_right W (by omega : i + 1 + 1 ≤ R.length)
      rw [Nat.succ_mul, Nat.succ_mul] at this
      exact this
    refine ⟨r1, fun c hc => ?_, ?_⟩
    · rw [z4 _ _ (by omega), f2 _ _ (by omega), hG1, cpG_i (by omega) (by omega), show (p + 1) * W + (i * W + c - p * W) = (i + 1) * W + c by rw [Nat.succ_mul i]; omega]
      exact r2 c hc
    · rw [z4 _ _ (by omega), hG2, cpG_i (by omega) (by omega), f1 _ _ (by omega), show p + 1 + (i - p) = i + 1 by omega]
      exact r3
end
end
section
/-! THE CLASS: rows: copyFrom(), frozen() -/
def c79a (f : Nat) (a0 : Nat) (a1 : Nat) (R103 : (xT_)) : Option (xT_) := ((cq_gi 5 1 4 (a1) R103).bind fun v109 => ((cq_gr 5 3 4 (a0) R103).bind fun v111 => ((cq_ln (v111) R103).bind fun v113 => ((cq_p 5 1 4 (a0) (xmin (v109) (v113)) R103).bind fun T116 => ((cq_gr 5 2 4 (a1) T116).bind fun v120 => ((cq_gr 5 2 4 (a0) T116).bind fun v122 => ((cq_gi 5 1 4 (a0) T116).bind fun v124 => ((cq_gi 5 0 4 (a0) T116).bind fun v126 => ((cq_cp (v120) (0) (v122) (0) (xwr ((v124) * (v126))) T116).bind fun T129 => ((cq_gr 5 3 4 (a1) T129).bind fun v133 => ((cq_gr 5 3 4 (a0) T129).bind fun v135 => ((cq_gi 5 1 4 (a0) T129).bind fun v137 => ((cq_cp (v133) (0) (v135) (0) (v137) T129).bind fun T140 => (some T140))))))))))))))
theorem c79a_e (f : Nat) (a0 : Nat) (a1 : Nat) (T : xT_) : c79 f a0 a1 T = ((cq_gi 5 0 4 (a1) T).bind fun v101 => ((cq_is 5 4 (a0) T).bind fun _ => ((c69 f (a0) (v101) T).bind fun R103 => c79a f a0 a1 R103))) := rfl
def c79b (f : Nat) (a0 : Nat) (a1 : Nat) (T129 : xT_) : Option (xT_) := ((cq_gr 5 3 4 (a1) T129).bind fun v133 => ((cq_gr 5 3 4 (a0) T129).bind fun v135 => ((cq_gi 5 1 4 (a0) T129).bind fun v137 => ((cq_cp (v133) (0) (v135) (0) (v137) T129).bind fun T140 => (some T140)))))
theorem c79b_e (f : Nat) (a0 : Nat) (a1 : Nat) (R103 : (xT_)) : c79a f a0 a1 R103 = ((cq_gi 5 1 4 (a1) R103).bind fun v109 => ((cq_gr 5 3 4 (a0) R103).bind fun v111 => ((cq_ln (v111) R103).bind fun v113 => ((cq_p 5 1 4 (a0) (xmin (v109) (v113)) R103).bind fun T116 => ((cq_gr 5 2 4 (a1) T116).bind fun v120 => ((cq_gr 5 2 4 (a0) T116).bind fun v122 => ((cq_gi 5 1 4 (a0) T116).bind fun v124 => ((cq_gi 5 0 4 (a0) T116).bind fun v126 => ((cq_cp (v120) (0) (v122) (0) (xwr ((v124) * (v126))) T116).bind fun T129 => c79b f a0 a1 T129))))))))) := rfl
def c79c (f : Nat) (T140 : xT_) : Option (xT_) := (some T140)
theorem c79c_e (f : Nat) (a0 : Nat) (a1 : Nat) (T129 : xT_) : c79b f a0 a1 T129 = ((cq_gr 5 3 4 (a1) T129).bind fun v133 => ((cq_gr 5 3 4 (a0) T129).bind fun v135 => ((cq_gi 5 1 4 (a0) T129).bind fun v137 => ((cq_cp (v133) (0) (v135) (0) (v137) T129).bind fun T140 => c79c f T140)))) := rfl
/-- a place for rows -/
def cRs (S : Nat → Nat × Nat × Nat) (G : xG_) (x z cap : Nat) : Prop := S x = (1, 5, 4) ∧ S (x + 1) = (2, 4, z) ∧ S (x + 2) = (2, 3, cap) ∧ G x 2 = ((x + 1 : Nat) : Int) ∧ G x 3 = ((x + 2 : Nat) : Int)
/-- only this place for rows has changed -/
def xFy (x : Nat) (G G' : xG_) : Prop := ∀ b j, ¬ (b = x ∧ j ≤ 1) → b ≠ x + 1 → b ≠ x + 2 → G' b j = G b j
section
variable {f x y W cap cap2 n z e1 A sl : Nat} {S : Nat → Nat × Nat × Nat} {G G1 : xG_} {m : Nat × Nat} {R : List pRw} {T : xT_}
theorem st_79a (xs : S x = (1, 5, 4)) (ys : S y = (1, 5, 4)) (v0 : G y 0 = (W : Int)) : c79 f x y (S, G, m) = c79a f x y (S, xup2 (xup2 G x 0 (W : Int)) x 1 0, m) := by
  rw [c79a_e]
  simp (disch := omega) only [cq_gi, cq_gr, cq_a, cq_s, cq_p, cq_pr, cq_is, cq_ar, cq_ab, cq_ln, xq_nz, Option.bind_some, xup2_n, xup2_s, Int.toNat_natCast, Int.reduceToNat, if_pos, if_neg, true_and, and_true, and_self, eq_self, if_true, reduceIte, not_true_eq_false, not_false_eq_true, or_true, true_or, xs, ys, v0, k_69 xs]
theorem st_79b (hcap : cap ≤ 512) (xs : S x = (1, 5, 4)) (ds : S (x + 2) = (2, 3, cap)) (ys : S y = (1, 5, 4)) (hxy : x ≠ y) (v1 : G y 1 = (n : Int)) (hn : n ≤ cap) (v2 : G y 2 = ((y + 1 : Nat) : Int)) (w0 : G x 0 = (W : Int)) (w2 : G x 2 = ((x + 1 : Nat) : Int)) (w3 : G x 3 = ((x + 2 : Nat) : Int)) (q : xwr ((n : Int) * (W : Int)) = (e1 : Int)) (em : xmin (n : Int) (cap : Int) = (n : Int)) (ec : cq_cp (y + 1) 0 (x + 1) 0 (e1 : Int) (S, xup2 G x 1 (n : Int), m) = some T) : c79a f x y (S, G, m) = c79b f x y T := by
  rw [c79b_e]
  simp (disch := omega) only [cq_gi, cq_gr, cq_a, cq_s, cq_p, cq_pr, cq_is, cq_ar, cq_ab, cq_ln, xq_nz, Option.bind_some, xup2_n, xup2_s, Int.toNat_natCast, Int.reduceToNat, if_pos, if_neg, true_and, and_true, and_self, eq_self, if_true, reduceIte, not_true_eq_false, not_false_eq_true, or_true, true_or, xs, ys, ds, v1, v2, w0, w2, w3, em, q, ec]
theorem st_79c (xs : S x = (1, 5, 4)) (ys : S y = (1, 5, 4)) (w1 : G x 1 = (n : Int)) (v3 : G y 3 = ((y + 2 : Nat) : Int)) (w3 : G x 3 = ((x + 2 : Nat) : Int)) (ec : cq_cp (y + 2) 0 (x + 2) 0 (n : Int) (S, G, m) = some T) : c79b f x y (S, G, m) = some T := by
  rw [c79c_e]
  unfold c79c
  simp (disch := omega) only [cq_gi, cq_gr, cq_a, cq_s, cq_p, cq_pr, cq_is, cq_ar, cq_ab, cq_ln, xq_nz, Option.bind_some, xup2_n, xup2_s, Int.toNat_natCast, Int.reduceToNat, if_pos, if_neg, true_and, and_true, and_self, eq_self, if_true, reduceIte, not_true_eq_false, not_false_eq_true, or_true, true_or, xs, ys, w1, w3, v3, ec]
theorem cRw.rs (h : cRw S G x W cap R) : ∃ z, cRs S G x z cap ∧ cap * W ≤ z ∧ z ≤ 4096 := by
  obtain ⟨xs, ⟨z, cs, z1, z2⟩, ds, ⟨w0, w1, w2, w3⟩, hl, hcap, hW, hR⟩ := h
  exact ⟨z, ⟨xs, cs, ds, w2, w3⟩, z1, z2⟩
theorem k_79 (hx : cRs S G x z cap) (hz : cap * W ≤ z ∧ z ≤ 4096) (hcap : cap ≤ 512) (hxy : x ≠ y) (h : cRw S G y W cap2 R) (hn : R.length ≤ cap) : ∃ G', c79 f x y (S, G, m) = some (S, G', m) ∧ xFy x G G' ∧ cRw S G' x W cap R := by
  obtain ⟨xs, cs, ds, w2, w3⟩ := hx
  obtain ⟨ys, ⟨z', cs', z1', z2'⟩, ds', ⟨v0, v1, v2, v3⟩, hl, hcap2, hW, hR⟩ := id h
  have n1 : y ≠ x + 1 := fun q => by rw [q, cs] at ys; injection ys with ys _; omega
  have n2 : y ≠ x + 2 := fun q => by rw [q, ds] at ys; injection ys with ys _; omega
  have n3 : x ≠ y + 1 := fun q => by rw [q, cs'] at xs; injection xs with xs _; omega
  have n4 : x ≠ y + 2 := fun q => by rw [q, ds'] at xs; injection xs with xs _; omega
  have m1 : R.length * W ≤ cap * W := Nat.mul_le_mul_right W hn
  have m2 : R.length * W ≤ cap2 * W := Nat.mul_le_mul_right W hl
  have e1 := st_79a (f := f) (m := m) xs ys v0
  obtain ⟨G1, hG1⟩ : ∃ G1, G1 = xup2 (xup2 G x 0 (W : Int)) x 1 0 := ⟨_, rfl⟩
  rw [← hG1] at e1
  have f1 : ∀ b j, ¬ (b = x ∧ j ≤ 1) → G1 b j = G b j := fun b j hb => by rw [hG1, xup2_n (by omega), xup2_n (by omega)]
  have c2 := cp_ok (G := xup2 G1 x 1 (R.length : Int)) (m := m) (sp := 0) (dp := 0) (n := R.length * W) cs' cs (.inr rfl) (by omega) (by omega)
  obtain ⟨G2, hG2⟩ : ∃ G2, G2 = cpG (xup2 G1 x 1 (R.length : Int)) (y + 1) 0 (x + 1) 0 (R.length * W) := ⟨_, rfl⟩
  rw [← hG2] at c2
  have f2 : ∀ b j, b ≠ x + 1 → G2 b j = xup2 G1 x 1 (R.length : Int) b j := fun b j hb => by rw [hG2]; exact cpG_n hb
  have em : xmin (R.length : Int) (cap : Int) = (R.length : Int) := by
    unfold xmin
    rw [if_neg (by omega)]
  have g0 : G1 x 0 = (W : Int) := by rw [hG1, xup2_n (by omega), xup2_s]
  have e2 := st_79b (f := f) (m := m) hcap xs ds ys hxy (by rw [f1 _ _ (by omega)]; exact v1) hn (by rw [f1 _ _ (by omega)]; exact v2) g0 (by rw [f1 _ _ (by omega)]; exact w2) (by rw [f1 _ _ (by omega)]; exact w3) (mulw (by omega)) em c2
  have c3 := cp_ok (G := G2) (m := m) (sp := 0) (dp := 0) (n := R.length) ds' ds (.inl rfl) (by omega) (by omega)
  obtain ⟨G3, hG3⟩ : ∃ G3, G3 = cpG G2 (y + 2) 0 (x + 2) 0 R.length := ⟨_, rfl⟩
  rw [← hG3] at c3
  have f3 : ∀ b j, b ≠ x + 2 → G3 b j = G2 b j := fun b j hb => by rw [hG3]; exact cpG_n hb
  have g2 : ∀ b j, b ≠ x + 1 → ¬ (b = x ∧ j ≤ 1) → G2 b j = G b j := fun b j y1 y2 => by rw [f2 b j y1, xup2_n (by omega), f1 b j y2]
  have e3 := st_79c (f := f) (m := m) (G := G2) (n := R.length) xs ys (by rw [f2 _ _ (by omega), xup2_s]) (by rw [g2 _ _ (by omega) (by omega)]; exact v3) (by rw [g2 _ _ (by omega) (by omega)]; exact w3) c3
  refine ⟨G3, e1.trans (e2.trans e3), fun b j y1 y2 y3 => by rw [f3 b j y3, g2 b j y2 y1], xs, ⟨z, cs, hz⟩, ds, ⟨?_, ?_, ?_, ?_⟩, hn, hcap, hW, fun i hi => ⟨(hR i hi).1, fun c hc => ?_, ?_⟩⟩
  · rw [f3 _ _ (by omega), f2 _ _ (by omega), xup2_n (by omega)]; exact g0
  · rw [f3 _ _ (by omega), f2 _ _ (by omega), xup2_s]
  · rw [f3 _ _ (by omega), g2 _ _ (by omega) (by omega)]; exact w2
  · rw [f3 _ _ (by omega), g2 _ _ (by omega) (by omega)]; exact w3
  · have b2 : i * W + W ≤ R.length * W := by
      have := Nat.mul_le_mul_right W (by omega : i + 1 ≤ R.length)
      rw [Nat.succ_mul] at this
      exact this
    rw [f3 _ _ (by omega), hG2, cpG_i (Nat.zero_le _) (by omega), Nat.zero_add, Nat.sub_zero, xup2_n (by omega), f1 _ _ (by omega)]
    exact (hR i hi).2.1 c hc
  · rw [hG3, cpG_i (Nat.zero_le _) (by omega), Nat.zero_add, Nat.sub_zero, g2 _ _ (by omega) (by omega)]
    exact (hR i hi).2.2
/-- new Rows(W, n) -/
theorem k_68 (hA : 0 < A) (hb : W * n ≤ 4096) (hn : n ≤ 512) (hS : S A = (1, 5, 4)) : c68 f A (W : Int) (n : Int) (S, G, (A + 1, sl)) = some (xup1 (xup1 S (A + 1) (2, 4, W * n)) (A + 2) (2, 3, n), xup2 (xz1 (xup2 (xz1 (xup2 G A 0 (W : Int)) (A + 1) (fun _ => 0)) A 2 ((A + 1 : Nat) : Int)) (A + 2) (fun _ => 0)) A 3 ((A + 2 : Nat) : Int), (A + 3, sl + W * n + n)) := by
  unfold c68
  rw [xq_nz, if_neg (Nat.ne_of_gt hA), Option.bind_some]
  have e0 : cq_p 5 0 4 A (W : Int) (S, G, (A + 1, sl)) = some (S, xup2 G A 0 (W : Int), (A + 1, sl)) := if_pos hS
  rw [e0, Option.bind_some, mulw (by omega)]
  rw [alc' (zn := W * n) (a := A + 1) (A + 2) (sl + W * n) hS (by omega) (by decide) (by omega) (by omega) (by omega) rfl rfl]
  rw [alc' (zn := n) (a := A + 2) (A + 3) (sl + W * n + n) (by rw [xup1_n (by omega)]; exact hS) (by omega) (by decide) (by omega) (by omega) (by omega) rfl rfl]
/-- frozen() -/
theorem st_80 {T1 T2 : xT_} {S1 : Nat → Nat × Nat × Nat} (hx : x < A) (xs : S x = (1, 5, 4)) (w0 : G x 0 = (W : Int)) (w1 : G x 1 = (n : Int)) (e : c68 f A (W : Int) (n : Int) (xup1 S A (1, 5, 4), xz1 G A (fun _ => 0), (A + 1, sl + 4)) = some (S1, G1, m)) (s1 : S1 A = (1, 5, 4)) (e2 : c79 f A x (S1, G1, m) = some T2) : c80 f x (S, G, (A, sl)) = some (A, T2) := by
  have xs' : xup1 S A (1, 5, 4) x = (1, 5, 4) := by rw [xup1_n (by omega)]; exact xs
  have w0' : xz1 G A (fun _ => 0) x 0 = (W : Int) := by rw [xz1_n _ (by omega)]; exact w0
  have w1' : xz1 G A (fun _ => 0) x 1 = (n : Int) := by rw [xz1_n _ (by omega)]; exact w1
  unfold c80 cq_nw cq_mk
  simp (disch := omega) only [cq_gi, cq_gr, cq_a, cq_s, cq_p, cq_pr, cq_is, cq_ar, cq_ab, cq_ln, xq_nz, Option.bind_some, xup2_n, xup2_s, Int.toNat_natCast, Int.reduceToNat, if_pos, if_neg, true_and, and_true, and_self, eq_self, if_true, reduceIte, not_true_eq_false, not_false_eq_true, or_true, true_or, xs', w0', w1', e, s1, e2]
theorem k_80f (hx : x + 2 < A) (h : cRw S G x W cap R) : ∃ S' G', c80 f x (S, G, (A, sl)) = some (A, (S', G', (A + 3, sl + 4 + W * R.length + R.length))) ∧ (∀ a, a < A → S' a = S a) ∧ (∀ a j, a < A → G' a j = G a j) ∧ cRw S' G' A W R.length R := by
  obtain ⟨xs, ⟨z, cs, z1, z2⟩, ds, ⟨w0, w1, w2, w3⟩, hl, hcap, hW, hR⟩ := id h
  have m2 : R.length * W ≤ cap * W := Nat.mul_le_mul_right W hl
  have m3 : W * R.length = R.length * W := Nat.mul_comm _ _
  have e1 := k_68 (f := f) (A := A) (W := W) (n := R.length) (sl := sl + 4) (S := xup1 S A (1, 5, 4)) (G := xz1 G A (fun _ => 0)) (by omega) (by omega) (by omega) (xup1_s _ _ _)
  obtain ⟨S1, hS1⟩ : ∃ S1, S1 = xup1 (xup1 (xup1 S A (1, 5, 4)) (A + 1) (2, 4, W * R.length)) (A + 2) (2, 3, R.length) := ⟨_, rfl⟩
  obtain ⟨G1, hG1⟩ : ∃ G1, G1 = xup2 (xz1 (xup2 (xz1 (xup2 (xz1 G A (fun _ => 0)) A 0 (W : Int)) (A + 1) (fun _ => 0)) A 2 ((A + 1 : Nat) : Int)) (A + 2) (fun _ => 0)) A 3 ((A + 2 : Nat) : Int) := ⟨_, rfl⟩
  rw [← hS1, ← hG1] at e1
  have sA : S1 A = (1, 5, 4) := by rw [hS1, xup1_n (by omega), xup1_n (by omega), xup1_s]
  have sA1 : S1 (A + 1) = (2, 4, W * R.length) := by rw [hS1, xup1_n (by omega), xup1_s]
  have sA2 : S1 (A + 2) = (2, 3, R.length) := by rw [hS1, xup1_s]
  have sL : ∀ a, a < A → S1 a = S a := fun a ha => by rw [hS1, xup1_n (by omega), xup1_n (by omega), xup1_n (by omega)]
  have gL : ∀ a j, a < A → G1 a j = G a j := fun a j ha => by rw [hG1, xup2_n (by omega), xz1_n _ (by omega), xup2_n (by omega), xz1_n _ (by omega), xup2_n (by omega), xz1_n _ (by omega)]
  have g2 : G1 A 2 = ((A + 1 : Nat) : Int) := by rw [hG1, xup2_n (by omega), xz1_n _ (by omega), xup2_s]
  have g3 : G1 A 3 = ((A + 2 : Nat) : Int) := by rw [hG1, xup2_s]
  have h1 : cRw S1 G1 x W cap R := h.ge (fun b _ _ => sL b (by omega)) (fun j => gL _ _ (by omega)) (fun j => gL _ _ (by omega)) (fun j => gL _ _ (by omega))
  obtain ⟨G2, i1, i2, i3⟩ := k_79 (f := f) (m := (A + 3, sl + 4 + W * R.length + R.length)) (z := W * R.length) (cap := R.length) ⟨sA, sA1, sA2, g2, g3⟩ (by omega) (by omega) (by omega : A ≠ x) h1 (Nat.le_refl _)
  exact ⟨S1, G2, st_80 (T1 := (S1, G1, (A + 3, sl + 4 + W * R.length + R.length))) (by omega) xs w0 w1 e1 sA i1, sL, fun a j ha => by rw [i2 a j (by omega) (by omega) (by omega), gL a j ha], i3⟩
end
end
section
/-! THE CLASS: rows: sameRows(), sameRanks() -/
section
variable {f x y i j c k W kz a cap cap2 p n n2 : Nat} {S S' : Nat → Nat × Nat × Nat} {G G' : xG_} {m : Nat × Nat} {R R2 : List pRw} {v v2 : Int}
theorem st_81z {r : Nat → Nat → Int → xT_ → Option (Int × xT_)} (xs : S x = (1, 5, 4)) (w1 : G x 1 = (n : Int)) : c81_15b r f x y (n : Int) (S, G, m) = some (1, (S, G, m)) := by
  unfold c81_15b
  simp (disch := omega) only [cq_gi, cq_gr, cq_a, cq_s, cq_p, cq_pr, cq_is, cq_ar, cq_ab, cq_ln, xq_nz, Option.bind_some, xup2_n, xup2_s, Int.toNat_natCast, Int.reduceToNat, if_pos, if_neg, true_and, and_true, and_self, eq_self, if_true, reduceIte, not_true_eq_false, not_false_eq_true, or_true, true_or, xs, w1]
theorem st_81s {r : Nat → Nat → Int → xT_ → Option (Int × xT_)} (xs : S x = (1, 5, 4)) (w0 : G x 0 = (W : Int)) (w1 : G x 1 = (n : Int)) (hi : i < n) (e : c72 f x (i : Int) y (i : Int) (W : Int) (S, G, m) = some (v, (S, G, m))) : c81_15b r f x y (i : Int) (S, G, m) = if v = 0 then r x y (xwr ((i : Int) + 1)) (S, G, m) else some (0, (S, G, m)) := by
  by_cases q : v = 0
  · rw [if_pos q]
    unfold c81_15b
    simp (disch := omega) only [cq_gi, cq_gr, cq_a, cq_s, cq_p, cq_pr, cq_is, cq_ar, cq_ab, cq_ln, xq_nz, Option.bind_some, xup2_n, xup2_s, Int.toNat_natCast, Int.reduceToNat, if_pos, if_neg, true_and, and_true, and_self, eq_self, if_true, reduceIte, not_true_eq_false, not_false_eq_true, or_true, true_or, xs, w0, w1, e, q]
  · rw [if_neg q]
    unfold c81_15b
    simp (disch := omega) only [cq_gi, cq_gr, cq_a, cq_s, cq_p, cq_pr, cq_is, cq_ar, cq_ab, cq_ln, xq_nz, Option.bind_some, xup2_n, xup2_s, Int.toNat_natCast, Int.reduceToNat, if_pos, if_neg, true_and, and_true, and_self, eq_self, if_true, reduceIte, not_true_eq_false, not_false_eq_true, or_true, true_or, xs, w0, w1, e, q]
theorem st_81 (xs : S x = (1, 5, 4)) (ys : S y = (1, 5, 4)) (w1 : G x 1 = (n : Int)) (v1 : G y 1 = (n2 : Int)) : c81 f x y (S, G, m) = if n = n2 then c81_15 f f x y 0 (S, G, m) else some (0, (S, G, m)) := by
  by_cases q : n = n2
  · rw [if_pos q]
    subst q
    unfold c81
    simp (disch := omega) only [cq_gi, cq_gr, cq_a, cq_s, cq_p, cq_pr, cq_is, cq_ar, cq_ab, cq_ln, xq_nz, Option.bind_some, xup2_n, xup2_s, Int.toNat_natCast, Int.reduceToNat, if_pos, if_neg, true_and, and_true, and_self, eq_self, if_true, reduceIte, not_true_eq_false, not_false_eq_true, or_true, true_or, xs, ys, w1, v1]
  · rw [if_neg q]
    unfold c81
    simp (disch := omega) only [cq_gi, cq_gr, cq_a, cq_s, cq_p, cq_pr, cq_is, cq_ar, cq_ab, cq_ln, xq_nz, Option.bind_some, xup2_n, xup2_s, Int.toNat_natCast, Int.reduceToNat, if_pos, if_neg, true_and, and_true, and_self, eq_self, if_true, reduceIte, not_true_eq_false, not_false_eq_true, or_true, true_or, xs, ys, w1, v1]
/-- sameRows() -/
theorem k_81 (hf : 600 < f) (h : cRw S G x W cap R) (h2 : cRw S G y W cap2 R2) : ∃ b : Bool, c81 f x y (S, G, m) = some (b01 b, (S, G, m)) ∧ (b = true ↔ R.map (·.1) = R2.map (·.1)) := by
  obtain ⟨xs, _, _, ⟨w0, w1, _, _⟩, hl, hcap, hW, hR⟩ := id h
  obtain ⟨ys, _, _, ⟨v0, v1, _, _⟩, hl2, hcap2, _, hR2⟩ := id h2
  have loop : ∀ (d i fu : Nat), i + d = R.length → R.length = R2.length → d < fu → (∀ k, k < i → (R.getD k dRw).1 = (R2.getD k dRw).1) → ∃ b : Bool, c81_15 f fu x y (i : Int) (S, G, m) = some (b01 b, (S, G, m)) ∧ (b = true ↔ ∀ k, k < R.length → (R.getD k dRw).1 = (R2.getD k dRw).1) := by
    intro d
    induction d with
    | zero =>
      intro i fu e1 e2 e3 e4
      obtain ⟨fu, rfl⟩ : ∃ t, fu = t + 1 := ⟨fu - 1, by omega⟩
      have : i = R.length := by omega
      subst this
      exact ⟨true, st_81z (r := c81_15 f fu) xs w1, fun _ => e4, fun _ => rfl⟩
    | succ d ih =>
      intro i fu e1 e2 e3 e4
      obtain ⟨fu, rfl⟩ : ∃ t, fu = t + 1 := ⟨fu - 1, by omega⟩
      have hi : i < R.length := by omega
      have e72 := k_72 (f := f) (m := m) (k := W) (by omega) h h2 hi (by omega : i < R2.length) (Nat.le_refl _) (Nat.le_refl _)
      have l1 := (hR i hi).1
      have l2 := (hR2 i (by omega)).1
      have t1 : (R.getD i dRw).1.take W = (R.getD i dRw).1 := by rw [← l1, List.take_length]
      have t2 : (R2.getD i dRw).1.take W = (R2.getD i dRw).1 := by rw [← l2, List.take_length]
      rw [t1, t2] at e72
      have st : c81_15 f (fu + 1) x y (i : Int) (S, G, m) = _ := st_81s (r := c81_15 f fu) xs w0 w1 hi e72
      by_cases q : vCmp (R.getD i dRw).1 (R2.getD i dRw).1 = 0
      · have eq := vCmp_eq (by omega) q
        have ek : xwr ((i : Int) + 1) = ((i + 1 : Nat) : Int) := by rw [xwr_g _ (by omega) (by omega)]; omega
        rw [if_pos q, ek] at st
        rw [st]
        refine ih (i + 1) fu (by omega) e2 (by omega) (fun k hk => ?_)
        by_cases ck : k = i
        · rw [ck]; exact eq
        · exact e4 k (by omega)
      · rw [if_neg q] at st
        refine ⟨false, st, (fun y => nomatch y), fun y => ?_⟩
        exfalso
        exact q (by rw [y i hi, vCmp_self])
  rw [st_81 xs ys w1 v1]
  by_cases q : R.length = R2.length
  · rw [if_pos q]
    obtain ⟨b, b1, b2⟩ := loop R.length 0 f (by omega) q (by omega) (fun k hk => absurd hk (Nat.not_lt_zero k))
    refine ⟨b, b1, b2.trans ⟨fun y => ?_, fun y k hk => ?_⟩⟩
    · refine List.ext_getElem (by rw [List.length_map, List.length_map]; exact q) (fun k k1 k2 => ?_)
      rw [List.length_map] at k1 k2
      have := y k k1
      rw [getD_e k1, getD_e k2] at this
      rw [List.getElem_map, List.getElem_map]
      exact this
    · have e : (R.map (·.1))[k]'(by rw [List.length_map]; exact hk) = (R2.map (·.1))[k]'(by rw [List.length_map]; omega) := List.getElem_of_eq y _
      rw [List.getElem_map, List.getElem_map] at e
      rw [getD_e hk, getD_e (by omega : k < R2.length)]
      exact e
  · rw [if_neg q]
    refine ⟨false, rfl, (fun y => nomatch y), fun y => ?_⟩
    exact absurd (by have := congrArg List.length y; rw [List.length_map, List.length_map] at this; exact this) q
theorem st_82z {r : Nat → Nat → Int → xT_ → Option (Int × xT_)} (xs : S x = (1, 5, 4)) (w1 : G x 1 = (n : Int)) : c82_2b r f x y (n : Int) (S, G, m) = some (1, (S, G, m)) := by
  unfold c82_2b
  simp (disch := omega) only [cq_gi, cq_gr, cq_a, cq_s, cq_p, cq_pr, cq_is, cq_ar, cq_ab, cq_ln, xq_nz, Option.bind_some, xup2_n, xup2_s, Int.toNat_natCast, Int.reduceToNat, if_pos, if_neg, true_and, and_true, and_self, eq_self, if_true, reduceIte, not_true_eq_false, not_false_eq_true, or_true, true_or, xs, w1]
theorem st_82n {r : Nat → Nat → Int → xT_ → Option (Int × xT_)} (xs : S x = (1, 5, 4)) (ys : S y = (1, 5, 4)) (w1 : G x 1 = (n : Int)) (v1 : G y 1 = (n2 : Int)) (hi : i < n) (hi2 : n2 ≤ i) : c82_2b r f x y (i : Int) (S, G, m) = some (0, (S, G, m)) := by
  unfold c82_2b c82_33
  simp (disch := omega) only [cq_gi, cq_gr, cq_a, cq_s, cq_p, cq_pr, cq_is, cq_ar, cq_ab, cq_ln, xq_nz, Option.bind_some, xup2_n, xup2_s, Int.toNat_natCast, Int.reduceToNat, if_pos, if_neg, true_and, and_true, and_self, eq_self, if_true, reduceIte, not_true_eq_false, not_false_eq_true, or_true, true_or, xs, ys, w1, v1]
theorem st_82s {r : Nat → Nat → Int → xT_ → Option (Int × xT_)} (xs : S x = (1, 5, 4)) (ys : S y = (1, 5, 4)) (ds : S (x + 2) = (2, 3, cap)) (es : S (y + 2) = (2, 3, cap2)) (w1 : G x 1 = (n : Int)) (v1 : G y 1 = (n2 : Int)) (w3 : G x 3 = ((x + 2 : Nat) : Int)) (v3 : G y 3 = ((y + 2 : Nat) : Int)) (hi : i < n) (hi2 : i < n2) (hc : n ≤ cap) (hc2 : n2 ≤ cap2) (g1 : G (x + 2) i = v) (g2 : G (y + 2) i = v2) : c82_2b r f x y (i : Int) (S, G, m) = if v = v2 then r x y (xwr ((i : Int) + 1)) (S, G, m) else some (0, (S, G, m)) := by
  by_cases q : v = v2
  · rw [if_pos q]
    unfold c82_2b
    simp (disch := omega) only [cq_gi, cq_gr, cq_a, cq_s, cq_p, cq_pr, cq_is, cq_ar, cq_ab, cq_ln, xq_nz, Option.bind_some, xup2_n, xup2_s, Int.toNat_natCast, Int.reduceToNat, if_pos, if_neg, true_and, and_true, and_self, eq_self, if_true, reduceIte, not_true_eq_false, not_false_eq_true, or_true, true_or, xs, ys, ds, es, w1, v1, w3, v3, g1, g2, q]
  · rw [if_neg q]
    unfold c82_2b c82_33
    simp (disch := omega) only [cq_gi, cq_gr, cq_a, cq_s, cq_p, cq_pr, cq_is, cq_ar, cq_ab, cq_ln, xq_nz, Option.bind_some, xup2_n, xup2_s, Int.toNat_natCast, Int.reduceToNat, if_pos, if_neg, true_and, and_true, and_self, eq_self, if_true, reduceIte, not_true_eq_false, not_false_eq_true, or_true, true_or, xs, ys, ds, es, w1, v1, w3, v3, g1, g2, q]
/-- sameRanks() -/
theorem k_82 (hf : 600 < f) (h : cRw S G x W cap R) (h2 : cRw S G y W cap2 R2) : ∃ b : Bool, c82 f x y (S, G, m) = some (b01 b, (S, G, m)) ∧ (b = true ↔ ∀ i, i < R.length → i < R2.length ∧ (R.getD i dRw).2 = (R2.getD i dRw).2) := by
  obtain ⟨xs, _, ds, ⟨w0, w1, w2, w3⟩, hl, hcap, hW, hR⟩ := id h
  obtain ⟨ys, _, es, ⟨v0, v1, v2, v3⟩, hl2, hcap2, _, hR2⟩ := id h2
  have loop : ∀ (d i fu : Nat), i + d = R.length → d < fu → (∀ k, k < i → k < R2.length ∧ (R.getD k dRw).2 = (R2.getD k dRw).2) → ∃ b : Bool, c82_2 f fu x y (i : Int) (S, G, m) = some (b01 b, (S, G, m)) ∧ (b = true ↔ ∀ k, k < R.length → k < R2.length ∧ (R.getD k dRw).2 = (R2.getD k dRw).2) := by
    intro d
    induction d with
    | zero =>
      intro i fu e1 e3 e4
      obtain ⟨fu, rfl⟩ : ∃ t, fu = t + 1 := ⟨fu - 1, by omega⟩
      have : i = R.length := by omega
      subst this
      exact ⟨true, st_82z (r := c82_2 f fu) xs w1, fun _ => e4, fun _ => rfl⟩
    | succ d ih =>
      intro i fu e1 e3 e4
      obtain ⟨fu, rfl⟩ : ∃ t, fu = t + 1 := ⟨fu - 1, by omega⟩
      have hi : i < R.length := by omega
      by_cases q2 : i < R2.length
      · have st : c82_2 f (fu + 1) x y (i : Int) (S, G, m) = _ := st_82s (r := c82_2 f fu) xs ys ds es w1 v1 w3 v3 hi q2 hl hl2 (hR i hi).2.2 (hR2 i q2).2.2
        by_cases q : (R.getD i dRw).2 = (R2.getD i dRw).2
        · have ek : xwr ((i : Int) + 1) = ((i + 1 : Nat) : Int) := by rw [xwr_g _ (by omega) (by omega)]; omega
          rw [if_pos q, ek] at st
          rw [st]
          refine ih (i + 1) fu (by omega) (by omega) (fun k hk => ?_)
          by_cases ck : k = i
          · rw [ck]; exact ⟨q2, q⟩
          · exact e4 k (by omega)
        · rw [if_neg q] at st
          exact ⟨false, st, (fun y => nomatch y), fun y => absurd (y i hi).2 q⟩
      · exact ⟨false, st_82n (r := c82_2 f fu) xs ys w1 v1 hi (by omega), (fun y => nomatch y), fun y => absurd (y i hi).1 q2⟩
  exact loop R.length 0 f (by omega) (by omega) (fun k hk => absurd hk (Nat.not_lt_zero k))
theorem rw_same (h1 : R.map (·.1) = R2.map (·.1)) (h2 : ∀ i, i < R.length → i < R2.length ∧ (R.getD i dRw).2 = (R2.getD i dRw).2) : R = R2 := by
  have hl : R.length = R2.length := by have := congrArg List.length h1; rw [List.length_map, List.length_map] at this; exact this
  refine List.ext_getElem hl (fun k k1 k2 => ?_)
  have e : (R.map (·.1))[k]'(by rw [List.length_map]; exact k1) = (R2.map (·.1))[k]'(by rw [List.length_map]; omega) := List.getElem_of_eq h1 _
  rw [List.getElem_map, List.getElem_map] at e
  have e2 := (h2 k k1).2
  rw [getD_e k1, getD_e k2] at e2
  exact Prod.ext e e2
end
end
section
/-! How high an EXPRESSION's stack grows -/
def dB (M : Nat) (Q : pCd) : Prop := ∀ k h, wSt 0 (Q.take k) = some h → h ≤ M
theorem dB.ap {M k : Nat} {Q : pCd} {y : Int × Int} (h : dB M Q) (hs : wSt 0 (Q ++ [y]) = some k) (hk : k ≤ M) : dB M (Q ++ [y]) := by
  intro j r hr
  by_cases c : j ≤ Q.length
  · rw [List.take_append_of_le_length c] at hr
    exact h j r hr
  · rw [List.take_of_length_le (by rw [List.length_append, List.length_singleton]; omega), hs] at hr
    injection hr with hr
    omega
theorem pX_dp {t : tStr} (ht : tOk t) {M : Nat} : ∀ (F m b : Nat) (e x : pEx) (h : Nat), m ≤ 4 → b ≤ 4 → pX t F m b e = .inr x → wC e.1.length e.2.1 → wSt 0 e.2.1 = some h → (2 ≤ m → 1 ≤ h) → dB M e.2.1 → h + 1 + 2 * (4 - b) + (if m = 1 then 2 else if m = 2 ∨ m = 4 then 1 else 0) ≤ M → dB M x.2.1 := by
  intro F
  induction F with
  | zero => intro m b e x h _ _ hp; cases hp
  | succ F ih =>
    intro m b e x h hm hb hp hw hs h1 hd hM
    have full := pX_wf ht (F + 1) m b e x h hm hp hw hs h1
    match m, hm, hp, h1, hM, full with
    | 0, _, hp, _, hM, full =>
      rw [if_neg (by decide), if_neg (by decide)] at hM
      rw [pX_0] at hp
      split at hp
      · obtain ⟨r, g1, g2⟩ := pbind_inr hp
        cases g2
        exact hd.ap full.2 (by rw [if_pos (by decide)]; omega)
      · split at hp
        · split at hp
          · cases hp
          · rename_i hb4
            obtain ⟨r, g1, g2⟩ := pbind_inr hp
            obtain ⟨j, g3, g4⟩ := pbind_inr g2
            have a1 := ih 1 (b + 1) (e.1, e.2.1, e.2.2 + 1) _ h (by omega) (by omega) g1 hw hs (fun q => by omega) hd (by rw [if_pos rfl]; omega)
            cases g4
            exact a1
        · obtain ⟨r, g1, g2⟩ := pbind_inr hp
          cases g2
          exact hd.ap full.2 (by rw [if_pos (by decide)]; omega)
    | 1, _, hp, _, hM, _ =>
      rw [if_pos rfl] at hM
      rw [pX_1] at hp
      obtain ⟨r, g1, g2⟩ := pbind_inr hp
      have a1 := ih 0 b _ _ h (by omega) hb g1 hw hs (fun q => by omega) hd (by rw [if_neg (by decide), if_neg (by decide)]; omega)
      have w1 := pX_wf ht F 0 b _ _ h (by omega) g1 hw hs (fun q => by omega)
      exact ih 2 b _ _ (h + 1) (by omega) hb g2 w1.1 w1.2 (fun _ => by omega) a1 (by rw [if_neg (by decide), if_pos (.inl rfl)]; omega)
    | 2, _, hp, h1, hM, _ =>
      rw [if_neg (by decide), if_pos (.inl rfl)] at hM
      rw [pX_2] at hp
      obtain ⟨r, g1, g2⟩ := pbind_inr hp
      have a1 := ih 3 b _ _ h (by omega) hb g1 hw hs (fun q => h1 (by omega)) hd (by rw [if_neg (by decide), if_neg (by decide)]; omega)
      have w1 := pX_wf ht F 3 b _ _ h (by omega) g1 hw hs (fun q => h1 (by omega))
      exact ih 4 b _ _ h (by omega) hb g2 w1.1 w1.2 (fun _ => h1 (by omega)) a1 (by rw [if_neg (by decide), if_pos (.inr rfl)]; omega)
    | 3, _, hp, h1, hM, _ =>
      rw [if_neg (by decide), if_neg (by decide)] at hM
      rw [pX_3] at hp
      split at hp
      · rename_i c
        obtain ⟨r, g1, g2⟩ := pbind_inr hp
        have a1 := ih 0 b (e.1, e.2.1, e.2.2 + 1) _ h (by omega) hb g1 hw hs (fun q => by omega) hd (by rw [if_neg (by decide), if_neg (by decide)]; omega)
        have w1 := pX_wf ht F 0 b (e.1, e.2.1, e.2.2 + 1) _ h (by omega) g1 hw hs (fun q => by omega)
        have h0 := h1 (by omega)
        have hs2 : wSt 0 (r.2.1 ++ [(3, kK t e.2.2)]) = some h := by
          rw [wSt_ap, w1.2, if_pos (by decide)]
          show wSt (h + 1) [(3, kK t e.2.2)] = some h
          unfold wSt
          rw [if_pos rfl, if_pos (by omega)]
          rfl
        have hw2 : wC r.1.length (r.2.1 ++ [(3, kK t e.2.2)]) := w1.1.ap (.inr (.inr ⟨rfl, by unfold wSg; show kK t e.2.2 = 42 ∨ _; omega⟩))
        exact ih 3 b (r.1, r.2.1 ++ [(3, kK t e.2.2)], r.2.2) _ h (by omega) hb g2 hw2 hs2 (fun _ => h0) (a1.ap hs2 (by omega)) (by rw [if_neg (by decide), if_neg (by decide)]; omega)
      · cases hp
        exact hd
    | 4, _, hp, h1, hM, _ =>
      rw [if_neg (by decide), if_pos (.inr rfl)] at hM
      rw [pX_4] at hp
      split at hp
      · rename_i c
        obtain ⟨r, g1, g2⟩ := pbind_inr hp
        obtain ⟨s, g3, g4⟩ := pbind_inr g2
        have a1 := ih 0 b (e.1, e.2.1, e.2.2 + 1) _ h (by omega) hb g1 hw hs (fun q => by omega) hd (by rw [if_neg (by decide), if_neg (by decide)]; omega)
        have w1 := pX_wf ht F 0 b (e.1, e.2.1, e.2.2 + 1) _ h (by omega) g1 hw hs (fun q => by omega)
        have a2 := ih 3 b _ _ (h + 1) (by omega) hb g3 w1.1 w1.2 (fun _ => by omega) a1 (by rw [if_neg (by decide), if_neg (by decide)]; omega)
        have w2 := pX_wf ht F 3 b _ _ (h + 1) (by omega) g3 w1.1 w1.2 (fun _ => by omega)
        have h0 := h1 (by omega)
        have hs2 : wSt 0 (s.2.1 ++ [(3, kK t e.2.2)]) = some h := by
          rw [wSt_ap, w2.2, if_neg (by decide)]
          show wSt (h + 1) [(3, kK t e.2.2)] = some h
          unfold wSt
          rw [if_pos rfl, if_pos (by omega)]
          rfl
        have hw2 : wC s.1.length (s.2.1 ++ [(3, kK t e.2.2)]) := w2.1.ap (.inr (.inr ⟨rfl, by unfold wSg; show kK t e.2.2 = 42 ∨ _; omega⟩))
        exact ih 4 b (s.1, s.2.1 ++ [(3, kK t e.2.2)], s.2.2) _ h (by omega) hb g4 hw2 hs2 (fun _ => h0) (a2.ap hs2 (by omega)) (by rw [if_neg (by decide), if_pos (.inr rfl)]; omega)
      · cases hp
        exact hd
theorem dB_0 (M : Nat) : dB M [] := fun k h hh => by
  rw [List.take_nil] at hh
  injection hh with hh
  omega
theorem pX_d12 {t : tStr} (ht : tOk t) {F i : Nat} {V : List (Int × Nat)} {x : pEx} (h : pX t F 1 0 (V, [], i) = .inr x) : dB 12 x.2.1 := pX_dp ht F 1 0 _ x 0 (by decide) (by decide) h (fun y hy => absurd hy (by simp)) rfl (fun q => by omega) (dB_0 12) (by decide)
/-- the EXPRESSIONS of LITERALS -/
def dLs (l : List pLt) : Prop := ∀ y ∈ l, dB 12 y.2.2.2.2.1 ∧ dB 12 y.2.2.2.2.2
theorem pAtom_d {t : tStr} {tell : Bool} {k : Int} {s s' : pRs} (h : pAtom t tell k s = .inr s') (hs : dLs s.2.2.1) : dLs s'.2.2.1 := by
  unfold pAtom at h
  obtain ⟨p, h1, h2⟩ := pbind_inr h
  obtain ⟨j, h3, h4⟩ := pbind_inr h2
  obtain ⟨y, h5, h6⟩ := pbind_inr h4
  obtain ⟨z, h7, h8⟩ := pbind_inr h6
  obtain ⟨u, h9, h10⟩ := pbind_inr h8
  cases h10
  intro m hm
  rcases List.mem_append.mp hm with q | q
  · exact hs m q
  · rw [List.mem_singleton.mp q]; exact ⟨dB_0 12, dB_0 12⟩
theorem pCmp_d {t : tStr} (ht : tOk t) {F : Nat} {s s' : pRs} (h : pCmp t F s = .inr s') (hs : dLs s.2.2.1) : dLs s'.2.2.1 := by
  unfold pCmp at h
  obtain ⟨x, g1, g2⟩ := pbind_inr h
  split at g2
  · obtain ⟨b, g3, g4⟩ := pbind_inr g2
    cases g4
    intro m hm
    rcases List.mem_append.mp hm with q | q
    · exact hs m q
    · rw [List.mem_singleton.mp q]; exact ⟨pX_d12 ht g1, pX_d12 ht g3⟩
  · cases g2
theorem pLit_d {t : tStr} (ht : tOk t) {tell : Bool} {F : Nat} {s s' : pRs} (h : pLit t tell F s = .inr s') (hs : dLs s.2.2.1) : dLs s'.2.2.1 := by
  unfold pLit at h
  split at h
  · cases h
  split at h
  · have q := pAtom_d h
    exact q hs
  split at h
  · split at h
    · cases h
    split at h
    · split at h
      · cases h
      · exact pAtom_d h hs
    split at h
    · cases h
    · exact pCmp_d ht h hs
  · exact pCmp_d ht h hs
theorem pLits_d {t : tStr} (ht : tOk t) {tell : Bool} {F : Nat} : ∀ {k : Nat} {s s' : pRs}, pLits t tell F k s = .inr s' → dLs s.2.2.1 → dLs s'.2.2.1 := by
  intro k
  induction k with
  | zero => intro s s' h hs; cases h; exact hs
  | succ k ih =>
    intro s s' h hs
    unfold pLits at h
    split at h
    · obtain ⟨u, g1, g2⟩ := pbind_inr h
      have q := pLit_d ht g1
      exact ih g2 (q hs)
    · cases h; exact hs
theorem pItem_d {t : tStr} (ht : tOk t) {F : Nat} {s s' : pIt} (h : pItem t F s = .inr s') (hs : ∀ E ∈ s.2.2.1, dB 12 E) : ∀ E ∈ s'.2.2.1, dB 12 E := by
  have add : ∀ {E : pCd}, dB 12 E → ∀ E' ∈ s.2.2.1 ++ [E], dB 12 E' := fun {E} hE E' hE' => by
    rcases List.mem_append.mp hE' with q | q
    · exact hs E' q
    · rw [List.mem_singleton.mp q]; exact hE
  unfold pItem at h
  split at h
  · split at h
    · cases h
    · obtain ⟨i, h1, h2⟩ := pbind_inr h
      split at h2
      · obtain ⟨j, h3, h4⟩ := pbind_inr h2
        cases h4
        exact add (dB_0 12)
      · obtain ⟨r, h3, h4⟩ := pbind_inr h2
        obtain ⟨j, h5, h6⟩ := pbind_inr h4
        cases h6
        exact add (dB_0 12)
  · obtain ⟨e, h1, h2⟩ := pbind_inr h
    cases h2
    exact add (pX_d12 ht h1)
theorem pItems_d {t : tStr} (ht : tOk t) {F : Nat} : ∀ {k : Nat} {s s' : pIt}, pItems t F k s = .inr s' → (∀ E ∈ s.2.2.1, dB 12 E) → ∀ E ∈ s'.2.2.1, dB 12 E := by
  intro k
  induction k with
  | zero => intro s s' h hs; cases h; exact hs
  | succ k ih =>
    intro s s' h hs
    unfold pItems at h
    split at h
    · obtain ⟨u, g1, g2⟩ := pbind_inr h
      have q := pItem_d ht g1
      exact ih g2 (q hs)
    · cases h; exact hs
/-- the EXPRESSIONS of rules -/
def dRs (R : List pRu) : Prop := ∀ u ∈ R, (∀ E ∈ u.2.2.2.1, dB 12 E) ∧ dLs u.2.2.2.2.2
theorem pRule_d {t : tStr} (ht : tOk t) {F : Nat} {s s' : pPg} (h : pRule t F s = .inr s') (hs : dRs s.2.2.2.2.1) : dRs s'.2.2.2.2.1 := by
  unfold pRule at h
  split at h
  · cases h
  obtain ⟨p, h1, h⟩ := pbind_inr h
  obtain ⟨i, h2, h⟩ := pbind_inr h
  obtain ⟨a, h3, h⟩ := pbind_inr h
  obtain ⟨a', h4, h⟩ := pbind_inr h
  obtain ⟨i', h5, h⟩ := pbind_inr h
  obtain ⟨l, h6, h⟩ := pbind_inr h
  obtain ⟨i'', h7, h⟩ := pbind_inr h
  have hi : ∀ E ∈ a'.2.2.1, dB 12 E := pItems_d ht h4 (pItem_d ht h3 (fun E hE => by cases hE))
  have d0 : dLs [] := fun y hy => by cases hy
  have hl : dLs l.2.2.1 := by
    split at h6
    · obtain ⟨u, g1, g2⟩ := pbind_inr h6
      exact pLits_d ht g2 (pLit_d ht g1 d0)
    · cases h6
      exact d0
  cases h
  intro u hu
  rcases List.mem_append.mp hu with q | q
  · exact hs u q
  · rw [List.mem_singleton.mp q]; exact ⟨hi, hl⟩
theorem pProg_d {t : tStr} (ht : tOk t) {F : Nat} : ∀ {k : Nat} {s s' : pPg}, pProg t F k s = .inr s' → dRs s.2.2.2.2.1 → dRs s'.2.2.2.2.1 := by
  intro k
  induction k with
  | zero => intro s s' h; cases h
  | succ k ih =>
    intro s s' h hs
    unfold pProg at h
    split at h
    · cases h; exact hs
    · obtain ⟨u, g1, g2⟩ := pbind_inr h
      refine ih g2 ?_
      split at g1
      · unfold pInput at g1
        obtain ⟨p, h1, g1⟩ := pbind_inr g1
        obtain ⟨i, h2, g1⟩ := pbind_inr g1
        obtain ⟨n, h3, g1⟩ := pbind_inr g1
        obtain ⟨q, h4, g1⟩ := pbind_inr g1
        obtain ⟨i', h5, g1⟩ := pbind_inr g1
        cases g1
        exact hs
      split at g1
      · unfold pOutput at g1
        obtain ⟨p, h1, g1⟩ := pbind_inr g1
        obtain ⟨i, h2, g1⟩ := pbind_inr g1
        cases g1
        exact hs
      · exact pRule_d ht g1 hs
theorem qPr_d {tx : List Int} {s : pPg} (hB : tTx (tBt tx) tx.length) (h : qPr tx = .inr s) : dRs s.2.2.2.2.1 := pProg_d (tOk_of false hB) h (fun u hu => by cases hu)
theorem qQu_d {tx N : List Int} {r : pRs} (hB : tTx (tBt tx) tx.length) (h : qQu tx N = .inr r) : dLs r.2.2.1 := by
  unfold qQu pQuery at h
  obtain ⟨a, h1, h⟩ := pbind_inr h
  obtain ⟨b, h2, h⟩ := pbind_inr h
  obtain ⟨i, h3, h⟩ := pbind_inr h
  have d0 : dLs (([] : List pLt)) := fun y hy => by cases hy
  have k2 := pLits_d (tOk_of false hB) h2 (pLit_d (tOk_of false hB) h1 d0)
  split at h
  · cases h; exact k2
  · cases h
end
section
/-! THE CLASS: reckon() -/
/-- a value, or an ERROR below all values -/
def eVl (o : Option Int) (v : Int) : Prop := match o with
  | some x => v = x ∧ vOk x
  | none => v < -1000000000000
section
variable {f : Nat} {T : xT_}
theorem k_192b {x : Int} : c192_138 f x T = some (if 1000000000000 < x ∨ x < -1000000000000 then -8999999999999999997 else x, T) := by
  unfold c192_138 c192_156 c192_164
  by_cases c : 1000000000000 < x
  · rw [if_pos c, if_pos (.inl c)]
  · rw [if_neg c]
    by_cases d : -1000000000000 ≤ x
    · rw [if_pos d, if_neg (by omega)]
    · rw [if_neg d, if_pos (.inr (by omega))]
theorem eVl_b {x : Int} {op a b : Int} (hx : x = qWv op a b) (h0 : ¬ (2000000000000 ≤ a ∨ 2000000000000 ≤ b ∨ ((op = 47 ∨ op = 37) ∧ b = 0))) : eVl (qWk op a b) (if 1000000000000 < x ∨ x < -1000000000000 then -8999999999999999997 else x) := by
  unfold qWk
  rw [← hx]
  by_cases c : 1000000000000 < x ∨ x < -1000000000000
  · rw [if_pos c, if_pos (.inr (.inr (.inr c)))]
    show (-8999999999999999997 : Int) < -1000000000000
    decide
  · rw [if_neg c, if_neg (fun q => by rcases q with q | q | q | q | q; exact h0 (.inl q); exact h0 (.inr (.inl q)); exact h0 (.inr (.inr q)); exact c (.inl q); exact c (.inr q))]
    exact ⟨rfl, .inl (by omega)⟩
theorem k_192 {op a b : Int} {oa ob : Option Int} (ho : op = 43 ∨ op = 45 ∨ op = 42 ∨ op = 47 ∨ op = 37) (ha : eVl oa a) (hb : eVl ob b) : ∃ v, c192 f op a b T = some (v, T) ∧ eVl (oa.bind fun x => ob.bind fun y => qWk op x y) v := by
  cases oa with
  | none =>
    have ha' : a < -1000000000000 := ha
    refine ⟨a, ?_, ha'⟩
    unfold c192
    rw [if_neg (by omega)]
  | some x =>
    obtain ⟨rfl, hx⟩ : a = x ∧ vOk x := ha
    have ax : -1000000000000 ≤ a := by rcases hx with q | q <;> omega
    cases ob with
    | none =>
      have hb' : b < -1000000000000 := hb
      refine ⟨b, ?_, hb'⟩
      unfold c192
      rw [if_pos ax, if_neg (by omega)]
    | some y =>
      obtain ⟨rfl, hy⟩ : b = y ∧ vOk y := hb
      have bx : -1000000000000 ≤ b := by rcases hy with q | q <;> omega
      show ∃ v, _ ∧ eVl (qWk op a b) v
      by_cases wa : 1000000000000 < a
      · have : 2000000000000 ≤ a := by rcases hx with q | q <;> omega
        refine ⟨_, by unfold c192 c192_36; rw [if_pos ax, if_pos bx, if_pos wa], ?_⟩
        unfold qWk
        rw [if_pos (.inl this)]
        show (-8999999999999999998 : Int) < -1000000000000
        decide
      · by_cases wb' : ¬ b ≤ 1000000000000
        · have : 2000000000000 ≤ b := by rcases hy with q | q <;> omega
          refine ⟨_, by unfold c192 c192_36; rw [if_pos ax, if_pos bx, if_neg wa, if_neg wb'], ?_⟩
          unfold qWk
          rw [if_pos (.inr (.inl this))]
          show (-8999999999999999998 : Int) < -1000000000000
          decide
        have wb : b ≤ 1000000000000 := Decidable.not_not.mp wb'
        rcases ho with rfl | rfl | rfl | rfl | rfl
        · refine ⟨_, by unfold c192; rw [if_pos ax, if_pos bx, if_neg wa, if_pos wb, if_neg (by decide), k_192b, xwl_g _ (by omega) (by omega)], eVl_b (by unfold qWv; rw [if_pos rfl]) (by omega)⟩
        · refine ⟨_, by unfold c192; rw [if_pos ax, if_pos bx, if_neg wa, if_pos wb, if_pos (by decide), if_neg (by decide), k_192b, xwl_g _ (by omega) (by omega)], eVl_b (by unfold qWv; rw [if_neg (by decide), if_pos rfl]) (by omega)⟩
        · have eq : qWv 42 a b = a * b := by unfold qWv; rw [if_neg (by decide), if_neg (by decide), if_pos rfl]
          by_cases za : a = 0
          · refine ⟨_, by unfold c192 c192_103; rw [if_pos ax, if_pos bx, if_neg wa, if_pos wb, if_pos (by decide), if_pos (by decide), if_neg (by decide), if_pos za, k_192b], eVl_b (by rw [eq, za, Int.zero_mul]; rfl) (by omega)⟩
          · have hp : 0 < a.natAbs := by omega
            have e1 : Int.tdiv 1000000000000 (a.natAbs : Int) = ((1000000000000 / a.natAbs : Nat) : Int) := rfl
            have e2 : (b.natAbs : Int) ≤ ((1000000000000 / a.natAbs : Nat) : Int) ↔ ¬ 1000000000000 < (a * b).natAbs := by
              rw [Int.natAbs_mul, Int.ofNat_le, Nat.le_div_iff_mul_le hp, Nat.mul_comm]
              omega
            have base : c192 f 42 a b T = if (b.natAbs : Int) ≤ ((1000000000000 / a.natAbs : Nat) : Int) then c192_103 f a b T else some (-8999999999999999997, T) := by
              unfold c192
              rw [if_pos ax, if_pos bx, if_neg wa, if_pos wb, if_pos (by decide), if_pos (by decide), if_neg (by decide), if_neg za, xabs8_g (by omega) (by omega), xabs8_g (by omega) (by omega), if_neg (by omega), xdiv8_g (by omega) (by omega) (by omega) (by omega), e1]
            by_cases c2 : 1000000000000 < (a * b).natAbs
            · rw [if_neg (fun h => (e2.mp h) c2)] at base
              refine ⟨_, base, ?_⟩
              unfold qWk
              rw [eq, if_pos (.inr (.inr (.inr (by omega))))]
              show (-8999999999999999997 : Int) < -1000000000000
              decide
            · rw [if_pos (e2.mpr c2)] at base
              refine ⟨_, by rw [base]; unfold c192_103; rw [k_192b, xwl_g _ (by omega) (by omega)], eVl_b eq.symm (by omega)⟩
        · by_cases zb : b = 0
          · refine ⟨_, by unfold c192; rw [if_pos ax, if_pos bx, if_neg wa, if_pos wb, if_pos (by decide), if_pos (by decide), if_pos (by decide), if_neg (fun q => q zb)], ?_⟩
            unfold qWk
            rw [if_pos (.inr (.inr (.inl ⟨.inl rfl, zb⟩)))]
            show (-8999999999999999997 : Int) < -1000000000000
            decide
          · refine ⟨_, by unfold c192 c192_136; rw [if_pos ax, if_pos bx, if_neg wa, if_pos wb, if_pos (by decide), if_pos (by decide), if_pos (by decide), if_pos zb, if_neg (by decide), if_neg zb, k_192b, xdiv8_g (by omega) (by omega) (by omega) (by omega)], eVl_b (by unfold qWv; rw [if_neg (by decide), if_neg (by decide), if_neg (by decide), if_pos rfl]) (by omega)⟩
        · by_cases zb : b = 0
          · refine ⟨_, by unfold c192; rw [if_pos ax, if_pos bx, if_neg wa, if_pos wb, if_pos (by decide), if_pos (by decide), if_pos (by decide), if_neg (fun q => q zb)], ?_⟩
            unfold qWk
            rw [if_pos (.inr (.inr (.inl ⟨.inr rfl, zb⟩)))]
            show (-8999999999999999997 : Int) < -1000000000000
            decide
          · refine ⟨_, by unfold c192 c192_136; rw [if_pos ax, if_pos bx, if_neg wa, if_pos wb, if_pos (by decide), if_pos (by decide), if_pos (by decide), if_pos zb, if_pos (by decide), if_neg zb, k_192b, xrem8_g (by omega) (by omega) (by omega) (by omega)], eVl_b (by unfold qWv; rw [if_neg (by decide), if_neg (by decide), if_neg (by decide), if_neg (by decide)]) (by omega)⟩
end
end
section
/-! THE CLASS: worth() of an EXPRESSION -/
def oEs (v : Nat → Int) : pCd → List (Option Int) → List (Option Int)
  | [], st => st
  | x :: q, st => if x.1 = 3 then (match st with
      | b :: a :: st => oEs v q ((a.bind fun a => b.bind fun b => qWk x.2 a b) :: st)
      | _ => []) else oEs v q (some (if x.1 = 1 then x.2 else v x.2.toNat) :: st)
theorem oEs_ev {v : Nat → Int} : ∀ (Q : pCd) (ST : List (Option Int)), wSt ST.length Q = some 1 → (∀ st : List Int, ST = st.map some → oEs v Q ST = [(qEs v Q st).bind List.head?]) ∧ (none ∈ ST → oEs v Q ST = [none])
  | [], ST, h => by
    have hl : ST.length = 1 := by injection h
    obtain ⟨o, rfl⟩ : ∃ o, ST = [o] := by
      match ST, hl with
      | [o], _ => exact ⟨o, rfl⟩
    refine ⟨fun st hst => ?_, fun hn => ?_⟩
    · match st, hst with
      | [x], hst =>
        injection hst with hst _
        rw [hst]; rfl
    · rw [List.mem_singleton] at hn
      rw [← hn]; rfl
  | x :: q, ST, h => by
    rw [wSt_c] at h
    by_cases c : x.1 = 3
    · rw [if_pos c] at h
      by_cases c2 : 2 ≤ ST.length
      · rw [if_pos c2] at h
        match ST, c2, h with
        | b :: a :: T, _, h =>
          have h' : wSt ((a.bind fun a => b.bind fun b => qWk x.2 a b) :: T).length q = some 1 := h
          obtain ⟨i1, i2⟩ := oEs_ev q ((a.bind fun a => b.bind fun b => qWk x.2 a b) :: T) h'
          have e : oEs v (x :: q) (b :: a :: T) = oEs v q ((a.bind fun a => b.bind fun b => qWk x.2 a b) :: T) := by
            show (if x.1 = 3 then _ else _) = _
            rw [if_pos c]
          rw [e]
          refine ⟨fun st hst => ?_, fun hn => ?_⟩
          · match st, hst with
            | b' :: a' :: st', hst =>
              injection hst with hb hst1
              injection hst1 with ha hT
              subst hb ha
              have eq : qEs v (x :: q) (b' :: a' :: st') = (qWk x.2 a' b').bind fun w => qEs v q (w :: st') := by
                show (if x.1 = 3 then _ else _) = _
                rw [if_pos c]
              rw [eq]
              show oEs v q (qWk x.2 a' b' :: T) = _
              cases hw : qWk x.2 a' b' with
              | none =>
                have := i2 (by show none ∈ (qWk x.2 a' b') :: T; rw [hw]; exact List.mem_cons_self)
                have this' : oEs v q (qWk x.2 a' b' :: T) = [none] := this
                rw [hw] at this'
                exact this'
              | some w =>
                have := i1 (w :: st') (by show (qWk x.2 a' b') :: T = _; rw [hw, hT]; rfl)
                have this' : oEs v q (qWk x.2 a' b' :: T) = [(qEs v q (w :: st')).bind List.head?] := this
                rw [hw] at this'
                exact this'
          · refine i2 ?_
            rcases List.mem_cons.mp hn with q1 | q1
            · subst q1
              have : (a.bind fun a => (none : Option Int).bind fun b => qWk x.2 a b) = none := by cases a <;> rfl
              rw [this]; exact List.mem_cons_self
            · rcases List.mem_cons.mp q1 with q2 | q2
              · subst q2
                exact List.mem_cons_self
              · exact List.mem_cons_of_mem _ q2
      · rw [if_neg c2] at h; cases h
    · rw [if_neg c] at h
      have h' : wSt (some (if x.1 = 1 then x.2 else v x.2.toNat) :: ST).length q = some 1 := h
      obtain ⟨i1, i2⟩ := oEs_ev q (some (if x.1 = 1 then x.2 else v x.2.toNat) :: ST) h'
      have e : oEs v (x :: q) ST = oEs v q (some (if x.1 = 1 then x.2 else v x.2.toNat) :: ST) := by
        show (if x.1 = 3 then _ else _) = _
        rw [if_neg c]
      rw [e]
      refine ⟨fun st hst => ?_, fun hn => i2 (List.mem_cons_of_mem _ hn)⟩
      have eq : qEs v (x :: q) st = qEs v q ((if x.1 = 1 then x.2 else v x.2.toNat) :: st) := by
        show (if x.1 = 3 then _ else _) = _
        rw [if_neg c]
      rw [eq]
      exact i1 ((if x.1 = 1 then x.2 else v x.2.toNat) :: st) (by rw [hst]; rfl)
section
variable {f u s i h kl : Nat} {S : Nat → Nat × Nat × Nat} {G : xG_} {m : Nat × Nat} {r : Nat → Int → Int → Int → xT_ → Option (Int × xT_)} {op ar v : Int}
/-- the ways of the class, and the rule that they are of -/
def cWy (S : Nat → Nat × Nat × Nat) (G : xG_) (u : Nat) (K : pCd) : Prop := cSs S ∧ cPs G ∧ G 83 3 = (u : Int) ∧ 278 < u ∧ cRuS S u ∧ cRuP G u ∧ cKo S G u K ∧ K.length ≤ 3000
theorem st_141z {b : Int} (hs : cSs S) (hp : cPs G) (h3 : G 83 3 = (u : Int)) (hu : 278 < u) (us : S u = (1, 6, 20)) (us8 : S (u + 8) = (2, 3, 20)) (w15 : G u 15 = ((u + 8 : Nat) : Int)) (hsl : s < 20) (ht : G (u + 8) s = (i : Int)) (hv : G 92 0 = v) : c141_12b r f 83 (s : Int) b (i : Int) (S, G, m) = some (v, (S, G, m)) := by
  unfold c141_12b
  simp (disch := omega) only [cq_gi, cq_gr, cq_a, cq_s, cq_p, cq_pr, cq_is, cq_ar, cq_ab, cq_ln, xq_nz, Option.bind_some, xup2_n, xup2_s, Int.toNat_natCast, Int.reduceToNat, if_pos, if_neg, true_and, and_true, and_self, eq_self, if_true, reduceIte, not_true_eq_false, not_false_eq_true, or_true, true_or, s83 hs, s92 hs, p83_13 hp, h3, us, us8, w15, ht, hv]
theorem st_141v {e : Nat} (hs : cSs S) (hp : cPs G) (h3 : G 83 3 = (u : Int)) (hu : 278 < u) (us : S u = (1, 6, 20)) (us8 : S (u + 8) = (2, 3, 20)) (us11 : S (u + 11) = (2, 3, kl)) (us12 : S (u + 12) = (2, 4, kl)) (w15 : G u 15 = ((u + 8 : Nat) : Int)) (w16 : G u 16 = ((u + 11 : Nat) : Int)) (w17 : G u 17 = ((u + 12 : Nat) : Int)) (hsl : s < 20) (ht : G (u + 8) s = (e : Int)) (hi : i < e) (hik : i < kl) (ho : G (u + 11) i = 1) (ha : G (u + 12) i = ar) (hh : h < 32) (eh : xwr ((h : Int) + 1) = ((h + 1 : Nat) : Int)) (ei : xwr ((i : Int) + 1) = ((i + 1 : Nat) : Int)) : c141_12b r f 83 (s : Int) (h : Int) (i : Int) (S, G, m) = r 83 (s : Int) ((h + 1 : Nat) : Int) ((i + 1 : Nat) : Int) (S, xup2 G 92 h ar, m) := by
  unfold c141_12b c141_48 c141_92 c141_134
  simp (disch := omega) only [cq_gi, cq_gr, cq_a, cq_s, cq_p, cq_pr, cq_is, cq_ar, cq_ab, cq_ln, xq_nz, Option.bind_some, xup2_n, xup2_s, Int.toNat_natCast, Int.reduceToNat, if_pos, if_neg, true_and, and_true, and_self, eq_self, if_true, reduceIte, not_true_eq_false, not_false_eq_true, or_true, true_or, s83 hs, s92 hs, p83_13 hp, h3, us, us8, us11, us12, w15, w16, w17, ht, ho, ha, eh, ei]
theorem st_141x {e x : Nat} (hs : cSs S) (hp : cPs G) (h3 : G 83 3 = (u : Int)) (hu : 278 < u) (us : S u = (1, 6, 20)) (us8 : S (u + 8) = (2, 3, 20)) (us11 : S (u + 11) = (2, 3, kl)) (us12 : S (u + 12) = (2, 4, kl)) (w15 : G u 15 = ((u + 8 : Nat) : Int)) (w16 : G u 16 = ((u + 11 : Nat) : Int)) (w17 : G u 17 = ((u + 12 : Nat) : Int)) (hsl : s < 20) (ht : G (u + 8) s = (e : Int)) (hi : i < e) (hik : i < kl) (ho : G (u + 11) i = 2) (ha : G (u + 12) i = (x : Int)) (hx : x < 8) (ex : xwr (x : Int) = (x : Int)) (hv : G 84 x = v) (hh : h < 32) (eh : xwr ((h : Int) + 1) = ((h + 1 : Nat) : Int)) (ei : xwr ((i : Int) + 1) = ((i + 1 : Nat) : Int)) : c141_12b r f 83 (s : Int) (h : Int) (i : Int) (S, G, m) = r 83 (s : Int) ((h + 1 : Nat) : Int) ((i + 1 : Nat) : Int) (S, xup2 G 92 h v, m) := by
  unfold c141_12b c141_48 c141_92 c141_134
  simp (disch := omega) only [cq_gi, cq_gr, cq_a, cq_s, cq_p, cq_pr, cq_is, cq_ar, cq_ab, cq_ln, xq_nz, Option.bind_some, xup2_n, xup2_s, Int.toNat_natCast, Int.reduceToNat, if_pos, if_neg, true_and, and_true, and_self, eq_self, if_true, reduceIte, not_true_eq_false, not_false_eq_true, or_true, true_or, s83 hs, s84 hs, s92 hs, p83_0 hp, p83_13 hp, h3, us, us8, us11, us12, w15, w16, w17, ht, ho, ha, ex, hv, eh, ei]
theorem st_141o {e : Nat} {a b w : Int} (hs : cSs S) (hp : cPs G) (h3 : G 83 3 = (u : Int)) (hu : 278 < u) (us : S u = (1, 6, 20)) (us8 : S (u + 8) = (2, 3, 20)) (us11 : S (u + 11) = (2, 3, kl)) (w15 : G u 15 = ((u + 8 : Nat) : Int)) (w16 : G u 16 = ((u + 11 : Nat) : Int)) (hsl : s < 20) (ht : G (u + 8) s = (e : Int)) (hi : i < e) (hik : i < kl) (ho : G (u + 11) i = op) (o1 : op ≠ 1) (o2 : op ≠ 2) (hh : h + 2 ≤ 32) (ha : G 92 h = a) (hb : G 92 (h + 1) = b) (ec : c192 f op a b (S, G, m) = some (w, (S, G, m))) (e1 : xwr (((h + 2 : Nat) : Int) + (-1)) = ((h + 1 : Nat) : Int)) (e2 : xwr (((h + 1 : Nat) : Int) - 1) = (h : Int)) (ei : xwr ((i : Int) + 1) = ((i + 1 : Nat) : Int)) : c141_12b r f 83 (s : Int) ((h + 2 : Nat) : Int) (i : Int) (S, G, m) = r 83 (s : Int) ((h + 1 : Nat) : Int) ((i + 1 : Nat) : Int) (S, xup2 G 92 h w, m) := by
  unfold c141_12b c141_134
  simp (disch := omega) only [cq_gi, cq_gr, cq_a, cq_s, cq_p, cq_pr, cq_is, cq_ar, cq_ab, cq_ln, xq_nz, Option.bind_some, xup2_n, xup2_s, Int.toNat_natCast, Int.reduceToNat, if_pos, if_neg, true_and, and_true, and_self, eq_self, if_true, reduceIte, not_true_eq_false, not_false_eq_true, or_true, true_or, s83 hs, s92 hs, p83_13 hp, h3, us, us8, us11, w15, w16, ht, ho, o1, o2, ha, hb, ec, e1, e2, ei]
end
end
section
/-! THE CLASS: worth() whole -/
theorem qVm_m {x : Int × Int} {xn : Nat} : ∀ {E : pCd}, x ∈ E → x.1 = 2 → x.2.toNat = xn → (qVm E).testBit xn = true
  | y :: E, hm, h1, h2 => by
    show ((if y.1 = 2 then 2 ^ y.2.toNat else 0) ||| qVm E).testBit xn = true
    rw [Nat.testBit_or]
    rcases List.mem_cons.mp hm with q | q
    · rw [← q, if_pos h1, h2, Nat.testBit_two_pow_self]; rfl
    · rw [qVm_m q h1 h2, Bool.or_true]
section
variable {f u s nv : Nat} {S : Nat → Nat × Nat × Nat} {G G' : xG_} {m : Nat × Nat} {K A C E : pCd} {vl : Nat → Int}
/-- the stack of the class -/
def cOk (G : xG_) (ST : List (Option Int)) : Prop := ∀ k, k < ST.length → eVl (ST.getD k none) (G 92 (ST.length - 1 - k))
theorem cOk.put {ST : List (Option Int)} {o : Option Int} {v : Int} (h : cOk G ST) (hv : eVl o v) : cOk (xup2 G 92 ST.length v) (o :: ST) := by
  intro k hk
  rw [List.length_cons] at hk ⊢
  cases k with
  | zero =>
    rw [show ST.length + 1 - 1 - 0 = ST.length by omega, xup2_s]
    exact hv
  | succ k =>
    rw [show ST.length + 1 - 1 - (k + 1) = ST.length - 1 - k by omega, xup2_n (by omega)]
    exact h k (by omega)
theorem cOk.two {T : List (Option Int)} {a b o : Option Int} {v : Int} (h : cOk G (b :: a :: T)) (hv : eVl o v) : cOk (xup2 G 92 T.length v) (o :: T) := by
  intro k hk
  rw [List.length_cons] at hk ⊢
  cases k with
  | zero =>
    rw [show T.length + 1 - 1 - 0 = T.length by omega, xup2_s]
    exact hv
  | succ k =>
    rw [show T.length + 1 - 1 - (k + 1) = T.length - 1 - k by omega, xup2_n (by omega)]
    have := h (k + 2) (by rw [List.length_cons, List.length_cons]; omega)
    rw [List.length_cons, List.length_cons, show T.length + 1 + 1 - 1 - (k + 2) = T.length - 1 - k by omega] at this
    exact this
theorem cWy.ge (h : cWy S G u K) (hf : ∀ a j, a ≠ 84 → a ≠ 87 → a ≠ 88 → a ≠ 89 → a ≠ 90 → a ≠ 91 → a ≠ 92 → ¬ (a = 83 ∧ (j = 6 ∨ j = 7)) → G' a j = G a j) : cWy S G' u K := by
  obtain ⟨a1, a2, a3, a4, a5, a6, ⟨b1, b2, b3, b4, b5⟩, a8⟩ := h
  have z : ∀ a j, u ≤ a → G' a j = G a j := fun a j ha => hf a j (by omega) (by omega) (by omega) (by omega) (by omega) (by omega) (by omega) (by omega)
  refine ⟨a1, a2.ge (fun a j hz => hf a j ?_ ?_ ?_ ?_ ?_ ?_ ?_ ?_), by rw [hf _ _ (by omega) (by omega) (by omega) (by omega) (by omega) (by omega) (by omega) (by omega)]; exact a3, a4, a5, ?_, ⟨by rw [z _ _ (by omega)]; exact b1, by rw [z _ _ (by omega)]; exact b2, b3, b4, fun k hk => by rw [z _ _ (by omega), z _ _ (by omega)]; exact b5 k hk⟩, a8⟩
  any_goals (rcases hz with z | z | z | z | z | z | z | ⟨z, z1, z2, k, z3⟩ | z | z | z | ⟨k, z1, z2, z3⟩ <;> omega)
  unfold cRuP at a6 ⊢
  simp only [z _ _ (Nat.le_refl _)]
  exact a6
/-- values of VARIABLES, as far as a mask tells -/
def cVl (G : xG_) (b : Nat) (vl : Nat → Int) : Prop := ∀ k, b.testBit k = true → k < 8 ∧ G 84 k = vl k ∧ vOk (vl k)
theorem cVl.ge {b : Nat} (h : cVl G b vl) (hf : ∀ k, G' 84 k = G 84 k) : cVl G' b vl := fun k hk => by rw [hf]; exact h k hk
theorem k_141l (hf : 3010 < f) (hs20 : s < 20) (hK : K = A ++ E.map cOp ++ C) (hwc : wC nv E) (hdb : dB 12 E) : ∀ (q : pCd) (j fu : Nat) (ST : List (Option Int)) (G : xG_), E.drop j = q → j ≤ E.length → q.length < fu → wSt 0 (E.take j) = some ST.length → wSt ST.length q = some 1 → cWy S G u K → G (u + 8) s = ((A.length + E.length : Nat) : Int) → cVl G (qVm E) vl → cOk G ST → ∃ v G' o, c141_12 f fu 83 (s : Int) (ST.length : Int) ((A.length + j : Nat) : Int) (S, G, m) = some (v, (S, G', m)) ∧ (∀ a k, a ≠ 92 → G' a k = G a k) ∧ oEs vl q ST = [o] ∧ eVl o v := by
  have hl := K_len hK
  intro q
  induction q with
  | nil =>
    intro j fu ST G e1 e2 e3 e4 e5 hW h8 hV hO
    obtain ⟨fu, rfl⟩ : ∃ t, fu = t + 1 := ⟨fu - 1, by omega⟩
    obtain ⟨a1, a2, a3, a4, a5, a6, a7, a8⟩ := hW
    have hj : j = E.length := by
      have := congrArg List.length e1
      rw [List.length_drop] at this
      simp at this
      omega
    subst hj
    have hl1 : ST.length = 1 := by injection e5
    obtain ⟨o, rfl⟩ : ∃ o, ST = [o] := by
      match ST, hl1 with
      | [o], _ => exact ⟨o, rfl⟩
    refine ⟨G 92 0, G, o, st_141z (r := c141_12 f fu) a1 a2 a3 a4 a5.1 a5.2.2.2.2.2.2.2.2.1 a6.2.2.2.2.2.2.2.1 hs20 h8 rfl, fun _ _ _ => rfl, rfl, ?_⟩
    exact hO 0 (Nat.lt_succ_self 0)
  | cons x q ih =>
    intro j fu ST G e1 e2 e3 e4 e5 hW h8 hV hO
    obtain ⟨fu, rfl⟩ : ∃ t, fu = t + 1 := ⟨fu - 1, by omega⟩
    obtain ⟨a1, a2, a3, a4, a5, a6, ⟨b1, b2, b3, b4, b5⟩, a8⟩ := id hW
    have hj : j < E.length := by
      have := congrArg List.length e1
      rw [List.length_drop, List.length_cons] at this
      omega
    have hx : E.getD j (0, 0) = x := by
      have : E.drop j = E[j] :: E.drop (j + 1) := List.drop_eq_getElem_cons hj
      rw [this] at e1
      injection e1 with e1 _
      rw [getD_e hj]; exact e1
    have e1' : E.drop (j + 1) = q := by
      have : E.drop j = E[j] :: E.drop (j + 1) := List.drop_eq_getElem_cons hj
      rw [this] at e1
      injection e1
    have hm : x ∈ E := by rw [← hx, getD_e hj]; exact List.getElem_mem hj
    have hw1 := hwc x hm
    have et : E.take (j + 1) = E.take j ++ [x] := by
      rw [List.take_add_one, List.getElem?_eq_getElem hj, ← getD_e (d := (0, 0)) hj, hx]
      rfl
    have hkj := K_get hK hj
    rw [hx] at hkj
    obtain ⟨k1, k2⟩ := b5 (A.length + j) (by omega)
    rw [hkj] at k1 k2
    have hN := a8
    have ei : xwr (((A.length + j : Nat) : Int) + 1) = ((A.length + j + 1 : Nat) : Int) := by rw [xwr_g _ (by omega) (by omega)]; omega
    have h4 : wSt 0 (E.take (j + 1)) = wSt ST.length [x] := by rw [et, wSt_ap, e4]; rfl
    rw [wSt_c] at e5 h4
    rw [e3 |> fun _ => show A.length + j + 1 = A.length + (j + 1) by omega] at ei
    by_cases c : x.1 = 3
    · rw [if_pos c] at e5 h4
      by_cases c2 : 2 ≤ ST.length
      · rw [if_pos c2] at e5 h4
        match ST, c2, e4, e5, h4, hO with
        | b :: a :: T, _, e4, e5, h4, hO =>
          have h12 : T.length + 2 ≤ 12 := hdb j _ e4
          have co : cOp x = (x.2, 0) := by unfold cOp; rw [if_pos c]
          rw [co] at k1
          have hsg : wSg x.2 := by
            rcases hw1 with q1 | q1 | q1
            · omega
            · omega
            · exact q1.2
          have ho := hsg
          unfold wSg at ho
          have va := hO 1 (by rw [List.length_cons, List.length_cons]; omega)
          have vb := hO 0 (by rw [List.length_cons]; omega)
          rw [List.length_cons, List.length_cons, show T.length + 1 + 1 - 1 - 1 = T.length by omega] at va
          rw [List.length_cons, List.length_cons, show T.length + 1 + 1 - 1 - 0 = T.length + 1 by omega] at vb
          obtain ⟨w, w1, w2⟩ := k_192 (f := f) (T := (S, G, m)) (op := x.2) (oa := a) (ob := b) (by omega) va vb
          have st : c141_12 f (fu + 1) 83 (s : Int) ((T.length + 2 : Nat) : Int) ((A.length + j : Nat) : Int) (S, G, m) = _ := st_141o (r := c141_12 f fu) a1 a2 a3 a4 a5.1 a5.2.2.2.2.2.2.2.2.1 b3 a6.2.2.2.2.2.2.2.1 b1 hs20 h8 (by omega) (by omega) k1 (by omega) (by omega) (by omega) rfl rfl w1 (by rw [xwr_g _ (by omega) (by omega)]; omega) (by rw [xwr_g _ (by omega) (by omega)]; omega) ei
          have z : ∀ a k, a ≠ 92 → xup2 G 92 T.length w a k = G a k := fun a k y => xup2_n (by omega)
          obtain ⟨v, G2, o, g1, g2, g3, g4⟩ := ih (j + 1) fu ((a.bind fun a => b.bind fun b => qWk x.2 a b) :: T) (xup2 G 92 T.length w) e1' (by omega) (by rw [List.length_cons] at e3; omega) (by rw [h4]; rfl) e5 (hW.ge (fun a k _ _ _ _ _ _ y _ => z a k y)) (by rw [z _ _ (by omega)]; exact h8) (hV.ge (fun k => z _ _ (by omega))) (hO.two w2)
          refine ⟨v, G2, o, st.trans g1, fun a k y => by rw [g2 a k y, z a k y], ?_, g4⟩
          show (if x.1 = 3 then _ else _) = _
          rw [if_pos c]
          exact g3
      · rw [if_neg c2] at e5; cases e5
    · rw [if_neg c] at e5 h4
      have h12 : ST.length + 1 ≤ 12 := hdb (j + 1) _ h4
      have co : cOp x = x := by unfold cOp; rw [if_neg c]
      rw [co] at k1 k2
      have eh : xwr ((ST.length : Int) + 1) = ((ST.length + 1 : Nat) : Int) := by rw [xwr_g _ (by omega) (by omega)]; omega
      have fin : ∀ v : Int, eVl (some (if x.1 = 1 then x.2 else vl x.2.toNat)) v → c141_12 f (fu + 1) 83 (s : Int) (ST.length : Int) ((A.length + j : Nat) : Int) (S, G, m) = c141_12 f fu 83 (s : Int) ((ST.length + 1 : Nat) : Int) ((A.length + (j + 1) : Nat) : Int) (S, xup2 G 92 ST.length v, m) → ∃ v G' o, c141_12 f (fu + 1) 83 (s : Int) (ST.length : Int) ((A.length + j : Nat) : Int) (S, G, m) = some (v, (S, G', m)) ∧ (∀ a k, a ≠ 92 → G' a k = G a k) ∧ oEs vl (x :: q) ST = [o] ∧ eVl o v := fun v0 hv0 st => by
        have z : ∀ a k, a ≠ 92 → xup2 G 92 ST.length v0 a k = G a k := fun a k y => xup2_n (by omega)
        obtain ⟨v, G2, o, g1, g2, g3, g4⟩ := ih (j + 1) fu (some (if x.1 = 1 then x.2 else vl x.2.toNat) :: ST) (xup2 G 92 ST.length v0) e1' (by omega) (by rw [List.length_cons] at e3; omega) (by rw [h4]; rfl) e5 (hW.ge (fun a k _ _ _ _ _ _ y _ => z a k y)) (by rw [z _ _ (by omega)]; exact h8) (hV.ge (fun k => z _ _ (by omega))) (hO.put hv0)
        refine ⟨v, G2, o, st.trans g1, fun a k y => by rw [g2 a k y, z a k y], ?_, g4⟩
        show (if x.1 = 3 then _ else _) = _
        rw [if_neg c]
        exact g3
      rcases hw1 with q1 | q1 | q1
      · rw [q1.1] at k1
        refine fin x.2 ?_ (st_141v (r := c141_12 f fu) a1 a2 a3 a4 a5.1 a5.2.2.2.2.2.2.2.2.1 b3 b4 a6.2.2.2.2.2.2.2.1 b1 b2 hs20 h8 (by omega) (by omega) k1 k2 (by omega) eh ei)
        rw [if_pos q1.1]
        exact ⟨rfl, q1.2⟩
      · rw [q1.1] at k1
        obtain ⟨xn, hxn⟩ : ∃ xn : Nat, x.2 = (xn : Int) := ⟨x.2.toNat, by have := q1.2.1; omega⟩
        have hbit : (qVm E).testBit xn = true := by
          exact qVm_m hm q1.1 (by rw [hxn]; rfl)
        obtain ⟨v1, v2, v3⟩ := hV xn hbit
        rw [hxn] at k2
        refine fin (vl xn) ?_ (st_141x (r := c141_12 f fu) a1 a2 a3 a4 a5.1 a5.2.2.2.2.2.2.2.2.1 b3 b4 a6.2.2.2.2.2.2.2.1 b1 b2 hs20 h8 (by omega) (by omega) k1 k2 v1 (xwr_g _ (by omega) (by omega)) v2 (by omega) eh ei)
        rw [if_neg (by omega), hxn]
        exact ⟨rfl, v3⟩
      · exact absurd q1.1 c
theorem st_141 {a : Nat} (hs : cSs S) (h3 : G 83 3 = (u : Int)) (hu : 278 < u) (us : S u = (1, 6, 20)) (us7 : S (u + 7) = (2, 3, 20)) (w14 : G u 14 = ((u + 7 : Nat) : Int)) (hsl : s < 20) (h7 : G (u + 7) s = (a : Int)) : c141 f 83 (s : Int) (S, G, m) = c141_12 f f 83 (s : Int) 0 (a : Int) (S, G, m) := by
  unfold c141
  simp (disch := omega) only [cq_gi, cq_gr, cq_a, cq_s, cq_p, cq_pr, cq_is, cq_ar, cq_ab, cq_ln, xq_nz, Option.bind_some, xup2_n, xup2_s, Int.toNat_natCast, Int.reduceToNat, if_pos, if_neg, true_and, and_true, and_self, eq_self, if_true, reduceIte, not_true_eq_false, not_false_eq_true, or_true, true_or, s83 hs, h3, us, us7, w14, h7]
/-- worth() -/
theorem k_141w (hf : 3010 < f) (hs20 : s < 20) (hW : cWy S G u K) (hg : cSg G u K s E) (hw : wEx nv E) (hdb : dB 12 E) (hV : cVl G (qVm E) vl) : ∃ v G', c141 f 83 (s : Int) (S, G, m) = some (v, (S, G', m)) ∧ (∀ a k, a ≠ 92 → G' a k = G a k) ∧ eVl (qEv vl E) v := by
  obtain ⟨A, C, hK, h7, h8⟩ := hg
  have hl := K_len hK
  have hN := hW.2.2.2.2.2.2.2
  obtain ⟨v, G', o, g1, g2, g3, g4⟩ := k_141l (f := f) (m := m) (vl := vl) hf hs20 hK hw.1 hdb E 0 f [] G (List.drop_zero) (Nat.zero_le _) (by omega) (by rw [List.take_zero]; rfl) hw.2 hW h8 hV (fun k hk => absurd hk (Nat.not_lt_zero k))
  have e := (oEs_ev (v := vl) E [] hw.2).1 [] rfl
  rw [e] at g3
  injection g3 with g3 _
  refine ⟨v, G', (st_141 hW.1 hW.2.2.1 hW.2.2.2.1 hW.2.2.2.2.1.1 hW.2.2.2.2.1.2.2.2.2.2.2.2.1 hW.2.2.2.2.2.1.2.2.2.2.2.2.1 hs20 h7).trans g1, g2, ?_⟩
  unfold qEv
  rw [g3]
  exact g4
end
end
section
/-! THE CLASS: headRow() -/
section
variable {f u a n c kz nv : Nat} {S : Nat → Nat × Nat × Nat} {G G' : xG_} {m : Nat × Nat} {K : pCd} {I : List pCd} {g : Int × Int × Int} {vl : Nat → Int} {gt v : Int} {r : Nat → Nat → Int → xT_ → Option (Int × xT_)}
theorem st_142z (hs : cSs S) (h3 : G 83 3 = (u : Int)) (hu : 278 < u) (us : S u = (1, 6, 20)) (h2 : G u 2 = (n : Int)) : c142_2b r f 83 a (n : Int) (S, G, m) = some (1, (S, G, m)) := by
  unfold c142_2b
  simp (disch := omega) only [cq_gi, cq_gr, cq_a, cq_s, cq_p, cq_pr, cq_is, cq_ar, cq_ab, cq_ln, xq_nz, Option.bind_some, xup2_n, xup2_s, Int.toNat_natCast, Int.reduceToNat, if_pos, if_neg, true_and, and_true, and_self, eq_self, if_true, reduceIte, not_true_eq_false, not_false_eq_true, or_true, true_or, s83 hs, h3, us, h2]
theorem st_142g (hs : cSs S) (h3 : G 83 3 = (u : Int)) (hu : 278 < u) (us : S u = (1, 6, 20)) (h2 : G u 2 = (n : Int)) (hg : G u 3 = gt) (hc : c < n) (e : (c : Int) = gt) (as : S a = (2, 4, kz)) (hck : c < kz) : c142_2b r f 83 a (c : Int) (S, G, m) = r 83 a (xwr ((c : Int) + 1)) (S, xup2 G a c 0, m) := by
  unfold c142_2b c142_35
  simp (disch := omega) only [cq_gi, cq_gr, cq_a, cq_s, cq_p, cq_pr, cq_is, cq_ar, cq_ab, cq_ln, xq_nz, Option.bind_some, xup2_n, xup2_s, Int.toNat_natCast, Int.reduceToNat, if_pos, if_neg, true_and, and_true, and_self, eq_self, if_true, reduceIte, not_true_eq_false, not_false_eq_true, or_true, true_or, s83 hs, h3, us, h2, hg, e.symm, as]
theorem st_142w (hs : cSs S) (h3 : G 83 3 = (u : Int)) (hu : 278 < u) (us : S u = (1, 6, 20)) (h2 : G u 2 = (n : Int)) (hg : G u 3 = gt) (hc : c < n) (e : ¬ (c : Int) = gt) (as : S a = (2, 4, kz)) (hck : c < kz) (ew : c141 f 83 (c : Int) (S, G, m) = some (v, (S, G', m))) : c142_2b r f 83 a (c : Int) (S, G, m) = if -1000000000000 ≤ v then r 83 a (xwr ((c : Int) + 1)) (S, xup2 G' a c v, m) else some (0, (S, xup2 G' a c v, m)) := by
  by_cases q : -1000000000000 ≤ v
  · rw [if_pos q]
    unfold c142_2b c142_35
    simp (disch := omega) only [cq_gi, cq_gr, cq_a, cq_s, cq_p, cq_pr, cq_is, cq_ar, cq_ab, cq_ln, xq_nz, Option.bind_some, xup2_n, xup2_s, Int.toNat_natCast, Int.reduceToNat, if_pos, if_neg, true_and, and_true, and_self, eq_self, if_true, reduceIte, not_true_eq_false, not_false_eq_true, or_true, true_or, s83 hs, h3, us, h2, hg, e, as, ew, q]
  · rw [if_neg q]
    unfold c142_2b c142_35
    simp (disch := omega) only [cq_gi, cq_gr, cq_a, cq_s, cq_p, cq_pr, cq_is, cq_ar, cq_ab, cq_ln, xq_nz, Option.bind_some, xup2_n, xup2_s, Int.toNat_natCast, Int.reduceToNat, if_pos, if_neg, true_and, and_true, and_self, eq_self, if_true, reduceIte, not_true_eq_false, not_false_eq_true, or_true, true_or, s83 hs, h3, us, h2, hg, e, as, ew, q]
/-- the HEAD's row: ITEMS that have a value -/
def wIe (nv : Nat) (I : List pCd) (gt : Int) : Prop := ∀ c, c < I.length → (c : Int) ≠ gt → wEx nv (I.getD c []) ∧ dB 12 (I.getD c [])
theorem cWy.row {v : Int} (h : cWy S G u K) : cWy S (xup2 G 103 c v) u K := by
  obtain ⟨a1, a2, a3, a4, a5, a6, ⟨b1, b2, b3, b4, b5⟩, a8⟩ := h
  have z : ∀ a j, a ≠ 103 → xup2 G 103 c v a j = G a j := fun a j ha => xup2_n (by omega)
  refine ⟨a1, a2.ge (fun a j hz => z a j ?_), by rw [z _ _ (by omega)]; exact a3, a4, a5, ?_, ⟨by rw [z _ _ (by omega)]; exact b1, by rw [z _ _ (by omega)]; exact b2, b3, b4, fun k hk => by rw [z _ _ (by omega), z _ _ (by omega)]; exact b5 k hk⟩, a8⟩
  · rcases hz with z | z | z | z | z | z | z | ⟨z, z1, z2, k, z3⟩ | z | z | z | ⟨k, z1, z2, z3⟩ <;> omega
  · unfold cRuP at a6 ⊢
    simp only [z u _ (by omega)]
    exact a6
theorem cIt.fx (h : cIt G u K g I) (hu : 278 < u) (hf : ∀ a j, 278 < a → G' a j = G a j) : cIt G' u K g I := by
  refine h.rule (fun k _ _ => hf _ _ hu) (fun a k _ _ => hf _ _ (by omega))
theorem k_142 (hf : 3010 < f) (hnI : I.length ≤ 4) (hwI : wIe nv I gt) : ∀ (d c fu : Nat) (G : xG_) (xs : List Int), c + d = I.length → d < fu → cWy S G u K → cIt G u K g I → G u 3 = gt → (∀ c, c < I.length → (c : Int) ≠ gt → cVl G (qVm (I.getD c [])) vl) → qMk I gt vl c = some xs → (∀ k, k < c → G 103 k = xs.getD k 0) → ∃ b G', c142_2 f fu 83 103 (c : Int) (S, G, m) = some (b, (S, G', m)) ∧ (∀ a k, a ≠ 92 → a ≠ 103 → G' a k = G a k) ∧ ((b = 1 ∧ ∃ ys, qMk I gt vl I.length = some ys ∧ ∀ k, k < I.length → G' 103 k = ys.getD k 0) ∨ (b = 0 ∧ qMk I gt vl I.length = none)) := by
  have nn : ∀ (d c : Nat), c + d = I.length → qMk I gt vl c = none → qMk I gt vl I.length = none := by
    intro d
    induction d with
    | zero => intro c h1 h2; rw [← h1]; exact h2
    | succ d ih =>
      intro c h1 h2
      refine ih (c + 1) (by omega) ?_
      show (qMk I gt vl c).bind _ = none
      rw [h2]; rfl
  intro d
  induction d with
  | zero =>
    intro c fu G xs e1 e2 hW hI hg hV hm hx
    obtain ⟨fu, rfl⟩ : ∃ t, fu = t + 1 := ⟨fu - 1, by omega⟩
    have hc : c = I.length := by omega
    subst hc
    exact ⟨1, G, st_142z (r := c142_2 f fu) hW.1 hW.2.2.1 hW.2.2.2.1 hW.2.2.2.2.1.1 hI.1, fun _ _ _ _ => rfl, .inl ⟨rfl, xs, hm, hx⟩⟩
  | succ d ih =>
    intro c fu G xs e1 e2 hW hI hg hV hm hx
    obtain ⟨fu, rfl⟩ : ∃ t, fu = t + 1 := ⟨fu - 1, by omega⟩
    have hc : c < I.length := by omega
    have ek : xwr ((c : Int) + 1) = ((c + 1 : Nat) : Int) := by rw [xwr_g _ (by omega) (by omega)]; omega
    have hu := hW.2.2.2.1
    have lx := qMk_len c xs hm
    have next : ∀ (G1 : xG_) (v : Int), (∀ a k, a ≠ 92 → G1 a k = G a k) → qMk I gt vl (c + 1) = some (xs ++ [v]) → cWy S G1 u K → ∃ b G', c142_2 f fu 83 103 ((c + 1 : Nat) : Int) (S, xup2 G1 103 c v, m) = some (b, (S, G', m)) ∧ (∀ a k, a ≠ 92 → a ≠ 103 → G' a k = G a k) ∧ ((b = 1 ∧ ∃ ys, qMk I gt vl I.length = some ys ∧ ∀ k, k < I.length → G' 103 k = ys.getD k 0) ∨ (b = 0 ∧ qMk I gt vl I.length = none)) := fun G1 v z1 hq hW1 => by
      have z2 : ∀ a k, a ≠ 92 → a ≠ 103 → xup2 G1 103 c v a k = G a k := fun a k y1 y2 => by rw [xup2_n (by omega), z1 a k y1]
      obtain ⟨b, G2, g1, g2, g3⟩ := ih (c + 1) fu (xup2 G1 103 c v) (xs ++ [v]) (by omega) (by omega) hW1.row (hI.fx hu (fun a j y => z2 a j (by omega) (by omega))) (by rw [z2 _ _ (by omega) (by omega)]; exact hg) (fun c' hc' hn => (hV c' hc' hn).ge (fun k => z2 _ _ (by omega) (by omega))) hq (fun k hk => by
        rw [getD_1]
        by_cases ck : k = xs.length
        · rw [if_pos ck, ck, lx, xup2_s]
        · rw [if_neg ck, xup2_n (by omega), z1 _ _ (by omega)]; exact hx k (by omega))
      exact ⟨b, G2, g1, fun a k y1 y2 => by rw [g2 a k y1 y2, z2 a k y1 y2], g3⟩
    by_cases cg : (c : Int) = gt
    · have st : c142_2 f (fu + 1) 83 103 (c : Int) (S, G, m) = _ := st_142g (r := c142_2 f fu) hW.1 hW.2.2.1 hu hW.2.2.2.2.1.1 hI.1 hg hc cg (s103 hW.1) (by omega)
      rw [ek] at st
      obtain ⟨b, G2, g1, g2, g3⟩ := next G 0 (fun _ _ _ => rfl) (by show (qMk I gt vl c).bind _ = _; rw [hm, Option.bind_some, if_pos cg]) hW
      exact ⟨b, G2, st.trans g1, g2, g3⟩
    · obtain ⟨w1, w2⟩ := hwI c hc cg
      obtain ⟨v, G1, g1, g2, g3⟩ := k_141w (f := f) (m := m) (s := c) hf (by omega) hW (hI.2.2.1 c hc) w1 w2 (hV c hc cg)
      have st : c142_2 f (fu + 1) 83 103 (c : Int) (S, G, m) = _ := st_142w (r := c142_2 f fu) hW.1 hW.2.2.1 hu hW.2.2.2.2.1.1 hI.1 hg hc cg (s103 hW.1) (by omega) g1
      have hW1 : cWy S G1 u K := hW.ge (fun a k _ _ _ _ _ _ y _ => g2 a k y)
      cases ho : qEv vl (I.getD c []) with
      | some x =>
        rw [ho] at g3
        obtain ⟨rfl, hx2⟩ : v = x ∧ vOk x := g3
        rw [if_pos (by rcases hx2 with q | q <;> omega), ek] at st
        obtain ⟨b, G2, i1, i2, i3⟩ := next G1 v g2 (by show (qMk I gt vl c).bind _ = _; rw [hm, Option.bind_some, if_neg cg, ho]; rfl) hW1
        exact ⟨b, G2, st.trans i1, i2, i3⟩
      | none =>
        rw [ho] at g3
        have g3' : v < -1000000000000 := g3
        rw [if_neg (by omega)] at st
        refine ⟨0, _, st, fun a k y1 y2 => by rw [xup2_n (by omega), g2 a k y1], .inr ⟨rfl, nn d (c + 1) (by omega) ?_⟩⟩
        show (qMk I gt vl c).bind _ = none
        rw [hm, Option.bind_some, if_neg cg, ho]
        rfl
/-- headRow() -/
theorem k_142h (hf : 3010 < f) (hnI : I.length ≤ 4) (hwI : wIe nv I gt) (hW : cWy S G u K) (hI : cIt G u K g I) (hg : G u 3 = gt) (hV : ∀ c, c < I.length → (c : Int) ≠ gt → cVl G (qVm (I.getD c [])) vl) : ∃ b G', c142 f 83 103 (S, G, m) = some (b, (S, G', m)) ∧ (∀ a k, a ≠ 92 → a ≠ 103 → G' a k = G a k) ∧ ((b = 1 ∧ ∃ ys, qMk I gt vl I.length = some ys ∧ ∀ k, k < I.length → G' 103 k = ys.getD k 0) ∨ (b = 0 ∧ qMk I gt vl I.length = none)) := k_142 hf hnI hwI I.length 0 f G [] (by omega) (by omega) hW hI hg hV rfl (fun k hk => absurd hk (Nat.not_lt_zero k))
end
end
section
/-! THE CLASS: match() -/
def fUpd (v : Nat → Int) (k : Nat) (x : Int) : Nat → Int := fun j => if j = k then x else v j
/-- a row against TERMS: what is bound behind it, and values; none if it doesn't fit -/
def mtc : pCd → List Int → Nat → (Nat → Int) → Option (Nat × (Nat → Int))
  | [], _, b, v => some (b, v)
  | t :: T, xs, b, v => if t.1 = 3 then (if t.2 = xs.headD 0 then mtc T xs.tail b v else none)
    else if t.1 = 1 then (if b.testBit t.2.toNat = true ∧ v t.2.toNat ≠ xs.headD 0 then none else mtc T xs.tail (b ||| 2 ^ t.2.toNat) (fUpd v t.2.toNat (xs.headD 0)))
    else mtc T xs.tail b v
section
variable {f u x i c e l nw nv bl vn : Nat} {S : Nat → Nat × Nat × Nat} {G : xG_} {m : Nat × Nat} {r : Nat → Int → Nat → Int → Int → Int → xT_ → Option (Int × xT_)} {mk kd td ow vv : Int} {b : Nat}
theorem st_136z (hs : cSs S) (h3 : G 83 3 = (u : Int)) (hu : 278 < u) (us : S u = (1, 6, 20)) (us4 : S (u + 4) = (2, 3, 8)) (w11 : G u 11 = ((u + 4 : Nat) : Int)) (hl : l < 8) (h4 : G (u + 4) l = (nw : Int)) : c136_46b r f 83 (l : Int) x (i : Int) mk (nw : Int) (S, G, m) = some (mk, (S, G, m)) := by
  unfold c136_46b
  simp (disch := omega) only [cq_gi, cq_gr, cq_a, cq_s, cq_p, cq_pr, cq_is, cq_ar, cq_ab, cq_ln, xq_nz, Option.bind_some, xup2_n, xup2_s, Int.toNat_natCast, Int.reduceToNat, if_pos, if_neg, true_and, and_true, and_self, eq_self, if_true, reduceIte, not_true_eq_false, not_false_eq_true, or_true, true_or, s83 hs, h3, us, us4, w11, h4]
theorem st_136a (hs : cSs S) (h3 : G 83 3 = (u : Int)) (hu : 278 < u) (us : S u = (1, 6, 20)) (us4 : S (u + 4) = (2, 3, 8)) (us5 : S (u + 5) = (2, 3, 32)) (us6 : S (u + 6) = (2, 4, 32)) (w11 : G u 11 = ((u + 4 : Nat) : Int)) (w12 : G u 12 = ((u + 5 : Nat) : Int)) (w13 : G u 13 = ((u + 6 : Nat) : Int)) (hl : l < 8) (h4 : G (u + 4) l = (nw : Int)) (hc : c < nw) (ee : xwr ((xwr (4 * (l : Int))) + (c : Int)) = (e : Int)) (he : e < 32) (hk : G (u + 5) e = kd) (ht : G (u + 6) e = td) (xs : S x = (1, 5, 4)) (e70 : c70 f x (i : Int) (c : Int) (S, G, m) = some (ow, (S, G, m))) : c136_46b r f 83 (l : Int) x (i : Int) mk (c : Int) (S, G, m) = if kd = 4 ∧ td ≠ ow then some (-1, (S, G, m)) else c136_117 r f 83 (l : Int) x (i : Int) mk (c : Int) kd td ow (S, G, m) := by
  by_cases q1 : kd = 4
  · by_cases q2 : td = ow
    · rw [if_neg (fun y => y.2 q2)]
      unfold c136_46b
      simp (disch := omega) only [cq_gi, cq_gr, cq_a, cq_s, cq_p, cq_pr, cq_is, cq_ar, cq_ab, cq_ln, xq_nz, Option.bind_some, xup2_n, xup2_s, Int.toNat_natCast, Int.reduceToNat, if_pos, if_neg, true_and, and_true, and_self, eq_self, if_true, reduceIte, not_true_eq_false, not_false_eq_true, or_true, true_or, s83 hs, h3, us, us4, us5, us6, w11, w12, w13, h4, ee, hk, ht, xs, e70, q1, q2]
    · rw [if_pos ⟨q1, q2⟩]
      unfold c136_46b
      simp (disch := omega) only [cq_gi, cq_gr, cq_a, cq_s, cq_p, cq_pr, cq_is, cq_ar, cq_ab, cq_ln, xq_nz, Option.bind_some, xup2_n, xup2_s, Int.toNat_natCast, Int.reduceToNat, if_pos, if_neg, true_and, and_true, and_self, eq_self, if_true, reduceIte, not_true_eq_false, not_false_eq_true, or_true, true_or, s83 hs, h3, us, us4, us5, us6, w11, w12, w13, h4, ee, hk, ht, xs, e70, q1, q2]
  · rw [if_neg (fun y => q1 y.1)]
    unfold c136_46b
    simp (disch := omega) only [cq_gi, cq_gr, cq_a, cq_s, cq_p, cq_pr, cq_is, cq_ar, cq_ab, cq_ln, xq_nz, Option.bind_some, xup2_n, xup2_s, Int.toNat_natCast, Int.reduceToNat, if_pos, if_neg, true_and, and_true, and_self, eq_self, if_true, reduceIte, not_true_eq_false, not_false_eq_true, or_true, true_or, s83 hs, h3, us, us4, us5, us6, w11, w12, w13, h4, ee, hk, ht, xs, e70, q1]
theorem st_136n (hk : kd ≠ 2) (ec : xwr ((c : Int) + 1) = ((c + 1 : Nat) : Int)) : c136_117 r f 83 (l : Int) x (i : Int) mk (c : Int) kd td ow (S, G, m) = r 83 (l : Int) x (i : Int) mk ((c + 1 : Nat) : Int) (S, G, m) := by
  unfold c136_117 c136_172
  simp (disch := omega) only [cq_gi, cq_gr, cq_a, cq_s, cq_p, cq_pr, cq_is, cq_ar, cq_ab, cq_ln, xq_nz, Option.bind_some, xup2_n, xup2_s, Int.toNat_natCast, Int.reduceToNat, if_pos, if_neg, true_and, and_true, and_self, eq_self, if_true, reduceIte, not_true_eq_false, not_false_eq_true, or_true, true_or, hk, ec]
theorem st_136v (hs : cSs S) (hp : cPs G) (hv : vn < 8) (hb : b < 2 ^ 8) (hm : G 84 vn = vv) (ev : xwr (vn : Int) = (vn : Int)) (ec : xwr ((c : Int) + 1) = ((c + 1 : Nat) : Int)) : c136_117 r f 83 (l : Int) x (i : Int) (b : Int) (c : Int) 2 (vn : Int) ow (S, G, m) = if b.testBit vn = true ∧ vv ≠ ow then some (-1, (S, G, m)) else r 83 (l : Int) x (i : Int) ((b ||| 2 ^ vn : Nat) : Int) ((c + 1 : Nat) : Int) (S, xup2 G 84 vn ow, m) := by
  have eo : xor_ (b : Int) (xshl 1 (vn : Int)) = ((b ||| 2 ^ vn : Nat) : Int) := xorb (by omega) (by omega)
  by_cases q : b.testBit vn = true
  · have eb : xand (xshr (b : Int) (vn : Int)) 1 = 1 := (xbit (by omega) (by omega)).mpr q
    by_cases q2 : vv = ow
    · rw [if_neg (fun y => y.2 q2)]
      unfold c136_117 c136_154 c136_172
      simp (disch := omega) only [cq_gi, cq_gr, cq_a, cq_s, cq_p, cq_pr, cq_is, cq_ar, cq_ab, cq_ln, xq_nz, Option.bind_some, xup2_n, xup2_s, Int.toNat_natCast, Int.reduceToNat, if_pos, if_neg, true_and, and_true, and_self, eq_self, if_true, reduceIte, not_true_eq_false, not_false_eq_true, or_true, true_or, s83 hs, s84 hs, p83_0 hp, ev, eb, hm, q2, eo, ec]
    · rw [if_pos ⟨q, q2⟩]
      unfold c136_117
      simp (disch := omega) only [cq_gi, cq_gr, cq_a, cq_s, cq_p, cq_pr, cq_is, cq_ar, cq_ab, cq_ln, xq_nz, Option.bind_some, xup2_n, xup2_s, Int.toNat_natCast, Int.reduceToNat, if_pos, if_neg, true_and, and_true, and_self, eq_self, if_true, reduceIte, not_true_eq_false, not_false_eq_true, or_true, true_or, s83 hs, s84 hs, p83_0 hp, ev, eb, hm, q2]
  · have eb : ¬ xand (xshr (b : Int) (vn : Int)) 1 = 1 := fun y => q ((xbit (by omega) (by omega)).mp y)
    rw [if_neg (fun y => q y.1)]
    unfold c136_117 c136_154 c136_172
    simp (disch := omega) only [cq_gi, cq_gr, cq_a, cq_s, cq_p, cq_pr, cq_is, cq_ar, cq_ab, cq_ln, xq_nz, Option.bind_some, xup2_n, xup2_s, Int.toNat_natCast, Int.reduceToNat, if_pos, if_neg, true_and, and_true, and_self, eq_self, if_true, reduceIte, not_true_eq_false, not_false_eq_true, or_true, true_or, s83 hs, s84 hs, p83_0 hp, ev, eb, eo, ec]
end
section
variable {f u x i l nv W cap : Nat} {S : Nat → Nat × Nat × Nat} {G G' : xG_} {m : Nat × Nat} {K T : pCd} {R : List pRw}
/-- a LITERAL's TERMS stand in the class -/
def cTl1 (G : xG_) (u l : Nat) (T : pCd) : Prop := l < 8 ∧ G (u + 4) l = (T.length : Int) ∧ T.length ≤ 4 ∧ cTs G u l T
theorem cTl1.ge (h : cTl1 G u l T) (hf : ∀ a j, u + 4 ≤ a → a ≤ u + 6 → G' a j = G a j) : cTl1 G' u l T := by
  obtain ⟨h1, h2, h3, h4⟩ := h
  exact ⟨h1, by rw [hf _ _ (by omega) (by omega)]; exact h2, h3, fun c hc => by rw [hf _ _ (by omega) (by omega), hf _ _ (by omega) (by omega)]; exact h4 c hc⟩
theorem drop_hd {α : Type} {T q : List α} {t d : α} {c : Nat} (h : T.drop c = t :: q) : c < T.length ∧ T.getD c d = t ∧ T.drop (c + 1) = q := by
  have hc : c < T.length := by
    have := congrArg List.length h
    rw [List.length_drop, List.length_cons] at this
    omega
  have e : T.drop c = T[c] :: T.drop (c + 1) := List.drop_eq_getElem_cons hc
  rw [e] at h
  injection h with h1 h2
  exact ⟨hc, by rw [getD_e hc]; exact h1, h2⟩
theorem drop_ht {xs : List Int} {c : Nat} : (xs.drop c).headD 0 = xs.getD c 0 ∧ (xs.drop c).tail = xs.drop (c + 1) := by
  refine ⟨?_, List.tail_drop⟩
  rw [List.getD_eq_getElem?_getD, List.headD_eq_head?_getD, List.head?_drop]
theorem k_136l (hwT : ∀ y ∈ T, wT1 nv y) (hnv : nv ≤ 8) (hTW : T.length = W) (hi : i < R.length) : ∀ (q : pCd) (c fu b : Nat) (G : xG_) (vl : Nat → Int), T.drop c = q → c ≤ T.length → q.length < fu → cWy S G u K → cTl1 G u l T → cRw S G x W cap R → 92 < x → b < 2 ^ 8 → (∀ k, k < 8 → G 84 k = vl k) → ∃ v G', c136_46 f fu 83 (l : Int) x (i : Int) (b : Int) (c : Int) (S, G, m) = some (v, (S, G', m)) ∧ (∀ a k, a ≠ 84 → G' a k = G a k) ∧ ((∃ b' vl', mtc q ((R.getD i dRw).1.drop c) b vl = some (b', vl') ∧ v = ((b' : Nat) : Int) ∧ ∀ k, k < 8 → G' 84 k = vl' k) ∨ (v = -1 ∧ mtc q ((R.getD i dRw).1.drop c) b vl = none ∧ ∀ k, b.testBit k = true → G' 84 k = G 84 k)) := by
  intro q
  induction q with
  | nil =>
    intro c fu b G vl e1 e2 e3 hW hT hR hx hb hv
    obtain ⟨fu, rfl⟩ : ∃ t, fu = t + 1 := ⟨fu - 1, by omega⟩
    have hc : c = T.length := by
      have := congrArg List.length e1
      rw [List.length_drop] at this
      simp at this
      omega
    subst hc
    obtain ⟨a1, a2, a3, a4, a5, a6, a7, a8⟩ := hW
    exact ⟨(b : Int), G, st_136z (r := c136_46 f fu) a1 a3 a4 a5.1 a5.2.2.2.2.1 a6.2.2.2.1 hT.1 hT.2.1, fun _ _ _ => rfl, .inl ⟨b, vl, rfl, rfl, hv⟩⟩
  | cons t q ih =>
    intro c fu b G vl e1 e2 e3 hW hT hR hx hb hv
    obtain ⟨fu, rfl⟩ : ∃ t, fu = t + 1 := ⟨fu - 1, by omega⟩
    obtain ⟨hc, ht, e1'⟩ := drop_hd (d := (0, 0)) e1
    obtain ⟨a1, a2, a3, a4, a5, a6, a7, a8⟩ := id hW
    obtain ⟨t1, t2, t3, t4⟩ := id hT
    obtain ⟨x1, x2⟩ := drop_ht (xs := (R.getD i dRw).1) (c := c)
    have hm : t ∈ T := by rw [← ht, getD_e hc]; exact List.getElem_mem hc
    have hw1 := hwT t hm
    have htm := t4 c hc
    rw [ht] at htm
    have e4 : xwr ((xwr (4 * (l : Int))) + (c : Int)) = ((4 * l + c : Nat) : Int) := by rw [xwr_g (4 * (l : Int)) (by omega) (by omega), xwr_g _ (by omega) (by omega)]; omega
    have ec : xwr ((c : Int) + 1) = ((c + 1 : Nat) : Int) := by rw [xwr_g _ (by omega) (by omega)]; omega
    have e70 := k_70 (f := f) (m := m) hR hi (by omega : c < W)
    have st : c136_46 f (fu + 1) 83 (l : Int) x (i : Int) (b : Int) (c : Int) (S, G, m) = _ := st_136a (r := c136_46 f fu) (mk := (b : Int)) a1 a3 a4 a5.1 a5.2.2.2.2.1 a5.2.2.2.2.2.1 a5.2.2.2.2.2.2.1 a6.2.2.2.1 a6.2.2.2.2.1 a6.2.2.2.2.2.1 t1 t2 hc e4 (by omega) rfl rfl hR.1 e70
    have hmt : mtc (t :: q) ((R.getD i dRw).1.drop c) b vl = if t.1 = 3 then (if t.2 = (R.getD i dRw).1.getD c 0 then mtc q ((R.getD i dRw).1.drop (c + 1)) b vl else none) else if t.1 = 1 then (if b.testBit t.2.toNat = true ∧ vl t.2.toNat ≠ (R.getD i dRw).1.getD c 0 then none else mtc q ((R.getD i dRw).1.drop (c + 1)) (b ||| 2 ^ t.2.toNat) (fUpd vl t.2.toNat ((R.getD i dRw).1.getD c 0))) else mtc q ((R.getD i dRw).1.drop (c + 1)) b vl := by
      rw [← x1, ← x2]; rfl
    rw [hmt]
    rcases htm with ⟨m1, m2, m3⟩ | ⟨m1, m2⟩ | ⟨m1, m2, m3⟩
    · have hvv : 0 ≤ t.2 ∧ t.2 < nv := by
        rcases hw1 with q1 | q1 | q1
        · exact q1.2
        · omega
        · omega
      obtain ⟨vn, hvn⟩ : ∃ vn : Nat, t.2 = (vn : Int) := ⟨t.2.toNat, by omega⟩
      rw [m2, m3, hvn, if_neg (by omega), st_136v (b := b) (vn := vn) a1 a2 (by omega) hb (hv vn (by omega)) (xwr_g _ (by omega) (by omega)) ec] at st
      rw [hvn, Int.toNat_natCast, if_neg (by omega), if_pos m1]
      by_cases q1 : b.testBit vn = true ∧ vl vn ≠ (R.getD i dRw).1.getD c 0
      · rw [if_pos q1] at st ⊢
        exact ⟨-1, G, st, fun _ _ _ => rfl, .inr ⟨rfl, rfl, fun _ _ => rfl⟩⟩
      · rw [if_neg q1] at st ⊢
        have z : ∀ a k, a ≠ 84 → xup2 G 84 vn ((R.getD i dRw).1.getD c 0) a k = G a k := fun a k y => xup2_n (by omega)
        obtain ⟨v, G2, g1, g2, g3⟩ := ih (c + 1) fu (b ||| 2 ^ vn) (xup2 G 84 vn ((R.getD i dRw).1.getD c 0)) (fUpd vl vn ((R.getD i dRw).1.getD c 0)) e1' (by omega) (by rw [List.length_cons] at e3; omega) (hW.ge (fun a k y _ _ _ _ _ _ _ => z a k y)) (hT.ge (fun a j _ _ => z _ _ (by omega))) (hR.ge (fun _ _ _ => rfl) (fun j => z _ _ (by omega)) (fun j => z _ _ (by omega)) (fun j => z _ _ (by omega))) hx (or_lt hb (by omega)) (fun k hk => by
          unfold fUpd
          by_cases ck : k = vn
          · rw [if_pos ck, ck, xup2_s]
          · rw [if_neg ck, xup2_n (by omega)]; exact hv k hk)
        refine ⟨v, G2, st.trans g1, fun a k y => by rw [g2 a k y, z a k y], ?_⟩
        rcases g3 with g3 | ⟨g3, g4, g5⟩
        · exact .inl g3
        · refine .inr ⟨g3, g4, fun k hk => ?_⟩
          rw [g5 k (by rw [Nat.testBit_or, hk]; rfl)]
          by_cases ck : k = vn
          · subst ck
            rw [xup2_s]
            have : vl k = (R.getD i dRw).1.getD c 0 := Classical.byContradiction (fun y => q1 ⟨hk, y⟩)
            rw [← this, hv k (by omega)]
          · exact xup2_n (by omega)
    · rw [m2, if_neg (by omega), st_136n (by decide) ec] at st
      rw [if_neg (by omega), if_neg (by omega)]
      obtain ⟨v, G2, g1, g2, g3⟩ := ih (c + 1) fu b G vl e1' (by omega) (by rw [List.length_cons] at e3; omega) hW hT hR hx hb hv
      exact ⟨v, G2, st.trans g1, g2, g3⟩
    · rw [m2, m3] at st
      rw [if_pos m1]
      by_cases q1 : t.2 = (R.getD i dRw).1.getD c 0
      · rw [if_neg (fun y => y.2 q1), st_136n (by decide) ec] at st
        rw [if_pos q1]
        obtain ⟨v, G2, g1, g2, g3⟩ := ih (c + 1) fu b G vl e1' (by omega) (by rw [List.length_cons] at e3; omega) hW hT hR hx hb hv
        exact ⟨v, G2, st.trans g1, g2, g3⟩
      · rw [if_pos ⟨rfl, q1⟩] at st
        rw [if_neg q1]
        exact ⟨-1, G, st, fun _ _ _ => rfl, .inr ⟨rfl, rfl, fun _ _ => rfl⟩⟩
end
end
section
/-! THE CLASS: match() whole; hasNone(), rows that fit -/
def fitR (T : pCd) (lo hi : Int) (b : Nat) (vl : Nat → Int) (r : pRw) : Option (Nat × (Nat → Int)) := if lo ≤ r.2 ∧ r.2 ≤ hi then mtc T r.1 b vl else none
section
variable {f u x i l nv W cap st b : Nat} {S : Nat → Nat × Nat × Nat} {G G' : xG_} {m : Nat × Nat} {K T : pCd} {R : List pRw} {lo hi rk : Int} {vl : Nat → Int}
theorem st_136 (hs : cSs S) (hp : cPs G) (h6 : G 83 6 = (st : Int)) (hst : st < 9) (hb : G 87 st = (b : Int)) (xs : S x = (1, 5, 4)) (ds : S (x + 2) = (2, 3, cap)) (hi2 : i < cap) (w3 : G x 3 = ((x + 2 : Nat) : Int)) (hr : G (x + 2) i = rk) (hl : l < 8) (h85 : G 85 l = lo) (h86 : G 86 l = hi) : c136 f 83 (l : Int) x (i : Int) (S, G, m) = if lo ≤ rk ∧ rk ≤ hi then c136_46 f f 83 (l : Int) x (i : Int) (b : Int) 0 (S, G, m) else some (-1, (S, G, m)) := by
  by_cases q1 : lo ≤ rk
  · by_cases q2 : rk ≤ hi
    · rw [if_pos ⟨q1, q2⟩]
      unfold c136
      simp (disch := omega) only [cq_gi, cq_gr, cq_a, cq_s, cq_p, cq_pr, cq_is, cq_ar, cq_ab, cq_ln, xq_nz, Option.bind_some, xup2_n, xup2_s, Int.toNat_natCast, Int.reduceToNat, if_pos, if_neg, true_and, and_true, and_self, eq_self, if_true, reduceIte, not_true_eq_false, not_false_eq_true, or_true, true_or, s83 hs, s85 hs, s86 hs, s87 hs, p83_1 hp, p83_2 hp, p83_8 hp, h6, hb, xs, ds, w3, hr, h85, h86, q1, q2]
    · rw [if_neg (fun y => q2 y.2)]
      unfold c136 c136_41
      simp (disch := omega) only [cq_gi, cq_gr, cq_a, cq_s, cq_p, cq_pr, cq_is, cq_ar, cq_ab, cq_ln, xq_nz, Option.bind_some, xup2_n, xup2_s, Int.toNat_natCast, Int.reduceToNat, if_pos, if_neg, true_and, and_true, and_self, eq_self, if_true, reduceIte, not_true_eq_false, not_false_eq_true, or_true, true_or, s83 hs, s85 hs, s86 hs, s87 hs, p83_1 hp, p83_2 hp, p83_8 hp, h6, hb, xs, ds, w3, hr, h85, h86, q1, q2]
  · rw [if_neg (fun y => q1 y.1)]
    unfold c136 c136_41
    simp (disch := omega) only [cq_gi, cq_gr, cq_a, cq_s, cq_p, cq_pr, cq_is, cq_ar, cq_ab, cq_ln, xq_nz, Option.bind_some, xup2_n, xup2_s, Int.toNat_natCast, Int.reduceToNat, if_pos, if_neg, true_and, and_true, and_self, eq_self, if_true, reduceIte, not_true_eq_false, not_false_eq_true, or_true, true_or, s83 hs, s85 hs, s86 hs, s87 hs, p83_1 hp, p83_2 hp, p83_8 hp, h6, hb, xs, ds, w3, hr, h85, h86, q1]
/-- all that a step of the ways reads: a LITERAL l with TERMS T over rows R at x, at step st with mask b -/
def cLv (S : Nat → Nat × Nat × Nat) (G : xG_) (u x l st b nv W cap : Nat) (K T : pCd) (R : List pRw) (lo hi : Int) : Prop := cWy S G u K ∧ cTl1 G u l T ∧ cRw S G x W cap R ∧ 92 < x ∧ T.length = W ∧ (∀ y ∈ T, wT1 nv y) ∧ nv ≤ 8 ∧ G 83 6 = (st : Int) ∧ st < 8 ∧ G 87 st = (b : Int) ∧ b < 2 ^ 8 ∧ G 85 l = lo ∧ G 86 l = hi
theorem cLv.ge (h : cLv S G u x l st b nv W cap K T R lo hi) (hf : ∀ a j, a ≠ 84 → ¬ (a = 87 ∧ j = st + 1) → a ≠ 88 → a ≠ 89 → a ≠ 90 → a ≠ 91 → a ≠ 92 → ¬ (a = 83 ∧ j = 7) → G' a j = G a j) : cLv S G' u x l st b nv W cap K T R lo hi := by
  obtain ⟨h1, h2, h3, h4, h5, h6, h7, h8, h9, h10, h11, h12, h13⟩ := h
  have hu := h1.2.2.2.1
  have z : ∀ a j, 92 < a → G' a j = G a j := fun a j y => hf a j (by omega) (by omega) (by omega) (by omega) (by omega) (by omega) (by omega) (by omega)
  refine ⟨?_, h2.ge (fun a j _ _ => z a j (by omega)), h3.ge (fun _ _ _ => rfl) (fun j => z _ _ (by omega)) (fun j => z _ _ (by omega)) (fun j => z _ _ (by omega)), h4, h5, h6, h7, by rw [hf _ _ (by omega) (by omega) (by omega) (by omega) (by omega) (by omega) (by omega) (by omega)]; exact h8, h9, by rw [hf _ _ (by omega) (by omega) (by omega) (by omega) (by omega) (by omega) (by omega) (by omega)]; exact h10, h11, by rw [hf _ _ (by omega) (by omega) (by omega) (by omega) (by omega) (by omega) (by omega) (by omega)]; exact h12, by rw [hf _ _ (by omega) (by omega) (by omega) (by omega) (by omega) (by omega) (by omega) (by omega)]; exact h13⟩
  exact h1.ge (fun a j y1 y2 y3 y4 y5 y6 y7 y8 => hf a j y1 (fun y => y2 y.1) y3 y4 y5 y6 y7 (fun y => y8 ⟨y.1, .inr y.2⟩))
theorem k_136 (hf : 10 < f) (h : cLv S G u x l st b nv W cap K T R lo hi) (hi2 : i < R.length) (hv : ∀ k, k < 8 → G 84 k = vl k) : ∃ v G', c136 f 83 (l : Int) x (i : Int) (S, G, m) = some (v, (S, G', m)) ∧ (∀ a k, a ≠ 84 → G' a k = G a k) ∧ ((∃ b' vl', fitR T lo hi b vl (R.getD i dRw) = some (b', vl') ∧ v = ((b' : Nat) : Int) ∧ ∀ k, k < 8 → G' 84 k = vl' k) ∨ (v = -1 ∧ fitR T lo hi b vl (R.getD i dRw) = none ∧ ∀ k, b.testBit k = true → G' 84 k = G 84 k)) := by
  obtain ⟨h1, h2, h3, h4, h5, h6, h7, h8, h9, h10, h11, h12, h13⟩ := h
  obtain ⟨xs, _, ds, ⟨w0, w1, w2, w3⟩, hl, hcap, hW, hR⟩ := id h3
  have e := st_136 (f := f) (m := m) h1.1 h1.2.1 h8 (by omega) h10 xs ds (by omega : i < cap) w3 (hR i hi2).2.2 h2.1 h12 h13
  unfold fitR
  by_cases q : lo ≤ (R.getD i dRw).2 ∧ (R.getD i dRw).2 ≤ hi
  · rw [if_pos q] at e
    simp only [if_pos q]
    obtain ⟨v, G', g1, g2, g3⟩ := k_136l (f := f) (m := m) h6 h7 h5 hi2 T 0 f b G vl (List.drop_zero) (Nat.zero_le _) (by have := h2.2.2.1; omega) h1 h2 h3 h4 h11 hv
    rw [List.drop_zero] at g3
    exact ⟨v, G', e.trans g1, g2, g3⟩
  · rw [if_neg q] at e
    simp only [if_neg q]
    exact ⟨-1, G, e, fun _ _ _ => rfl, .inr ⟨rfl, trivial, fun _ _ => rfl⟩⟩
/-! what match() says -/
theorem mtc_ok {nv : Nat} : ∀ (T : pCd) (xs : List Int) (b : Nat) (v : Nat → Int) (b' : Nat) (v' : Nat → Int), (∀ y ∈ T, wT1 nv y) → T.length ≤ xs.length → mtc T xs b v = some (b', v') → b' = b ||| qT T ∧ (∀ k, b.testBit k = true → v' k = v k) ∧ sTs v' T xs ∧ ∀ k, (∀ t ∈ T, ¬ (t.1 = 1 ∧ t.2.toNat = k)) → v' k = v k
  | [], xs, b, v, b', v', _, _, h => by
    injection h with h
    injection h with h1 h2
    subst h1 h2
    exact ⟨by show b = b ||| 0; rw [Nat.or_zero], fun _ _ => rfl, fun k hk => absurd hk (Nat.not_lt_zero k), fun _ _ => rfl⟩
  | t :: T, xs, b, v, b', v', hw, hl, h => by
    obtain ⟨x, ys, rfl⟩ : ∃ x ys, xs = x :: ys := by
      match xs, hl with
      | x :: ys, _ => exact ⟨x, ys, rfl⟩
      | [], hl => simp at hl
    have hl' : T.length ≤ ys.length := by simpa using hl
    have hwT : ∀ y ∈ T, wT1 nv y := fun y hy => hw y (List.mem_cons_of_mem _ hy)
    have hq : qT (t :: T) = (if t.1 = 1 then 2 ^ t.2.toNat else 0) ||| qT T := rfl
    have up : ∀ {v' : Nat → Int}, sTs v' T ys → ((t.1 = 1 → v' t.2.toNat = x) ∧ (t.1 = 3 → t.2 = x)) → sTs v' (t :: T) (x :: ys) := fun hs hx k hk => by
      cases k with
      | zero => exact hx
      | succ k => exact hs k (by simpa using hk)
    have h' : (if t.1 = 3 then (if t.2 = x then mtc T ys b v else none) else if t.1 = 1 then (if b.testBit t.2.toNat = true ∧ v t.2.toNat ≠ x then none else mtc T ys (b ||| 2 ^ t.2.toNat) (fUpd v t.2.toNat x)) else mtc T ys b v) = some (b', v') := h
    by_cases c3 : t.1 = 3
    · rw [if_pos c3] at h'
      by_cases cx : t.2 = x
      · rw [if_pos cx] at h'
        obtain ⟨i1, i2, i3, i4⟩ := mtc_ok T ys b v b' v' hwT hl' h'
        refine ⟨by rw [i1, hq, if_neg (by omega), Nat.zero_or], i2, up i3 ⟨fun y => by omega, fun _ => cx⟩, fun k hk => i4 k (fun t' ht' => hk t' (List.mem_cons_of_mem _ ht'))⟩
      · rw [if_neg cx] at h'; cases h'
    · rw [if_neg c3] at h'
      by_cases c1 : t.1 = 1
      · rw [if_pos c1] at h'
        by_cases cb : b.testBit t.2.toNat = true ∧ v t.2.toNat ≠ x
        · rw [if_pos cb] at h'; cases h'
        · rw [if_neg cb] at h'
          obtain ⟨i1, i2, i3, i4⟩ := mtc_ok T ys (b ||| 2 ^ t.2.toNat) (fUpd v t.2.toNat x) b' v' hwT hl' h'
          have hx : v' t.2.toNat = x := by
            rw [i2 t.2.toNat (by rw [Nat.testBit_or, Nat.testBit_two_pow_self, Bool.or_true])]
            unfold fUpd
            rw [if_pos rfl]
          refine ⟨by rw [i1, hq, if_pos c1, Nat.or_assoc], fun k hk => ?_, up i3 ⟨fun _ => hx, fun y => absurd y c3⟩, fun k hk => ?_⟩
          · rw [i2 k (by rw [Nat.testBit_or, hk]; rfl)]
            unfold fUpd
            by_cases ck : k = t.2.toNat
            · rw [if_pos ck]
              subst ck
              exact (Classical.byContradiction (fun y => cb ⟨hk, y⟩) : v t.2.toNat = x).symm
            · rw [if_neg ck]
          · rw [i4 k (fun t' ht' => hk t' (List.mem_cons_of_mem _ ht'))]
            unfold fUpd
            rw [if_neg (fun y => hk t List.mem_cons_self ⟨c1, y.symm⟩)]
      · rw [if_neg c1] at h'
        obtain ⟨i1, i2, i3, i4⟩ := mtc_ok T ys b v b' v' hwT hl' h'
        exact ⟨by rw [i1, hq, if_neg c1, Nat.zero_or], i2, up i3 ⟨fun y => absurd y c1, fun y => absurd y c3⟩, fun k hk => i4 k (fun t' ht' => hk t' (List.mem_cons_of_mem _ ht'))⟩
/-- a row fits where some values let it -/
theorem mtc_some {nv : Nat} {w : Nat → Int} : ∀ (T : pCd) (xs : List Int) (b : Nat) (v : Nat → Int), (∀ y ∈ T, wT1 nv y) → T.length ≤ xs.length → (∀ k, b.testBit k = true → w k = v k) → sTs w T xs → ∃ b' v', mtc T xs b v = some (b', v') ∧ ∀ k, b'.testBit k = true → v' k = w k
  | [], xs, b, v, _, _, hx, _ => ⟨b, v, rfl, fun k hk => (hx k hk).symm⟩
  | t :: T, xs, b, v, hw, hl, hx, hs => by
    obtain ⟨x, ys, rfl⟩ : ∃ x ys, xs = x :: ys := by
      match xs, hl with
      | x :: ys, _ => exact ⟨x, ys, rfl⟩
      | [], hl => simp at hl
    have hl' : T.length ≤ ys.length := by simpa using hl
    have hwT : ∀ y ∈ T, wT1 nv y := fun y hy => hw y (List.mem_cons_of_mem _ hy)
    have hs' : sTs w T ys := fun k hk => hs (k + 1) (by simpa using hk)
    have h0 := hs 0 (Nat.succ_pos _)
    have h01 : t.1 = 1 → w t.2.toNat = x := h0.1
    have h03 : t.1 = 3 → t.2 = x := h0.2
    have e : mtc (t :: T) (x :: ys) b v = (if t.1 = 3 then (if t.2 = x then mtc T ys b v else none) else if t.1 = 1 then (if b.testBit t.2.toNat = true ∧ v t.2.toNat ≠ x then none else mtc T ys (b ||| 2 ^ t.2.toNat) (fUpd v t.2.toNat x)) else mtc T ys b v) := rfl
    rw [e]
    by_cases c3 : t.1 = 3
    · rw [if_pos c3, if_pos (h03 c3)]
      exact mtc_some T ys b v hwT hl' hx hs'
    · rw [if_neg c3]
      by_cases c1 : t.1 = 1
      · rw [if_pos c1, if_neg (fun y => y.2 (by rw [← hx _ y.1, h01 c1]))]
        refine mtc_some T ys _ _ hwT hl' (fun k hk => ?_) hs'
        unfold fUpd
        by_cases ck : k = t.2.toNat
        · rw [if_pos ck, ck, h01 c1]
        · rw [if_neg ck]
          refine hx k ?_
          rw [Nat.testBit_or, Nat.testBit_two_pow_of_ne (fun y => ck y.symm), Bool.or_false] at hk
          exact hk
      · rw [if_neg c1]
        exact mtc_some T ys b v hwT hl' hx hs'
end
end
