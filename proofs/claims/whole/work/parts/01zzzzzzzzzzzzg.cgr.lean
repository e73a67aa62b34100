/-! THE CLASS: gatherTwo(), isAboveFloor(), addToGroup() -/
/-- the groups of the class: the rows of loose, with the places of what is gathered -/
def cGr (S : Nat → Nat × Nat × Nat) (G : xG_) (n : Nat) (L : List pRw) : Prop := ∃ T : List pRw, cRw S G 99 n 512 T ∧ T.length = L.length ∧ (∀ i, i < L.length → (T.getD i dRw).1 = (L.getD i dRw).1 ∧ ∃ k : Nat, (T.getD i dRw).2 = (k : Int) ∧ k < L.length ∧ G 102 k = (L.getD i dRw).2) ∧ ∀ i j, i < j → j < L.length → (T.getD i dRw).2 ≠ (T.getD j dRw).2
section
variable {f u n lo sl : Nat} {S : Nat → Nat × Nat × Nat} {G G1 G2 : xG_} {m : Nat × Nat} {L : List pRw} {kk a b x w : Int} {xs ys : List Int} {r2 : Nat → Int → Int → xT_ → Option (Int × xT_)} {T : xT_}
theorem k_160 (hkk : kk = 1 ∨ kk = 2 ∨ kk = 3 ∨ kk = 4) (h : -9223372036854775808 ≤ a + b ∧ a + b < 9223372036854775808) : c160 f (kk + 9) a b T = some (qCo kk a b, T) := by
  have ew : xwl (a + b) = a + b := xwl_g _ h.1 h.2
  unfold c160 c160_31 qCo xmin xmax
  rcases hkk with k | k | k | k
  · rw [if_pos (by omega), if_pos (by omega), if_pos (.inl k), ew]
  · rw [if_pos (by omega), if_pos (by omega), if_pos (.inr k), ew]
  · subst k
    rfl
  · subst k
    rfl
theorem st_158z (h : n ≤ lo) : c158_2b r2 f 93 (n : Int) (lo : Int) T = some (0, T) := by
  unfold c158_2b
  rw [if_pos (by omega)]
theorem st_158e (hs : cSs S) (hp : cPs G) (hn : n ≤ 4) (h : lo < n) (h1 : G 103 lo = a) (h2 : G 104 lo = a) (ei : xwr ((lo : Int) + 1) = ((lo + 1 : Nat) : Int)) : c158_2b r2 f 93 (n : Int) (lo : Int) (S, G, m) = r2 93 (n : Int) ((lo + 1 : Nat) : Int) (S, G, m) := by
  unfold c158_2b
  simp (disch := omega) only [cq_gi, cq_gr, cq_a, cq_s, cq_p, cq_pr, cq_is, cq_ar, cq_ab, cq_ln, xq_nz, Option.bind_some, xup2_n, xup2_s, Int.toNat_natCast, Int.reduceToNat, if_pos, if_neg, true_and, and_true, and_self, eq_self, if_true, reduceIte, not_true_eq_false, not_false_eq_true, or_true, true_or, s93 hs, s103 hs, s104 hs, p93_9 hp, p93_10 hp, h1, h2, ei]
theorem st_158n (hs : cSs S) (hp : cPs G) (hn : n ≤ 4) (h : lo < n) (h1 : G 103 lo = a) (h2 : G 104 lo = b) (hab : a ≠ b) : c158_2b r2 f 93 (n : Int) (lo : Int) (S, G, m) = some (if b < a then 1 else 0, (S, G, m)) := by
  by_cases c : b < a
  · rw [if_pos c]
    unfold c158_2b c158_44
    simp (disch := omega) only [cq_gi, cq_gr, cq_a, cq_s, cq_p, cq_pr, cq_is, cq_ar, cq_ab, cq_ln, xq_nz, Option.bind_some, xup2_n, xup2_s, Int.toNat_natCast, Int.reduceToNat, if_pos, if_neg, true_and, and_true, and_self, eq_self, if_true, reduceIte, not_true_eq_false, not_false_eq_true, or_true, true_or, s93 hs, s103 hs, s104 hs, p93_9 hp, p93_10 hp, h1, h2, hab]
  · rw [if_neg c]
    unfold c158_2b c158_44
    simp (disch := omega) only [cq_gi, cq_gr, cq_a, cq_s, cq_p, cq_pr, cq_is, cq_ar, cq_ab, cq_ln, xq_nz, Option.bind_some, xup2_n, xup2_s, Int.toNat_natCast, Int.reduceToNat, if_pos, if_neg, true_and, and_true, and_self, eq_self, if_true, reduceIte, not_true_eq_false, not_false_eq_true, or_true, true_or, s93 hs, s103 hs, s104 hs, p93_9 hp, p93_10 hp, h1, h2, hab]
/-- isAboveFloor() -/
theorem k_158 (hf : 10 < f) (hs : cSs S) (hp : cPs G) (hn : n ≤ 4) (hx : xs.length = n) (hy : ys.length = n) (h1 : ∀ c, c < n → G 103 c = xs.getD c 0) (h2 : ∀ c, c < n → G 104 c = ys.getD c 0) : c158 f 93 (n : Int) (S, G, m) = some (if vCmp ys xs < 0 then 1 else 0, (S, G, m)) := by
  have loop : ∀ (d c fu : Nat), c + d = n → d < fu → c158_2 f fu 93 (n : Int) (c : Int) (S, G, m) = some (if vCmp (ys.drop c) (xs.drop c) < 0 then 1 else 0, (S, G, m)) := by
    intro d
    induction d with
    | zero =>
      intro c fu e1 e2
      obtain ⟨fu, rfl⟩ : ∃ t, fu = t + 1 := ⟨fu - 1, by omega⟩
      have st : c158_2 f (fu + 1) 93 (n : Int) (c : Int) (S, G, m) = _ := st_158z (r2 := c158_2 f fu) (by omega)
      rw [st, List.drop_eq_nil_of_le (by omega), List.drop_eq_nil_of_le (by omega)]
      rfl
    | succ d ih =>
      intro c fu e1 e2
      obtain ⟨fu, rfl⟩ : ∃ t, fu = t + 1 := ⟨fu - 1, by omega⟩
      have ei : xwr ((c : Int) + 1) = ((c + 1 : Nat) : Int) := by rw [xwr_g _ (by omega) (by omega)]; omega
      have g1 := h1 c (by omega)
      have g2 := h2 c (by omega)
      rw [getD_e (by omega : c < xs.length)] at g1
      rw [getD_e (by omega : c < ys.length)] at g2
      rw [List.drop_eq_getElem_cons (by omega : c < ys.length), List.drop_eq_getElem_cons (by omega : c < xs.length)]
      show _ = some (if (if ys[c] = xs[c] then vCmp (ys.drop (c + 1)) (xs.drop (c + 1)) else if ys[c] < xs[c] then -1 else 1) < 0 then 1 else 0, (S, G, m))
      by_cases q : ys[c] = xs[c]
      · rw [if_pos q]
        rw [q] at g2
        have st : c158_2 f (fu + 1) 93 (n : Int) (c : Int) (S, G, m) = _ := st_158e (r2 := c158_2 f fu) hs hp hn (by omega) g1 g2 ei
        rw [st]
        exact ih (c + 1) fu (by omega) (by omega)
      · rw [if_neg q]
        have st : c158_2 f (fu + 1) 93 (n : Int) (c : Int) (S, G, m) = _ := st_158n (r2 := c158_2 f fu) hs hp hn (by omega) g1 g2 (fun y => q y.symm)
        rw [st]
        by_cases q2 : ys[c] < xs[c]
        · rw [if_pos q2, if_pos q2, if_pos (by decide)]
        · rw [if_neg q2, if_neg q2, if_neg (by decide)]
  have := loop n 0 f (by omega) (by omega)
  rw [List.drop_zero, List.drop_zero] at this
  exact this
theorem st_159y (hs : cSs S) (hp : cPs G) (us : S u = (1, 6, 20)) (e : c74 f 99 103 (S, G, m) = some ((lo : Int), (S, G, m))) (hlo : lo < 512) (h3 : G 99 3 = 101) (h1 : G 101 lo = (sl : Int)) (hsl : sl < 512) (h2 : G 102 sl = a) (h4 : G u 4 = kk) (e2 : c160 f kk a x (S, G, m) = some (w, (S, G, m))) : c159 f 93 u x (S, G, m) = some (1, (S, xup2 G 102 sl w, m)) := by
  have hlt : ¬ (lo : Int) < 0 := by omega
  unfold c159
  simp (disch := omega) only [cq_gi, cq_gr, cq_a, cq_s, cq_p, cq_pr, cq_is, cq_ar, cq_ab, cq_ln, xq_nz, Option.bind_some, xup2_n, xup2_s, Int.toNat_natCast, Int.reduceToNat, if_pos, if_neg, true_and, and_true, and_self, eq_self, if_true, reduceIte, not_true_eq_false, not_false_eq_true, or_true, true_or, s93 hs, s99 hs, s101 hs, s102 hs, p93_7 hp, p93_8 hp, p93_9 hp, us, e, hlt, h3, h1, h2, h4, e2]
theorem st_159_154n (hs : cSs S) (hp : cPs G) (hp1 : cPs G1) (hn : n < 512) (e2 : c76 f 99 (lo : Int) 103 (n : Int) (S, G, m) = some (S, G1, m)) : c159_154 f 93 x (lo : Int) 0 (n : Int) (S, G, m) = some (1, (S, xup2 G1 102 n x, m)) := by
  unfold c159_154 c159_187
  simp (disch := omega) only [cq_gi, cq_gr, cq_a, cq_s, cq_p, cq_pr, cq_is, cq_ar, cq_ab, cq_ln, xq_nz, Option.bind_some, xup2_n, xup2_s, Int.toNat_natCast, Int.reduceToNat, if_pos, if_neg, true_and, and_true, and_self, eq_self, if_true, reduceIte, not_true_eq_false, not_false_eq_true, or_true, true_or, s93 hs, s99 hs, s102 hs, p93_7 hp, p93_8 hp1, p93_9 hp, e2]
theorem st_159_154y (hs : cSs S) (hp : cPs G) (hp1 : cPs G1) (hn : sl < 512) (e2 : c76 f 99 (lo : Int) 103 (sl : Int) (S, G, m) = some (S, G1, m)) : c159_154 f 93 x (lo : Int) 1 (sl : Int) (S, G, m) = some (0, (S, xup2 G1 102 sl x, m)) := by
  unfold c159_154 c159_187
  simp (disch := omega) only [cq_gi, cq_gr, cq_a, cq_s, cq_p, cq_pr, cq_is, cq_ar, cq_ab, cq_ln, xq_nz, Option.bind_some, xup2_n, xup2_s, Int.toNat_natCast, Int.reduceToNat, if_pos, if_neg, true_and, and_true, and_self, eq_self, if_true, reduceIte, not_true_eq_false, not_false_eq_true, or_true, true_or, s93 hs, s99 hs, s102 hs, p93_7 hp, p93_8 hp1, p93_9 hp, e2]
theorem st_159_78n (hs : cSs S) (hp : cPs G) (h1 : G 99 1 = (n : Int)) : c159_78 f 93 x (lo : Int) 0 (S, G, m) = c159_154 f 93 x (lo : Int) 0 (n : Int) (S, G, m) := by
  unfold c159_78 c159_99 c159_131
  simp (disch := omega) only [cq_gi, cq_gr, cq_a, cq_s, cq_p, cq_pr, cq_is, cq_ar, cq_ab, cq_ln, xq_nz, Option.bind_some, xup2_n, xup2_s, Int.toNat_natCast, Int.reduceToNat, if_pos, if_neg, true_and, and_true, and_self, eq_self, if_true, reduceIte, not_true_eq_false, not_false_eq_true, or_true, true_or, s93 hs, s99 hs, p93_7 hp, h1]
theorem st_159_99y (hs : cSs S) (hp : cPs G) (ey : xwr ((512 : Int) - 1) = 511) (h1 : G 99 1 = 512) (h3 : G 99 3 = 101) (h5 : G 101 511 = (sl : Int)) : c159_99 f 93 x (lo : Int) 1 (S, G, m) = c159_131 f 93 x (lo : Int) 1 (sl : Int) (S, G, m) := by
  have h10 : ¬ (1 : Int) = 0 := by decide
  unfold c159_99
  simp (disch := omega) only [cq_gi, cq_gr, cq_a, cq_s, cq_p, cq_pr, cq_is, cq_ar, cq_ab, cq_ln, xq_nz, Option.bind_some, xup2_n, xup2_s, Int.toNat_natCast, Int.reduceToNat, if_pos, if_neg, true_and, and_true, and_self, eq_self, if_true, reduceIte, not_true_eq_false, not_false_eq_true, or_true, true_or, s93 hs, s99 hs, s101 hs, p93_7 hp, h1, h3, h5, ey, h10]
theorem st_159_131y (hs : cSs S) (hp : cPs G) (ey : xwr ((512 : Int) - 1) = 511) (h1 : G 99 1 = 512) (e1 : c77 f 99 511 (S, G, m) = some (S, G1, m)) : c159_131 f 93 x (lo : Int) 1 (sl : Int) (S, G, m) = c159_154 f 93 x (lo : Int) 1 (sl : Int) (S, G1, m) := by
  have h10 : ¬ (1 : Int) = 0 := by decide
  unfold c159_131
  simp (disch := omega) only [cq_gi, cq_gr, cq_a, cq_s, cq_p, cq_pr, cq_is, cq_ar, cq_ab, cq_ln, xq_nz, Option.bind_some, xup2_n, xup2_s, Int.toNat_natCast, Int.reduceToNat, if_pos, if_neg, true_and, and_true, and_self, eq_self, if_true, reduceIte, not_true_eq_false, not_false_eq_true, or_true, true_or, s93 hs, s99 hs, p93_7 hp, h1, ey, h10, e1]
theorem st_159_78y (hs : cSs S) (hp : cPs G) (hn : ¬ (lo : Int) = 512) (h1 : G 99 1 = 512) : c159_78 f 93 x (lo : Int) 1 (S, G, m) = c159_99 f 93 x (lo : Int) 1 (S, G, m) := by
  have h10 : ¬ (1 : Int) = 0 := by decide
  unfold c159_78
  simp (disch := omega) only [cq_gi, cq_gr, cq_a, cq_s, cq_p, cq_pr, cq_is, cq_ar, cq_ab, cq_ln, xq_nz, Option.bind_some, xup2_n, xup2_s, Int.toNat_natCast, Int.reduceToNat, if_pos, if_neg, true_and, and_true, and_self, eq_self, if_true, reduceIte, not_true_eq_false, not_false_eq_true, or_true, true_or, s93 hs, s99 hs, p93_7 hp, h1, h10, hn]
theorem st_159_78f (hs : cSs S) (hp : cPs G) (h1 : G 99 1 = 512) : c159_78 f 93 x 512 1 (S, G, m) = some (0, (S, G, m)) := by
  have h10 : ¬ (1 : Int) = 0 := by decide
  unfold c159_78
  simp (disch := omega) only [cq_gi, cq_gr, cq_a, cq_s, cq_p, cq_pr, cq_is, cq_ar, cq_ab, cq_ln, xq_nz, Option.bind_some, xup2_n, xup2_s, Int.toNat_natCast, Int.reduceToNat, if_pos, if_neg, true_and, and_true, and_self, eq_self, if_true, reduceIte, not_true_eq_false, not_false_eq_true, or_true, true_or, s93 hs, s99 hs, p93_7 hp, h1, h10]
theorem st_159_n (hs : cSs S) (hp : cPs G) (e : c74 f 99 103 (S, G, m) = some (-1 - (lo : Int), (S, G, m))) (ex : xwr (-1 - (-1 - (lo : Int))) = (lo : Int)) (h1 : G 99 1 = (n : Int)) : c159 f 93 u x (S, G, m) = c159_78 f 93 x (lo : Int) (if n = 512 then 1 else 0) (S, G, m) := by
  have hlt : -1 - (lo : Int) < 0 := by omega
  by_cases c : n = 512
  · have c' : (n : Int) = 512 := by omega
    rw [if_pos c]
    unfold c159
    simp (disch := omega) only [cq_gi, cq_gr, cq_a, cq_s, cq_p, cq_pr, cq_is, cq_ar, cq_ab, cq_ln, xq_nz, Option.bind_some, xup2_n, xup2_s, Int.toNat_natCast, Int.reduceToNat, if_pos, if_neg, true_and, and_true, and_self, eq_self, if_true, reduceIte, not_true_eq_false, not_false_eq_true, or_true, true_or, s93 hs, s99 hs, p93_7 hp, p93_9 hp, e, hlt, h1, ex, c']
  · have c' : ¬ (n : Int) = 512 := by omega
    rw [if_neg c]
    unfold c159
    simp (disch := omega) only [cq_gi, cq_gr, cq_a, cq_s, cq_p, cq_pr, cq_is, cq_ar, cq_ab, cq_ln, xq_nz, Option.bind_some, xup2_n, xup2_s, Int.toNat_natCast, Int.reduceToNat, if_pos, if_neg, true_and, and_true, and_self, eq_self, if_true, reduceIte, not_true_eq_false, not_false_eq_true, or_true, true_or, s93 hs, s99 hs, p93_7 hp, p93_9 hp, e, hlt, h1, ex, c']
end
