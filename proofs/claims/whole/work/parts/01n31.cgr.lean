section
/-! THE CLASS: gatherTwo(), isAboveFloor(), addToGroup() -/
/-- the groups of the class: the rows of loose, with the places of what is gathered -/
def cGr (S : Nat → Nat × Nat × Nat) (G : xG_) (n : Nat) (L : List pRw) : Prop := ∃ T : List pRw, cRw S G 99 n 512 T ∧ T.length = L.length ∧ (∀ i, i < L.length → (T.getD i dRw).1 = (L.getD i dRw).1 ∧ ∃ k : Nat, (T.getD i dRw).2 = (k : Int) ∧ k < L.length ∧ G 102 k = (L.getD i dRw).2) ∧ ∀ i j, i < j → j < L.length → (T.getD i dRw).2 ≠ (T.getD j dRw).2
section
variable {f u n lo sl : Nat} {S : Nat → Nat × Nat × Nat} {G G1 G2 : xG_} {m : Nat × Nat} {L : List pRw} {kk a b x w : Int} {xs ys : List Int} {r2 : Nat → Int → Int → xT_ → Option (Int × xT_)} {T : xT_}
theorem k_160 (hkk : kk = 1 ∨ kk = 2 ∨ kk = 3 ∨ kk = 4) (h : -9223372036854775808 ≤ a + b ∧ a + b < 9223372036854775808) : c160 f (kk + 9) a b T = some (qCo kk a b, T) := by
  have ew : xwl (a + b) = a + b := xwl_g _ h.1 h.2
  unfold c160 c160_31 qCo xmin xmax
  rcases hkk with k | k | k | k
  · rw [if_pos (by omega), if_pos (by omega), if_pos (.inl k), ew]
  · rw [if_pos (by omega), if_pos (by omega), if_pos (.inr k), ew]
  · subst k
    rfl
  · subst k
    rfl
theorem st_158z (h : n ≤ lo) : c158_2b r2 f 93 (n : Int) (lo : Int) T = some (0, T) := by
  unfold c158_2b
  rw [if_pos (by omega)]
theorem st_158e (hs : cSs S) (hp : cPs G) (hn : n ≤ 4) (h : lo < n) (h1 : G 103 lo = a) (h2 : G 104 lo = a) (ei : xwr ((lo : Int) + 1) = ((lo + 1 : Nat) : Int)) : c158_2b r2 f 93 (n : Int) (lo : Int) (S, G, m) = r2 93 (n : Int) ((lo + 1 : Nat) : Int) (S, G, m) := by
  unfold c158_2b
  simp (disch := omega) only [cq_gi, cq_gr, cq_a, cq_s, cq_p, cq_pr, cq_is, cq_ar, cq_ab, cq_ln, xq_nz, Option.bind_some, xup2_n, xup2_s, Int.toNat_natCast, Int.reduceToNat, if_pos, if_neg, true_and, and_true, and_self, eq_self, if_true, reduceIte, not_true_eq_false, not_false_eq_true, or_true, true_or, s93 hs, s103 hs, s104 hs, p93_9 hp, p93_10 hp, h1, h2, ei]
theorem st_158n (hs : cSs S) (hp : cPs G) (hn : n ≤ 4) (h : lo < n) (h1 : G 103 lo = a) (h2 : G 104 lo = b) (hab : a ≠ b) : c158_2b r2 f 93 (n : Int) (lo : Int) (S, G, m) = some (if b < a then 1 else 0, (S, G, m)) := by
  by_cases c : b < a
  · rw [if_pos c]
    unfold c158_2b c158_44
    simp (disch := omega) only [cq_gi, cq_gr, cq_a, cq_s, cq_p, cq_pr, cq_is, cq_ar, cq_ab, cq_ln, xq_nz, Option.bind_some, xup2_n, xup2_s, Int.toNat_natCast, Int.reduceToNat, if_pos, if_neg, true_and, and_true, and_self, eq_self, if_true, reduceIte, not_true_eq_false, not_false_eq_true, or_true, true_or, s93 hs, s103 hs, s104 hs, p93_9 hp, p93_10 hp, h1, h2, hab]
  · rw [if_neg c]
    unfold c158_2b c158_44
    simp (disch := omega) only [cq_gi, cq_gr, cq_a, cq_s, cq_p, cq_pr, cq_is, cq_ar, cq_ab, cq_ln, xq_nz, Option.bind_some, xup2_n, xup2_s, Int.toNat_natCast, Int.reduceToNat, if_pos, if_neg, true_and, and_true, and_self, eq_self, if_true, reduceIte, not_true_eq_false, not_false_eq_true, or_true, true_or, s93 hs, s103 hs, s104 hs, p93_9 hp, p93_10 hp, h1, h2, hab]
/-- isAboveFloor() -/
theorem k_158 (hf : 10 < f) (hs : cSs S) (hp : cPs G) (hn : n ≤ 4) (hx : xs.length = n) (hy : ys.length = n) (h1 : ∀ c, c < n → G 103 c = xs.getD c 0) (h2 : ∀ c, c < n → G 104 c = ys.getD c 0) : c158 f 93 (n : Int) (S, G, m) = some (if vCmp ys xs < 0 then 1 else 0, (S, G, m)) := by
  have loop : ∀ (d c fu : Nat), c + d = n → d < fu → c158_2 f fu 93 (n : Int) (c : Int) (S, G, m) = some (if vCmp (ys.drop c) (xs.drop c) < 0 then 1 else 0, (S, G, m)) := by
    intro d
    induction d with
    | zero =>
      intro c fu e1 e2
      obtain ⟨fu, rfl⟩ : ∃ t, fu = t + 1 := ⟨fu - 1, by omega⟩
      have st : c158_2 f (fu + 1) 93 (n : Int) (c : Int) (S, G, m) = _ := st_158z (r2 := c158_2 f fu) (by omega)
      rw [st, List.drop_eq_nil_of_le (by omega), List.drop_eq_nil_of_le (by omega)]
      rfl
    | succ d ih =>
      intro c fu e1 e2
      obtain ⟨fu, rfl⟩ : ∃ t, fu = t + 1 := ⟨fu - 1, by omega⟩
      have ei : xwr ((c : Int) + 1) = ((c + 1 : Nat) : Int) := by rw [xwr_g _ (by omega) (by omega)]; omega
      have g1 := h1 c (by omega)
      have g2 := h2 c (by omega)
      rw [getD_e (by omega : c < xs.length)] at g1
      rw [getD_e (by omega : c < ys.length)] at g2
      rw [List.drop_eq_getElem_cons (by omega : c < ys.length), List.drop_eq_getElem_cons (by omega : c < xs.length)]
      show _ = some (if (if ys[c] = xs[c] then vCmp (ys.drop (c + 1)) (xs.drop (c + 1)) else if ys[c] < xs[c] then -1 else 1) < 0 then 1 else 0, (S, G, m))
      by_cases q : ys[c] = xs[c]
      · rw [if_pos q]
        rw [q] at g2
        have st : c158_2 f (fu + 1) 93 (n : Int) (c : Int) (S, G, m) = _ := st_158e (r2 := c158_2 f fu) hs hp hn (by omega) g1 g2 ei
        rw [st]
        exact ih (c + 1) fu (by omega) (by omega)
      · rw [if_neg q]
        have st : c158_2 f (fu + 1) 93 (n : Int) (c : Int) (S, G, m) = _ := st_158n (r2 := c158_2 f fu) hs hp hn (by omega) g1 g2 (fun y => q y.symm)
        rw [st]
        by_cases q2 : ys[c] < xs[c]
        · rw [if_pos q2, if_pos q2, if_pos (by decide)]
        · rw [if_neg q2, if_neg q2, if_neg (by decide)]
  have := loop n 0 f (by omega) (by omega)
  rw [List.drop_zero, List.drop_zero] at this
  exact this
theorem st_159y (hs : cSs S) (hp : cPs G) (us : S u = (1, 6, 20)) (e : c74 f 99 103 (S, G, m) = some ((lo : Int), (S, G, m))) (hlo : lo < 512) (h3 : G 99 3 = 101) (h1 : G 101 lo = (sl : Int)) (hsl : sl < 512) (h2 : G 102 sl = a) (h4 : G u 4 = kk) (e2 : c160 f kk a x (S, G, m) = some (w, (S, G, m))) : c159 f 93 u x (S, G, m) = some (1, (S, xup2 G 102 sl w, m)) := by
  have hlt : ¬ (lo : Int) < 0 := by omega
  unfold c159
  simp (disch := omega) only [cq_gi, cq_gr, cq_a, cq_s, cq_p, cq_pr, cq_is, cq_ar, cq_ab, cq_ln, xq_nz, Option.bind_some, xup2_n, xup2_s, Int.toNat_natCast, Int.reduceToNat, if_pos, if_neg, true_and, and_true, and_self, eq_self, if_true, reduceIte, not_true_eq_false, not_false_eq_true, or_true, true_or, s93 hs, s99 hs, s101 hs, s102 hs, p93_7 hp, p93_8 hp, p93_9 hp, us, e, hlt, h3, h1, h2, h4, e2]
theorem st_159_154n (hs : cSs S) (hp : cPs G) (hp1 : cPs G1) (hn : n < 512) (e2 : c76 f 99 (lo : Int) 103 (n : Int) (S, G, m) = some (S, G1, m)) : c159_154 f 93 x (lo : Int) 0 (n : Int) (S, G, m) = some (1, (S, xup2 G1 102 n x, m)) := by
  unfold c159_154 c159_187
  simp (disch := omega) only [cq_gi, cq_gr, cq_a, cq_s, cq_p, cq_pr, cq_is, cq_ar, cq_ab, cq_ln, xq_nz, Option.bind_some, xup2_n, xup2_s, Int.toNat_natCast, Int.reduceToNat, if_pos, if_neg, true_and, and_true, and_self, eq_self, if_true, reduceIte, not_true_eq_false, not_false_eq_true, or_true, true_or, s93 hs, s99 hs, s102 hs, p93_7 hp, p93_8 hp1, p93_9 hp, e2]
theorem st_159_154y (hs : cSs S) (hp : cPs G) (hp1 : cPs G1) (hn : sl < 512) (e2 : c76 f 99 (lo : Int) 103 (sl : Int) (S, G, m) = some (S, G1, m)) : c159_154 f 93 x (lo : Int) 1 (sl : Int) (S, G, m) = some (0, (S, xup2 G1 102 sl x, m)) := by
  unfold c159_154 c159_187
  simp (disch := omega) only [cq_gi, cq_gr, cq_a, cq_s, cq_p, cq_pr, cq_is, cq_ar, cq_ab, cq_ln, xq_nz, Option.bind_some, xup2_n, xup2_s, Int.toNat_natCast, Int.reduceToNat, if_pos, if_neg, true_and, and_true, and_self, eq_self, if_true, reduceIte, not_true_eq_false, not_false_eq_true, or_true, true_or, s93 hs, s99 hs, s102 hs, p93_7 hp, p93_8 hp1, p93_9 hp, e2]
theorem st_159_78n (hs : cSs S) (hp : cPs G) (h1 : G 99 1 = (n : Int)) : c159_78 f 93 x (lo : Int) 0 (S, G, m) = c159_154 f 93 x (lo : Int) 0 (n : Int) (S, G, m) := by
  unfold c159_78 c159_99 c159_131
  simp (disch := omega) only [cq_gi, cq_gr, cq_a, cq_s, cq_p, cq_pr, cq_is, cq_ar, cq_ab, cq_ln, xq_nz, Option.bind_some, xup2_n, xup2_s, Int.toNat_natCast, Int.reduceToNat, if_pos, if_neg, true_and, and_true, and_self, eq_self, if_true, reduceIte, not_true_eq_false, not_false_eq_true, or_true, true_or, s93 hs, s99 hs, p93_7 hp, h1]
theorem st_159_99y (hs : cSs S) (hp : cPs G) (ey : xwr ((512 : Int) - 1) = 511) (h1 : G 99 1 = 512) (h3 : G 99 3 = 101) (h5 : G 101 511 = (sl : Int)) : c159_99 f 93 x (lo : Int) 1 (S, G, m) = c159_131 f 93 x (lo : Int) 1 (sl : Int) (S, G, m) := by
  have h10 : ¬ (1 : Int) = 0 := by decide
  unfold c159_99
  simp (disch := omega) only [cq_gi, cq_gr, cq_a, cq_s, cq_p, cq_pr, cq_is, cq_ar, cq_ab, cq_ln, xq_nz, Option.bind_some, xup2_n, xup2_s, Int.toNat_natCast, Int.reduceToNat, if_pos, if_neg, true_and, and_true, and_self, eq_self, if_true, reduceIte, not_true_eq_false, not_false_eq_true, or_true, true_or, s93 hs, s99 hs, s101 hs, p93_7 hp, h1, h3, h5, ey, h10]
theorem st_159_131y (hs : cSs S) (hp : cPs G) (ey : xwr ((512 : Int) - 1) = 511) (h1 : G 99 1 = 512) (e1 : c77 f 99 511 (S, G, m) = some (S, G1, m)) : c159_131 f 93 x (lo : Int) 1 (sl : Int) (S, G, m) = c159_154 f 93 x (lo : Int) 1 (sl : Int) (S, G1, m) := by
  have h10 : ¬ (1 : Int) = 0 := by decide
  unfold c159_131
  simp (disch := omega) only [cq_gi, cq_gr, cq_a, cq_s, cq_p, cq_pr, cq_is, cq_ar, cq_ab, cq_ln, xq_nz, Option.bind_some, xup2_n, xup2_s, Int.toNat_natCast, Int.reduceToNat, if_pos, if_neg, true_and, and_true, and_self, eq_self, if_true, reduceIte, not_true_eq_false, not_false_eq_true, or_true, true_or, s93 hs, s99 hs, p93_7 hp, h1, ey, h10, e1]
theorem st_159_78y (hs : cSs S) (hp : cPs G) (hn : ¬ (lo : Int) = 512) (h1 : G 99 1 = 512) : c159_78 f 93 x (lo : Int) 1 (S, G, m) = c159_99 f 93 x (lo : Int) 1 (S, G, m) := by
  have h10 : ¬ (1 : Int) = 0 := by decide
  unfold c159_78
  simp (disch := omega) only [cq_gi, cq_gr, cq_a, cq_s, cq_p, cq_pr, cq_is, cq_ar, cq_ab, cq_ln, xq_nz, Option.bind_some, xup2_n, xup2_s, Int.toNat_natCast, Int.reduceToNat, if_pos, if_neg, true_and, and_true, and_self, eq_self, if_true, reduceIte, not_true_eq_false, not_false_eq_true, or_true, true_or, s93 hs, s99 hs, p93_7 hp, h1, h10, hn]
theorem st_159_78f (hs : cSs S) (hp : cPs G) (h1 : G 99 1 = 512) : c159_78 f 93 x 512 1 (S, G, m) = some (0, (S, G, m)) := by
  have h10 : ¬ (1 : Int) = 0 := by decide
  unfold c159_78
  simp (disch := omega) only [cq_gi, cq_gr, cq_a, cq_s, cq_p, cq_pr, cq_is, cq_ar, cq_ab, cq_ln, xq_nz, Option.bind_some, xup2_n, xup2_s, Int.toNat_natCast, Int.reduceToNat, if_pos, if_neg, true_and, and_true, and_self, eq_self, if_true, reduceIte, not_true_eq_false, not_false_eq_true, or_true, true_or, s93 hs, s99 hs, p93_7 hp, h1, h10]
theorem st_159_n (hs : cSs S) (hp : cPs G) (e : c74 f 99 103 (S, G, m) = some (-1 - (lo : Int), (S, G, m))) (ex : xwr (-1 - (-1 - (lo : Int))) = (lo : Int)) (h1 : G 99 1 = (n : Int)) : c159 f 93 u x (S, G, m) = c159_78 f 93 x (lo : Int) (if n = 512 then 1 else 0) (S, G, m) := by
  have hlt : -1 - (lo : Int) < 0 := by omega
  by_cases c : n = 512
  · have c' : (n : Int) = 512 := by omega
    rw [if_pos c]
    unfold c159
    simp (disch := omega) only [cq_gi, cq_gr, cq_a, cq_s, cq_p, cq_pr, cq_is, cq_ar, cq_ab, cq_ln, xq_nz, Option.bind_some, xup2_n, xup2_s, Int.toNat_natCast, Int.reduceToNat, if_pos, if_neg, true_and, and_true, and_self, eq_self, if_true, reduceIte, not_true_eq_false, not_false_eq_true, or_true, true_or, s93 hs, s99 hs, p93_7 hp, p93_9 hp, e, hlt, h1, ex, c']
  · have c' : ¬ (n : Int) = 512 := by omega
    rw [if_neg c]
    unfold c159
    simp (disch := omega) only [cq_gi, cq_gr, cq_a, cq_s, cq_p, cq_pr, cq_is, cq_ar, cq_ab, cq_ln, xq_nz, Option.bind_some, xup2_n, xup2_s, Int.toNat_natCast, Int.reduceToNat, if_pos, if_neg, true_and, and_true, and_self, eq_self, if_true, reduceIte, not_true_eq_false, not_false_eq_true, or_true, true_or, s93 hs, s99 hs, p93_7 hp, p93_9 hp, e, hlt, h1, ex, c']
end
end
section
/-! THE CLASS: addToGroup() -/
section
variable {f u n lo sl : Nat} {S : Nat → Nat × Nat × Nat} {G G1 G2 : xG_} {m : Nat × Nat} {L T : List pRw} {kk a b x w : Int} {xs ys : List Int}
theorem sr_bd (h : isSr T xs 0 lo) (hl : ∀ i, i < T.length → (T.getD i dRw).1.length = xs.length) (hne : ∀ r ∈ T, r.1 ≠ xs) : (∀ j, j < lo → vLt (T.getD j dRw).1 xs) ∧ ∀ j, lo ≤ j → j < T.length → vLt xs (T.getD j dRw).1 := by
  obtain ⟨a1, a2, a3⟩ := h
  refine ⟨fun j hj => ?_, fun j h1 h2 => ?_⟩
  · have l1 := hl j (by omega)
    have := a2 j hj
    rw [List.take_of_length_le (by omega)] at this
    exact (vLt_iff l1).mpr this
  · have l1 := hl j h2
    have := a3 j h1 h2
    rw [List.take_of_length_le (by omega)] at this
    have ne : vCmp (T.getD j dRw).1 xs ≠ 0 := fun q => hne (T.getD j dRw) (by rw [getD_e h2]; exact List.getElem_mem h2) (vCmp_eq l1 q)
    refine (vLt_iff l1.symm).mpr ?_
    rw [vCmp_anti (T.getD j dRw).1 xs]
    omega
/-- places of what is gathered -/
theorem gr_ins (hT : T.length = L.length) (h1 : ∀ i, i < L.length → (T.getD i dRw).1 = (L.getD i dRw).1 ∧ ∃ k : Nat, (T.getD i dRw).2 = (k : Int) ∧ k < L.length ∧ G 102 k = (L.getD i dRw).2) (h2 : ∀ i j, i < j → j < L.length → (T.getD i dRw).2 ≠ (T.getD j dRw).2) (hlo : lo ≤ L.length) (hsl : sl = L.length) (hG : ∀ k, k ≠ sl → G1 102 k = G 102 k) (hx : G1 102 sl = x) :
    (T.take lo ++ (xs, (sl : Int)) :: T.drop lo).length = (L.take lo ++ (xs, x) :: L.drop lo).length ∧ (∀ i, i < (L.take lo ++ (xs, x) :: L.drop lo).length → ((T.take lo ++ (xs, (sl : Int)) :: T.drop lo).getD i dRw).1 = ((L.take lo ++ (xs, x) :: L.drop lo).getD i dRw).1 ∧ ∃ k : Nat, ((T.take lo ++ (xs, (sl : Int)) :: T.drop lo).getD i dRw).2 = (k : Int) ∧ k < (L.take lo ++ (xs, x) :: L.drop lo).length ∧ G1 102 k = ((L.take lo ++ (xs, x) :: L.drop lo).getD i dRw).2) ∧ ∀ i j, i < j → j < (L.take lo ++ (xs, x) :: L.drop lo).length → ((T.take lo ++ (xs, (sl : Int)) :: T.drop lo).getD i dRw).2 ≠ ((T.take lo ++ (xs, (sl : Int)) :: T.drop lo).getD j dRw).2 := by
  rw [len_ins hlo, len_ins (by omega : lo ≤ T.length)]
  have old : ∀ i, i < L.length → (T.getD i dRw).2 ≠ (sl : Int) := fun i hi q => by
    obtain ⟨k, k1, k2, _⟩ := (h1 i hi).2
    omega
  refine ⟨by omega, fun i hi => ?_, fun i j hij hj => ?_⟩
  · rw [getD_ins hlo, getD_ins (by omega : lo ≤ T.length)]
    by_cases c1 : i < lo
    · rw [if_pos c1, if_pos c1]
      obtain ⟨e, k, k1, k2, k3⟩ := h1 i (by omega)
      exact ⟨e, k, k1, by omega, by rw [hG k (by omega)]; exact k3⟩
    · rw [if_neg c1, if_neg c1]
      by_cases c2 : i = lo
      · rw [if_pos c2, if_pos c2]
        exact ⟨rfl, sl, rfl, by omega, hx⟩
      · rw [if_neg c2, if_neg c2]
        obtain ⟨e, k, k1, k2, k3⟩ := h1 (i - 1) (by omega)
        exact ⟨e, k, k1, by omega, by rw [hG k (by omega)]; exact k3⟩
  · rw [getD_ins (by omega : lo ≤ T.length), getD_ins (by omega : lo ≤ T.length)]
    by_cases c1 : i < lo
    · rw [if_pos c1]
      by_cases d1 : j < lo
      · rw [if_pos d1]; exact h2 i j hij (by omega)
      · rw [if_neg d1]
        by_cases d2 : j = lo
        · rw [if_pos d2]; exact old i (by omega)
        · rw [if_neg d2]; exact h2 i (j - 1) (by omega) (by omega)
    · rw [if_neg c1, if_neg (by omega : ¬ j < lo), if_neg (by omega : ¬ j = lo)]
      by_cases c2 : i = lo
      · rw [if_pos c2]; exact fun q => old (j - 1) (by omega) q.symm
      · rw [if_neg c2]; exact h2 (i - 1) (j - 1) (by omega) (by omega)
/-- the same where all places are taken: the last gives its place -/
theorem gr_full (hT : T.length = 512) (hl : L.length = 512) (h1 : ∀ i, i < L.length → (T.getD i dRw).1 = (L.getD i dRw).1 ∧ ∃ k : Nat, (T.getD i dRw).2 = (k : Int) ∧ k < L.length ∧ G 102 k = (L.getD i dRw).2) (h2 : ∀ i j, i < j → j < L.length → (T.getD i dRw).2 ≠ (T.getD j dRw).2) (hlo : lo < 512) (hsl : (T.getD 511 dRw).2 = (sl : Int)) (hG : ∀ k, k ≠ sl → G1 102 k = G 102 k) (hx : G1 102 sl = x) {T1 : List pRw} (hT1 : T1 = T.take 511 ++ T.drop 512) :
    (T1.take lo ++ (xs, (sl : Int)) :: T1.drop lo).length = ((L.take lo ++ (xs, x) :: L.drop lo).take 512).length ∧ (∀ i, i < ((L.take lo ++ (xs, x) :: L.drop lo).take 512).length → ((T1.take lo ++ (xs, (sl : Int)) :: T1.drop lo).getD i dRw).1 = (((L.take lo ++ (xs, x) :: L.drop lo).take 512).getD i dRw).1 ∧ ∃ k : Nat, ((T1.take lo ++ (xs, (sl : Int)) :: T1.drop lo).getD i dRw).2 = (k : Int) ∧ k < ((L.take lo ++ (xs, x) :: L.drop lo).take 512).length ∧ G1 102 k = (((L.take lo ++ (xs, x) :: L.drop lo).take 512).getD i dRw).2) ∧ ∀ i j, i < j → j < ((L.take lo ++ (xs, x) :: L.drop lo).take 512).length → ((T1.take lo ++ (xs, (sl : Int)) :: T1.drop lo).getD i dRw).2 ≠ ((T1.take lo ++ (xs, (sl : Int)) :: T1.drop lo).getD j dRw).2 := by
  have hl1 : T1.length = 511 := by rw [hT1, len_del (k := 511) (by omega)]; omega
  have g1 : ∀ i, i < 511 → T1.getD i dRw = T.getD i dRw := fun i hi => by rw [hT1, getD_del (k := 511) (by omega), if_pos hi]
  have hlen : ((L.take lo ++ (xs, x) :: L.drop lo).take 512).length = 512 := by rw [len_t, len_ins (by omega)]; omega
  have hsl5 : sl < 512 := by
    obtain ⟨k, k1, k2, _⟩ := (h1 511 (by omega)).2
    omega
  have old : ∀ i, i < 511 → (T.getD i dRw).2 ≠ (sl : Int) := fun i hi q => h2 i 511 (by omega) (by omega) (by rw [q, hsl])
  rw [hlen, len_ins (by omega : lo ≤ T1.length)]
  refine ⟨by omega, fun i hi => ?_, fun i j hij hj => ?_⟩
  · rw [getD_tk hi, getD_ins (by omega : lo ≤ L.length), getD_ins (by omega : lo ≤ T1.length)]
    by_cases c1 : i < lo
    · rw [if_pos c1, if_pos c1, g1 i (by omega)]
      obtain ⟨e, k, k1, k2, k3⟩ := h1 i (by omega)
      have := old i (by omega)
      exact ⟨e, k, k1, by omega, by rw [hG k (by omega)]; exact k3⟩
    · rw [if_neg c1, if_neg c1]
      by_cases c2 : i = lo
      · rw [if_pos c2, if_pos c2]
        exact ⟨rfl, sl, rfl, by omega, hx⟩
      · rw [if_neg c2, if_neg c2, g1 (i - 1) (by omega)]
        obtain ⟨e, k, k1, k2, k3⟩ := h1 (i - 1) (by omega)
        have := old (i - 1) (by omega)
        exact ⟨e, k, k1, by omega, by rw [hG k (by omega)]; exact k3⟩
  · rw [getD_ins (by omega : lo ≤ T1.length), getD_ins (by omega : lo ≤ T1.length)]
    by_cases c1 : i < lo
    · rw [if_pos c1, g1 i (by omega)]
      by_cases d1 : j < lo
      · rw [if_pos d1, g1 j (by omega)]; exact h2 i j hij (by omega)
      · rw [if_neg d1]
        by_cases d2 : j = lo
        · rw [if_pos d2]; exact old i (by omega)
        · rw [if_neg d2, g1 (j - 1) (by omega)]; exact h2 i (j - 1) (by omega) (by omega)
    · rw [if_neg c1, if_neg (by omega : ¬ j < lo), if_neg (by omega : ¬ j = lo), g1 (j - 1) (by omega)]
      by_cases c2 : i = lo
      · rw [if_pos c2]; exact fun q => old (j - 1) (by omega) q.symm
      · rw [if_neg c2, g1 (i - 1) (by omega)]; exact h2 (i - 1) (j - 1) (by omega) (by omega)
/-- addToGroup() -/
theorem k_159 (hf : 600 < f) (hs : cSs S) (hp : cPs G) (us : S u = (1, 6, 20)) (hu : 278 < u) (h4 : G u 4 = kk + 9) (hkk : kk = 1 ∨ kk = 2 ∨ kk = 3 ∨ kk = 4) (hn : n ≤ 4) (h : cGr S G n L) (hL : L.Pairwise rwLt) (hxl : xs.length = n) (hxs : ∀ c, c < n → G 103 c = xs.getD c 0) (hb : ∀ y ∈ L, -4000000000000000000 ≤ y.2 ∧ y.2 ≤ 4000000000000000000) (hx : -4000000000000 ≤ x ∧ x ≤ 4000000000000) : ∃ v G', c159 f 93 u x (S, G, m) = some (v, (S, G', m)) ∧ (∀ b j, ¬ (b = 99 ∧ j = 1) → b ≠ 100 → b ≠ 101 → b ≠ 102 → G' b j = G b j) ∧ cPs G' ∧
    ((v = 1 ∧ ∃ i, i < L.length ∧ (L.getD i dRw).1 = xs ∧ cGr S G' n (L.set i (xs, qCo kk (L.getD i dRw).2 x))) ∨
     ((∀ y ∈ L, y.1 ≠ xs) ∧ ∃ i, i ≤ L.length ∧ (∀ j, j < i → vLt (L.getD j dRw).1 xs) ∧ (∀ j, i ≤ j → j < L.length → vLt xs (L.getD j dRw).1) ∧ v = (if L.length = 512 then 0 else 1) ∧ cGr S G' n ((L.take i ++ (xs, x) :: L.drop i).take 512))) := by
  obtain ⟨T, t1, t2, t3, t4⟩ := h
  have hTl : ∀ i, i < T.length → (T.getD i dRw).1.length = n := fun i hi => (t1.2.2.2.2.2.2.2 i hi).1
  have hT5 := t1.2.2.2.2.1
  have hTs : T.Pairwise rwLt := by
    rw [List.pairwise_iff_getElem]
    intro i j hi hj hij
    rw [← getD_e (d := dRw) hi, ← getD_e (d := dRw) hj]
    show vLt _ _
    rw [(t3 i (by omega)).1, (t3 j (by omega)).1]
    exact srt_get (d := dRw) hL hij (by omega)
  obtain ⟨v, v1, lo, v2, v3⟩ := k_74 (f := f) (m := m) (kl := xs) (a := 103) hf t1 hTs hxl ⟨⟨4, s103 hs, by omega⟩, fun c hc => hxs c (by omega)⟩
  have g0 : ∀ {G1 : xG_}, (∀ b j, ¬ (b = 99 ∧ j = 1) → b ≠ 100 → b ≠ 101 → b ≠ 102 → G1 b j = G b j) → cPs G1 := fun {G1} z => hp.ge (fun b j hz => by
    have : ¬ (b = 99 ∧ j = 1) ∧ b ≠ 100 ∧ b ≠ 101 ∧ b ≠ 102 := by
      rcases hz with z | z | z | z | z | z | z | ⟨z, z1, z2, k, z3⟩ | z | z | z | ⟨k, z1, z2, z3⟩ <;> omega
    exact z b j this.1 this.2.1 this.2.2.1 this.2.2.2)
  rcases v3 with ⟨y1, y2, y3⟩ | ⟨y1, y2⟩
  · obtain ⟨e, k, k1, k2, k3⟩ := t3 lo (by omega)
    have hLm : L.getD lo dRw ∈ L := by rw [getD_e (by omega : lo < L.length)]; exact List.getElem_mem _
    have hbl := hb _ hLm
    have st := st_159y (u := u) (x := x) hs hp us (by rw [y1] at v1; exact v1) (by omega) t1.2.2.2.1.2.2.2 (by rw [(t1.2.2.2.2.2.2.2 lo y2).2.2]; exact k1) (by omega) k3 h4 (k_160 (T := (S, G, m)) hkk (by omega))
    have fr : ∀ b j, ¬ (b = 99 ∧ j = 1) → b ≠ 100 → b ≠ 101 → b ≠ 102 → xup2 G 102 k (qCo kk (L.getD lo dRw).2 x) b j = G b j := fun b j _ _ _ q => xup2_n (by omega)
    refine ⟨1, _, st, fr, g0 fr, .inl ⟨rfl, lo, by omega, by rw [← e]; exact y3, T, t1.ge (fun _ _ _ => rfl) (fun j => xup2_n (by omega)) (fun j => xup2_n (by omega)) (fun j => xup2_n (by omega)), by rw [List.length_set]; exact t2, fun i hi => ?_, fun i j hij hj => t4 i j hij (by rw [List.length_set] at hj; exact hj)⟩⟩
    rw [List.length_set] at hi ⊢
    rw [getD_set (by omega : lo < L.length)]
    obtain ⟨e', k', k1', k2', k3'⟩ := t3 i hi
    by_cases ci : i = lo
    · rw [if_pos ci]
      subst ci
      exact ⟨y3, k, k1, k2, xup2_s _ _ _ _⟩
    · rw [if_neg ci]
      refine ⟨e', k', k1', k2', ?_⟩
      have hkk' : k' ≠ k := fun q => by
        subst q
        by_cases c : i < lo
        · exact t4 i lo c (by omega) (by rw [k1', k1])
        · exact t4 lo i (by omega) hi (by rw [k1', k1])
      rw [xup2_n (by omega)]
      exact k3'
  · have hne : ∀ y ∈ L, y.1 ≠ xs := fun y hy q => by
      obtain ⟨j, hj, rfl⟩ := mem_get.mp hy
      exact y2 (T.getD j dRw) (by rw [getD_e (by omega : j < T.length)]; exact List.getElem_mem _) (by rw [(t3 j hj).1]; exact q)
    have hlo := v2.1
    obtain ⟨b1, b2⟩ := sr_bd v2 (fun i hi => by rw [hTl i hi, hxl]) y2
    have b1' : ∀ j, j < lo → vLt (L.getD j dRw).1 xs := fun j hj => by rw [← (t3 j (by omega)).1]; exact b1 j hj
    have b2' : ∀ j, lo ≤ j → j < L.length → vLt xs (L.getD j dRw).1 := fun j h1 h2 => by rw [← (t3 j h2).1]; exact b2 j h1 (by omega)
    rw [y1] at v1
    have st := st_159_n (u := u) (x := x) hs hp v1 (by rw [xwr_g _ (by omega) (by omega)]; omega) t1.2.2.2.1.2.1
    by_cases c : T.length = 512
    · rw [if_pos c] at st
      by_cases c2 : lo = 512
      · subst c2
        refine ⟨0, G, st.trans (st_159_78f hs hp (by rw [t1.2.2.2.1.2.1, c]; rfl)), fun _ _ _ _ _ _ => rfl, hp, .inr ⟨hne, 512, by omega, b1', b2', by rw [if_pos (by omega)], ?_⟩⟩
        rw [List.take_left' (by rw [len_t]; omega), List.take_of_length_le (by omega)]
        exact ⟨T, t1, t2, t3, t4⟩
      · obtain ⟨e, sl, k1, k2, k3⟩ := t3 511 (by omega)
        obtain ⟨G1, g1, g2, g3⟩ := k_77 (f := f) (m := m) (p := 511) t1 (by omega)
        have hl1 : (T.take 511 ++ T.drop (511 + 1)).length = 511 := by rw [len_del (k := 511) (by omega)]; omega
        obtain ⟨G2, i1, i2, i3⟩ := k_76 (f := f) (m := m) (rk := (sl : Int)) (p := lo) (a := 103) (kl := xs) g3 (by omega) (by omega) (s103 hs) (by omega) (by omega) hxl (fun c hc => by rw [g2 _ _ (by omega) (by omega) (by omega)]; exact hxs c hc)
        have f1 : ∀ b j, ¬ (b = 99 ∧ j = 1) → b ≠ 100 → b ≠ 101 → b ≠ 102 → G1 b j = G b j := fun b j q1 q2 q3 _ => g2 b j q1 q2 q3
        have f2 : ∀ b j, ¬ (b = 99 ∧ j = 1) → b ≠ 100 → b ≠ 101 → b ≠ 102 → G2 b j = G b j := fun b j q1 q2 q3 q4 => (i2 b j q1 q2 q3).trans (f1 b j q1 q2 q3 q4)
        have fr : ∀ b j, ¬ (b = 99 ∧ j = 1) → b ≠ 100 → b ≠ 101 → b ≠ 102 → xup2 G2 102 sl x b j = G b j := fun b j q1 q2 q3 q4 => by rw [xup2_n (by omega)]; exact f2 b j q1 q2 q3 q4
        have ey : xwr ((512 : Int) - 1) = 511 := by decide
        have h15 : G 99 1 = 512 := by rw [t1.2.2.2.1.2.1, c]; rfl
        have st2 := st.trans ((st_159_78y (x := x) hs hp (by omega : ¬ (lo : Int) = 512) h15).trans ((st_159_99y hs hp ey h15 t1.2.2.2.1.2.2.2 (by rw [← k1]; exact (t1.2.2.2.2.2.2.2 511 (by omega)).2.2)).trans ((st_159_131y hs hp ey h15 g1).trans (st_159_154y hs (g0 f1) (g0 f2) (by omega) i1))))
        have gf := gr_full (xs := xs) (x := x) (G := G) (G1 := xup2 G2 102 sl x) (lo := lo) (sl := sl) c (by omega) t3 t4 (by omega) k1 (fun k hk => by rw [xup2_n (by omega), i2 _ _ (by omega) (by omega) (by omega), g2 _ _ (by omega) (by omega) (by omega)]) (xup2_s _ _ _ _) rfl
        refine ⟨0, _, st2, fr, g0 fr, .inr ⟨hne, lo, by omega, b1', b2', by rw [if_pos (by omega)], _, i3.ge (fun _ _ _ => rfl) (fun j => xup2_n (by omega)) (fun j => xup2_n (by omega)) (fun j => xup2_n (by omega)), gf⟩⟩
    · rw [if_neg c] at st
      obtain ⟨G1, i1, i2, i3⟩ := k_76 (f := f) (m := m) (rk := (T.length : Int)) (p := lo) (a := 103) (kl := xs) t1 hlo (by omega) (s103 hs) (by omega) (by omega) hxl hxs
      have f1 : ∀ b j, ¬ (b = 99 ∧ j = 1) → b ≠ 100 → b ≠ 101 → b ≠ 102 → G1 b j = G b j := fun b j q1 q2 q3 _ => i2 b j q1 q2 q3
      have fr : ∀ b j, ¬ (b = 99 ∧ j = 1) → b ≠ 100 → b ≠ 101 → b ≠ 102 → xup2 G1 102 T.length x b j = G b j := fun b j q1 q2 q3 q4 => by rw [xup2_n (by omega)]; exact f1 b j q1 q2 q3 q4
      have st2 := st.trans ((st_159_78n (x := x) hs hp t1.2.2.2.1.2.1).trans (st_159_154n hs hp (g0 f1) (by omega) i1))
      refine ⟨1, _, st2, fr, g0 fr, .inr ⟨hne, lo, by omega, b1', b2', by rw [if_neg (by omega)], ?_⟩⟩
      rw [List.take_of_length_le (by rw [len_ins (by omega)]; omega)]
      exact ⟨_, i3.ge (fun _ _ _ => rfl) (fun j => xup2_n (by omega)) (fun j => xup2_n (by omega)) (fun j => xup2_n (by omega)), gr_ins t2 t3 t4 (by omega) t2 (fun k hk => by rw [xup2_n (by omega), i2 _ _ (by omega) (by omega) (by omega)]) (xup2_s _ _ _ _)⟩
end
end
section
/-! THE CLASS: rows that are given at a level (as a set D), and giveGroups() -/
def gvO (S : Nat → Nat × Nat × Nat) (G : xG_) (p n : Nat) (M F : List pRw) (cm : Int) (D : List Int → Prop) (v : Int) : Prop :=
  (v = 1 ∧ ∃ F', cRw S G (111 + 6 * p) n 100 F' ∧ F'.Pairwise rwLt ∧ (∀ r ∈ F', r.2 = 0) ∧ (F.length ≤ F'.length ∧ (M.length + F.length ≤ 100 → M.length + F'.length ≤ 100)) ∧ G 93 15 = cm + ((F'.length - F.length : Nat) : Int) ∧ ∀ xs, (∃ r ∈ F', r.1 = xs) ↔ (∃ r ∈ F, r.1 = xs) ∨ ((∀ r ∈ M, r.1 ≠ xs) ∧ D xs)) ∨
  (v = 0 ∧ ∃ W : List (List Int), W.Nodup ∧ 100 < M.length + W.length ∧ ∀ xs ∈ W, (∃ r ∈ F, r.1 = xs) ∨ ((∀ r ∈ M, r.1 ≠ xs) ∧ D xs))
section
variable {f u n p i sl gA W kz a : Nat} {S : Nat → Nat × Nat × Nat} {G G1 G2 : xG_} {m : Nat × Nat} {L M F F1 : List pRw} {kk x cm cm1 v w : Int} {kl xs : List Int} {D D1 D2 : List Int → Prop} {r2 : Nat → Nat → Int → xT_ → Option (Int × xT_)}
theorem gvO.cg (h : gvO S G p n M F cm D v) (e : ∀ xs, (∀ r ∈ M, r.1 ≠ xs) → (D xs ↔ D1 xs)) : gvO S G p n M F cm D1 v := by
  rcases h with ⟨a1, F', a2, a3, a4, a5, a6, a7⟩ | ⟨a1, W, a2, a3, a4⟩
  · exact .inl ⟨a1, F', a2, a3, a4, a5, a6, fun xs => (a7 xs).trans (or_congr Iff.rfl ⟨fun q => ⟨q.1, (e xs q.1).mp q.2⟩, fun q => ⟨q.1, (e xs q.1).mpr q.2⟩⟩)⟩
  · exact .inr ⟨a1, W, a2, a3, fun xs hx => (a4 xs hx).imp id (fun q => ⟨q.1, (e xs q.1).mp q.2⟩)⟩
theorem gvO.add (h1 : F.length ≤ F1.length ∧ (M.length + F.length ≤ 100 → M.length + F1.length ≤ 100)) (h2 : cm1 = cm + ((F1.length - F.length : Nat) : Int)) (h3 : ∀ xs, (∃ r ∈ F1, r.1 = xs) ↔ (∃ r ∈ F, r.1 = xs) ∨ ((∀ r ∈ M, r.1 ≠ xs) ∧ D1 xs)) (h : gvO S G p n M F1 cm1 D2 v) : gvO S G p n M F cm (fun z => D1 z ∨ D2 z) v := by
  rcases h with ⟨a1, F', a2, a3, a4, a5, a6, a7⟩ | ⟨a1, W, a2, a3, a4⟩
  · refine .inl ⟨a1, F', a2, a3, a4, by omega, by omega, fun xs => (a7 xs).trans ?_⟩
    rw [h3]
    constructor
    · rintro ((q | ⟨q1, q2⟩) | ⟨q1, q2⟩)
      · exact .inl q
      · exact .inr ⟨q1, .inl q2⟩
      · exact .inr ⟨q1, .inr q2⟩
    · rintro (q | ⟨q1, q2 | q2⟩)
      · exact .inl (.inl q)
      · exact .inl (.inr ⟨q1, q2⟩)
      · exact .inr ⟨q1, q2⟩
  · refine .inr ⟨a1, W, a2, a3, fun xs hx => ?_⟩
    rcases a4 xs hx with q | ⟨q1, q2⟩
    · rcases (h3 xs).mp q with q | ⟨q1, q2⟩
      · exact .inl q
      · exact .inr ⟨q1, .inl q2⟩
    · exact .inr ⟨q1, .inr q2⟩
theorem gvO.no (hF : cRw S G (111 + 6 * p) n 100 F) (hFs : F.Pairwise rwLt) (hF0 : ∀ r ∈ F, r.2 = 0) (hcm : G 93 15 = cm) (hD : ∀ xs, D xs → (∀ r ∈ M, r.1 ≠ xs) → ∃ r ∈ F, r.1 = xs) : gvO S G p n M F cm D 1 :=
  .inl ⟨rfl, F, hF, hFs, hF0, ⟨Nat.le_refl _, id⟩, by rw [hcm, Nat.sub_self]; show cm = cm + 0; omega, fun xs => ⟨.inl, fun q => q.elim id (fun y => hD xs y.2 y.1)⟩⟩
/-- give() -/
theorem k_156g (hf : 600 < f) (hs : cSs S) (hp : cPs G) (hp16 : p < 16) (hM : cRw S G (108 + 6 * p) W 100 M) (hF : cRw S G (111 + 6 * p) W 100 F) (hMs : M.Pairwise rwLt) (hFs : F.Pairwise rwLt) (hF0 : ∀ r ∈ F, r.2 = 0) (hk : kl.length = W) (hK : cKl S G a kl) (has : S a = (2, 4, kz)) (hkz : W ≤ kz) (ha : a < 108) (hcm : G 93 15 = cm) (hcr : 0 ≤ cm ∧ cm ≤ 10000000) : ∃ v G', c156 f 93 (p : Int) a (S, G, m) = some (v, (S, G', m)) ∧ (∀ b j, ¬ (b = 93 ∧ j = 15) → ¬ (111 + 6 * p ≤ b ∧ b ≤ 113 + 6 * p) → G' b j = G b j) ∧ cPs G' ∧ gvO S G' p W M F cm (fun z => z = kl) v := by
  obtain ⟨v, G3, k1, k2, k3, k4⟩ := k_156 (f := f) (m := m) (kl := kl) (a := a) (cm := cm) hf hs hp hp16 hM hF hMs hFs hk hK has hkz ha hcm hcr
  refine ⟨v, G3, k1, fun b j w2 w4 => k2 b j w2 (by omega) (by omega) (by omega), k3, ?_⟩
  rcases k4 with ⟨rfl, rfl, q⟩ | ⟨rfl, rfl, q1, q2, q3⟩ | ⟨rfl, q1, q2, q3, F1, q4, q5, q6, q7⟩
  · refine gvO.no hF hFs hF0 hcm (fun xs e hn => ?_)
    have e' : xs = kl := e
    subst e'
    rcases q with q | ⟨r, r1, r2⟩
    · exact q
    · exact absurd r2 (hn r r1)
  · refine .inr ⟨rfl, kl :: F.map (·.1), ?_, by rw [List.length_cons, List.length_map]; omega, fun xs hx => ?_⟩
    · refine List.nodup_cons.mpr ⟨fun q => ?_, ?_⟩
      · obtain ⟨r, r1, r2⟩ := List.mem_map.mp q
        exact q2 r r1 r2
      · rw [List.nodup_iff_pairwise_ne, List.pairwise_map]
        exact hFs.imp (fun {r1 r2} hab => fun (e : r1.1 = r2.1) => vLt_irr r2.1 (by have hab' : vLt r1.1 r2.1 := hab; rw [e] at hab'; exact hab'))
    · rcases List.mem_cons.mp hx with e | e
      · subst e; exact .inr ⟨q3, rfl⟩
      · obtain ⟨r, r1, r2⟩ := List.mem_map.mp e
        exact .inl ⟨r, r1, r2⟩
  · refine .inl ⟨rfl, F1, q4, q5, fun r hr => ?_, by omega, by rw [q3, q6.1]; omega, fun xs => ?_⟩
    · rcases (q7 r).mp hr with e | e
      · exact hF0 r e
      · rw [e]
    · constructor
      · rintro ⟨r, r1, r2⟩
        rcases (q7 r).mp r1 with e | e
        · exact .inl ⟨r, e, r2⟩
        · rw [e] at r2; subst r2; exact .inr ⟨q2, rfl⟩
      · rintro (⟨r, r1, r2⟩ | ⟨_, e⟩)
        · exact ⟨r, (q7 r).mpr (.inl r1), r2⟩
        · exact ⟨_, (q7 _).mpr (.inr rfl), e.symm⟩
end
def c161a (r2 : Nat → Nat → Int → xT_ → Option (Int × xT_)) (f : Nat) (x0 : Nat) (x1 : Nat) (x2 : Int) (R110 : (xT_)) : Option (Int × xT_) := ((cq_gr 10 7 18 (x0) R110).bind fun v116 => ((cq_gr 10 11 18 (x0) R110).bind fun v118 => ((cq_is 5 4 (v116) R110).bind fun _ => ((c78 f (v116) (x2) (v118) R110).bind fun R120 => ((cq_gr 10 11 18 (x0) R120).bind fun v126 => ((cq_gi 6 3 20 (x1) R120).bind fun v128 => ((cq_gr 10 8 18 (x0) R120).bind fun v130 => ((cq_gr 10 7 18 (x0) R120).bind fun v132 => ((cq_gr 5 3 4 (v132) R120).bind fun v134 => ((cq_a 3 (v134) (x2) R120).bind fun v136 => ((cq_a 4 (v130) (v136) R120).bind fun v138 => ((cq_s 4 (v126) (v128) (v138) R120).bind fun T141 => ((cq_gr 10 11 18 (x0) T141).bind fun v145 => ((cq_gi 6 3 20 (x1) T141).bind fun v147 => ((cq_a 4 (v145) (v147) T141).bind fun v149 => ((c397 f (x1) (v149) T141).bind fun R151 => (if (R151.1) = 0 then c161_93 r2 f (x0) (x1) (x2) R151.2 else ((cq_gi 6 0 20 (x1) R151.2).bind fun v157 => ((cq_gr 10 11 18 (x0) R151.2).bind fun v159 => ((cq_is 10 18 (x0) R151.2).bind fun _ => ((c156 f (x0) (v157) (v159) R151.2).bind fun R161 => (if ¬ (R161.1) = 0 then c161_93 r2 f (x0) (x1) (x2) R161.2 else (some (0, R161.2))))))))))))))))))))))))
theorem c161a_e (r2 : Nat → Nat → Int → xT_ → Option (Int × xT_)) (f : Nat) (x0 : Nat) (x1 : Nat) (x2 : Int) (T : xT_) : c161_2b r2 f x0 x1 x2 T = ((cq_gr 10 7 18 (x0) T).bind fun v101 => ((cq_gi 5 1 4 (v101) T).bind fun v103 => (if (v103) ≤ (x2) then (some (1, T)) else ((cq_gr 10 7 18 (x0) T).bind fun v106 => ((cq_gr 10 10 18 (x0) T).bind fun v108 => ((cq_is 5 4 (v106) T).bind fun _ => ((c78 f (v106) (x2) (v108) T).bind fun R110 => c161a r2 f x0 x1 x2 R110))))))) := rfl
def c161b (r2 : Nat → Nat → Int → xT_ → Option (Int × xT_)) (f : Nat) (x0 : Nat) (x1 : Nat) (x2 : Int) (R120 : (xT_)) : Option (Int × xT_) := ((cq_gr 10 11 18 (x0) R120).bind fun v126 => ((cq_gi 6 3 20 (x1) R120).bind fun v128 => ((cq_gr 10 8 18 (x0) R120).bind fun v130 => ((cq_gr 10 7 18 (x0) R120).bind fun v132 => ((cq_gr 5 3 4 (v132) R120).bind fun v134 => ((cq_a 3 (v134) (x2) R120).bind fun v136 => ((cq_a 4 (v130) (v136) R120).bind fun v138 => ((cq_s 4 (v126) (v128) (v138) R120).bind fun T141 => ((cq_gr 10 11 18 (x0) T141).bind fun v145 => ((cq_gi 6 3 20 (x1) T141).bind fun v147 => ((cq_a 4 (v145) (v147) T141).bind fun v149 => ((c397 f (x1) (v149) T141).bind fun R151 => (if (R151.1) = 0 then c161_93 r2 f (x0) (x1) (x2) R151.2 else ((cq_gi 6 0 20 (x1) R151.2).bind fun v157 => ((cq_gr 10 11 18 (x0) R151.2).bind fun v159 => ((cq_is 10 18 (x0) R151.2).bind fun _ => ((c156 f (x0) (v157) (v159) R151.2).bind fun R161 => (if ¬ (R161.1) = 0 then c161_93 r2 f (x0) (x1) (x2) R161.2 else (some (0, R161.2))))))))))))))))))))
theorem c161b_e (r2 : Nat → Nat → Int → xT_ → Option (Int × xT_)) (f : Nat) (x0 : Nat) (x1 : Nat) (x2 : Int) (R110 : (xT_)) : c161a r2 f x0 x1 x2 R110 = ((cq_gr 10 7 18 (x0) R110).bind fun v116 => ((cq_gr 10 11 18 (x0) R110).bind fun v118 => ((cq_is 5 4 (v116) R110).bind fun _ => ((c78 f (v116) (x2) (v118) R110).bind fun R120 => c161b r2 f x0 x1 x2 R120)))) := rfl
def c161c (r2 : Nat → Nat → Int → xT_ → Option (Int × xT_)) (f : Nat) (x0 : Nat) (x1 : Nat) (x2 : Int) (R151 : (Int × xT_)) : Option (Int × xT_) := (if (R151.1) = 0 then c161_93 r2 f (x0) (x1) (x2) R151.2 else ((cq_gi 6 0 20 (x1) R151.2).bind fun v157 => ((cq_gr 10 11 18 (x0) R151.2).bind fun v159 => ((cq_is 10 18 (x0) R151.2).bind fun _ => ((c156 f (x0) (v157) (v159) R151.2).bind fun R161 => (if ¬ (R161.1) = 0 then c161_93 r2 f (x0) (x1) (x2) R161.2 else (some (0, R161.2))))))))
theorem c161c_e (r2 : Nat → Nat → Int → xT_ → Option (Int × xT_)) (f : Nat) (x0 : Nat) (x1 : Nat) (x2 : Int) (R120 : (xT_)) : c161b r2 f x0 x1 x2 R120 = ((cq_gr 10 11 18 (x0) R120).bind fun v126 => ((cq_gi 6 3 20 (x1) R120).bind fun v128 => ((cq_gr 10 8 18 (x0) R120).bind fun v130 => ((cq_gr 10 7 18 (x0) R120).bind fun v132 => ((cq_gr 5 3 4 (v132) R120).bind fun v134 => ((cq_a 3 (v134) (x2) R120).bind fun v136 => ((cq_a 4 (v130) (v136) R120).bind fun v138 => ((cq_s 4 (v126) (v128) (v138) R120).bind fun T141 => ((cq_gr 10 11 18 (x0) T141).bind fun v145 => ((cq_gi 6 3 20 (x1) T141).bind fun v147 => ((cq_a 4 (v145) (v147) T141).bind fun v149 => ((c397 f (x1) (v149) T141).bind fun R151 => c161c r2 f x0 x1 x2 R151)))))))))))) := rfl
section
variable {f u n p i sl gA W kz a : Nat} {S : Nat → Nat × Nat × Nat} {G G1 G2 : xG_} {m : Nat × Nat} {L M F F1 : List pRw} {kk x cm cm1 v w : Int} {r2 : Nat → Nat → Int → xT_ → Option (Int × xT_)} {T : xT_}
theorem st_161z (hs : cSs S) (hp : cPs G) (h1 : G 99 1 = (n : Int)) : c161_2b r2 f 93 u (n : Int) (S, G, m) = some (1, (S, G, m)) := by
  unfold c161_2b
  simp (disch := omega) only [cq_gi, cq_gr, cq_a, cq_s, cq_p, cq_pr, cq_is, cq_ar, cq_ab, cq_ln, xq_nz, Option.bind_some, xup2_n, xup2_s, Int.toNat_natCast, Int.reduceToNat, if_pos, if_neg, true_and, and_true, and_self, eq_self, if_true, reduceIte, not_true_eq_false, not_false_eq_true, or_true, true_or, s93 hs, s99 hs, p93_7 hp, h1]
theorem st_161a (hs : cSs S) (hp : cPs G) (h1 : G 99 1 = (n : Int)) (hi : i < n) (e : c78 f 99 (i : Int) 104 (S, G, m) = some T) : c161_2b r2 f 93 u (i : Int) (S, G, m) = c161a r2 f 93 u (i : Int) T := by
  rw [c161a_e]
  simp (disch := omega) only [cq_gi, cq_gr, cq_a, cq_s, cq_p, cq_pr, cq_is, cq_ar, cq_ab, cq_ln, xq_nz, Option.bind_some, xup2_n, xup2_s, Int.toNat_natCast, Int.reduceToNat, if_pos, if_neg, true_and, and_true, and_self, eq_self, if_true, reduceIte, not_true_eq_false, not_false_eq_true, or_true, true_or, s93 hs, s99 hs, p93_7 hp, p93_10 hp, h1, e]
theorem st_161b (hs : cSs S) (hp : cPs G) (e : c78 f 99 (i : Int) 105 (S, G, m) = some T) : c161a r2 f 93 u (i : Int) (S, G, m) = c161b r2 f 93 u (i : Int) T := by
  rw [c161b_e]
  simp (disch := omega) only [cq_gi, cq_gr, cq_a, cq_s, cq_p, cq_pr, cq_is, cq_ar, cq_ab, cq_ln, xq_nz, Option.bind_some, xup2_n, xup2_s, Int.toNat_natCast, Int.reduceToNat, if_pos, if_neg, true_and, and_true, and_self, eq_self, if_true, reduceIte, not_true_eq_false, not_false_eq_true, or_true, true_or, s93 hs, s99 hs, p93_7 hp, p93_11 hp, e]
theorem st_397 (us : S u = (1, 6, 20)) (h4 : G u 4 = kk + 9) : c397 f u x (S, G, m) = some ((if kk = 2 ∧ (1000000000000 < x ∨ x < -1000000000000) then 0 else 1), (S, G, m)) := by
  by_cases c : kk = 2
  · have c' : kk + 9 = 11 := by omega
    by_cases d : x < -1000000000000
    · rw [if_pos ⟨c, .inr d⟩]
      unfold c397 c397_29 c397_30
      simp (disch := omega) only [cq_gi, cq_gr, cq_a, cq_s, cq_p, cq_pr, cq_is, cq_ar, cq_ab, cq_ln, xq_nz, Option.bind_some, xup2_n, xup2_s, Int.toNat_natCast, Int.reduceToNat, if_pos, if_neg, true_and, and_true, and_self, eq_self, if_true, reduceIte, not_true_eq_false, not_false_eq_true, or_true, true_or, us, h4, c', d]
    · by_cases e : 1000000000000 < x
      · rw [if_pos ⟨c, .inl e⟩]
        unfold c397 c397_29 c397_30
        simp (disch := omega) only [cq_gi, cq_gr, cq_a, cq_s, cq_p, cq_pr, cq_is, cq_ar, cq_ab, cq_ln, xq_nz, Option.bind_some, xup2_n, xup2_s, Int.toNat_natCast, Int.reduceToNat, if_pos, if_neg, true_and, and_true, and_self, eq_self, if_true, reduceIte, not_true_eq_false, not_false_eq_true, or_true, true_or, us, h4, c', d, e]
      · rw [if_neg (by omega)]
        unfold c397 c397_25 c397_30
        simp (disch := omega) only [cq_gi, cq_gr, cq_a, cq_s, cq_p, cq_pr, cq_is, cq_ar, cq_ab, cq_ln, xq_nz, Option.bind_some, xup2_n, xup2_s, Int.toNat_natCast, Int.reduceToNat, if_pos, if_neg, true_and, and_true, and_self, eq_self, if_true, reduceIte, not_true_eq_false, not_false_eq_true, or_true, true_or, us, h4, c', d, e]
  · have c' : ¬ kk + 9 = 11 := by omega
    rw [if_neg (fun y => c y.1)]
    unfold c397 c397_25 c397_30
    simp (disch := omega) only [cq_gi, cq_gr, cq_a, cq_s, cq_p, cq_pr, cq_is, cq_ar, cq_ab, cq_ln, xq_nz, Option.bind_some, xup2_n, xup2_s, Int.toNat_natCast, Int.reduceToNat, if_pos, if_neg, true_and, and_true, and_self, eq_self, if_true, reduceIte, not_true_eq_false, not_false_eq_true, or_true, true_or, us, h4, c']
theorem st_161c (hs : cSs S) (hp : cPs G) (us : S u = (1, 6, 20)) (hu : 278 < u) (h3 : G 99 3 = 101) (hi : i < 512) (h1 : G 101 i = (sl : Int)) (hsl : sl < 512) (h2 : G 102 sl = x) (h5 : G u 3 = (gA : Int)) (hg : gA < 4) (e : c397 f u x (S, xup2 G 105 gA x, m) = some (w, (S, xup2 G 105 gA x, m))) : c161b r2 f 93 u (i : Int) (S, G, m) = c161c r2 f 93 u (i : Int) (w, (S, xup2 G 105 gA x, m)) := by
  rw [c161c_e]
  simp (disch := omega) only [cq_gi, cq_gr, cq_a, cq_s, cq_p, cq_pr, cq_is, cq_ar, cq_ab, cq_ln, xq_nz, Option.bind_some, xup2_n, xup2_s, Int.toNat_natCast, Int.reduceToNat, if_pos, if_neg, true_and, and_true, and_self, eq_self, if_true, reduceIte, not_true_eq_false, not_false_eq_true, or_true, true_or, s93 hs, s99 hs, s101 hs, s102 hs, s105 hs, p93_7 hp, p93_8 hp, p93_11 hp, us, h3, h1, h2, h5, e]
theorem st_161o (ei : xwr ((i : Int) + 1) = ((i + 1 : Nat) : Int)) : c161c r2 f 93 u (i : Int) (0, (S, G, m)) = r2 93 u ((i + 1 : Nat) : Int) (S, G, m) := by
  unfold c161c c161_93
  simp (disch := omega) only [cq_gi, cq_gr, cq_a, cq_s, cq_p, cq_pr, cq_is, cq_ar, cq_ab, cq_ln, xq_nz, Option.bind_some, xup2_n, xup2_s, Int.toNat_natCast, Int.reduceToNat, if_pos, if_neg, true_and, and_true, and_self, eq_self, if_true, reduceIte, not_true_eq_false, not_false_eq_true, or_true, true_or, ei]
theorem st_161g (hs : cSs S) (hp : cPs G) (us : S u = (1, 6, 20)) (h0 : G u 0 = (p : Int)) (ei : xwr ((i : Int) + 1) = ((i + 1 : Nat) : Int)) (e : c156 f 93 (p : Int) 105 (S, G, m) = some (v, (S, G1, m))) : c161c r2 f 93 u (i : Int) (1, (S, G, m)) = if v = 0 then some (0, (S, G1, m)) else r2 93 u ((i + 1 : Nat) : Int) (S, G1, m) := by
  have h10 : ¬ (1 : Int) = 0 := by decide
  by_cases c : v = 0
  · rw [if_pos c]
    unfold c161c c161_93
    simp (disch := omega) only [cq_gi, cq_gr, cq_a, cq_s, cq_p, cq_pr, cq_is, cq_ar, cq_ab, cq_ln, xq_nz, Option.bind_some, xup2_n, xup2_s, Int.toNat_natCast, Int.reduceToNat, if_pos, if_neg, true_and, and_true, and_self, eq_self, if_true, reduceIte, not_true_eq_false, not_false_eq_true, or_true, true_or, s93 hs, p93_11 hp, us, h0, e, ei, c, h10]
  · rw [if_neg c]
    unfold c161c c161_93
    simp (disch := omega) only [cq_gi, cq_gr, cq_a, cq_s, cq_p, cq_pr, cq_is, cq_ar, cq_ab, cq_ln, xq_nz, Option.bind_some, xup2_n, xup2_s, Int.toNat_natCast, Int.reduceToNat, if_pos, if_neg, true_and, and_true, and_self, eq_self, if_true, reduceIte, not_true_eq_false, not_false_eq_true, or_true, true_or, s93 hs, p93_11 hp, us, h0, e, ei, c, h10]
end
end
section
/-! THE CLASS: giveGroups() -/
section
variable {f u n p i sl gA W kz a : Nat} {S : Nat → Nat × Nat × Nat} {G G' : xG_} {m : Nat × Nat} {L M F : List pRw} {kk x cm v w : Int}
theorem cGr.ge (h : cGr S G n L) (h0 : ∀ b j, 99 ≤ b → b ≤ 102 → G' b j = G b j) : cGr S G' n L := by
  obtain ⟨T, a1, a2, a3, a4⟩ := h
  refine ⟨T, a1.ge (fun _ _ _ => rfl) (fun j => h0 _ _ (by omega) (by omega)) (fun j => h0 _ _ (by omega) (by omega)) (fun j => h0 _ _ (by omega) (by omega)), a2, fun i hi => ?_, a4⟩
  obtain ⟨e, k, k1, k2, k3⟩ := a3 i hi
  exact ⟨e, k, k1, k2, by rw [h0 _ _ (by omega) (by omega)]; exact k3⟩
theorem gRo_no (h : kk = 2 ∧ (1000000000000 < x ∨ x < -1000000000000)) (xs : List Int) : gRo kk gA xs x = none := by unfold gRo; rw [if_pos h]
theorem gRo_so (h : ¬ (kk = 2 ∧ (1000000000000 < x ∨ x < -1000000000000))) (xs : List Int) : gRo kk gA xs x = some (xs.set gA x) := by unfold gRo; rw [if_neg h]
theorem k_161l (hf : 600 < f) (hs : cSs S) (hp16 : p < 16) (hn : n ≤ 4) (us : S u = (1, 6, 20)) (hu : 278 < u) (hgA : gA < n) (hMs : M.Pairwise rwLt) (hl5 : L.length ≤ 512) : ∀ (d i fu : Nat) (G : xG_) (F : List pRw) (cm : Int), i + d = L.length → d < fu → cPs G → cGr S G n L → G u 4 = kk + 9 → G u 3 = (gA : Int) → G u 0 = (p : Int) → cRw S G (108 + 6 * p) n 100 M → cRw S G (111 + 6 * p) n 100 F → F.Pairwise rwLt → (∀ r ∈ F, r.2 = 0) → G 93 15 = cm → 0 ≤ cm → cm + 100 * (d : Int) ≤ 10000000 →
    ∃ v G', c161_2 f fu 93 u (i : Int) (S, G, m) = some (v, (S, G', m)) ∧ (∀ b j, b ≠ 104 → b ≠ 105 → ¬ (b = 93 ∧ j = 15) → ¬ (111 + 6 * p ≤ b ∧ b ≤ 113 + 6 * p) → G' b j = G b j) ∧ cPs G' ∧ gvO S G' p n M F cm (fun z => ∃ j, i ≤ j ∧ j < L.length ∧ gRo kk gA (L.getD j dRw).1 (L.getD j dRw).2 = some z) v ∧ (v = 1 → i < L.length → ∀ c, c < n → G' 104 c = (L.getD (L.length - 1) dRw).1.getD c 0) := by
  intro d
  induction d with
  | zero =>
    intro i fu G F cm e1 e2 hp hG h4 h3 h0 hM hF hFs hF0 hcm hc0 hc1
    obtain ⟨fu, rfl⟩ : ∃ t, fu = t + 1 := ⟨fu - 1, by omega⟩
    obtain ⟨T, t1, t2, t3, t4⟩ := hG
    have e : i = T.length := by omega
    have st : c161_2 f (fu + 1) 93 u (i : Int) (S, G, m) = some (1, (S, G, m)) := by rw [e]; exact st_161z (r2 := c161_2 f fu) hs hp t1.2.2.2.1.2.1
    exact ⟨1, G, st, fun _ _ _ _ _ _ => rfl, hp, gvO.no hF hFs hF0 hcm (fun xs ⟨j, j1, j2, _⟩ => by omega), fun _ y => by omega⟩
  | succ d ih =>
    intro i fu G F cm e1 e2 hp hG h4 h3 h0 hM hF hFs hF0 hcm hc0 hc1
    obtain ⟨fu, rfl⟩ : ∃ t, fu = t + 1 := ⟨fu - 1, by omega⟩
    have hG0 := hG
    obtain ⟨T, t1, t2, t3, t4⟩ := hG
    have hi : i < L.length := by omega
    have ei : xwr ((i : Int) + 1) = ((i + 1 : Nat) : Int) := by rw [xwr_g _ (by omega) (by omega)]; omega
    obtain ⟨eT, sl, k1, k2, k3⟩ := t3 i hi
    have hxl : (L.getD i dRw).1.length = n := by rw [← eT]; exact (t1.2.2.2.2.2.2.2 i (by omega)).1
    obtain ⟨G1, g1, g2, g3⟩ := k_78 (f := f) (m := m) (i := i) (a := 104) t1 (by omega) (s104 hs) (by omega) (by omega)
    have t1' := t1.ge (G' := G1) (fun _ _ _ => rfl) (fun j => g2 _ _ (by omega)) (fun j => g2 _ _ (by omega)) (fun j => g2 _ _ (by omega))
    obtain ⟨G2, i1, i2, i3⟩ := k_78 (f := f) (m := m) (i := i) (a := 105) t1' (by omega) (s105 hs) (by omega) (by omega)
    have z2 : ∀ b j, b ≠ 104 → b ≠ 105 → G2 b j = G b j := fun b j y1 y2 => by rw [i2 b j (by omega), g2 b j (by omega)]
    have ps : ∀ {G3 : xG_}, (∀ b j, b ≠ 104 → b ≠ 105 → G3 b j = G b j) → cPs G3 := fun {G3} z => hp.ge (fun b j hz => by
      have : b ≠ 104 ∧ b ≠ 105 := by
        rcases hz with z | z | z | z | z | z | z | ⟨z, z1, z2, k, z3⟩ | z | z | z | ⟨k, z1, z2, z3⟩ <;> omega
      exact z b j this.1 this.2)
    have hp1 : cPs G1 := ps (fun b j y1 y2 => g2 b j (by omega))
    have hp2 : cPs G2 := ps z2
    have st0 : c161_2 f (fu + 1) 93 u (i : Int) (S, G, m) = _ := ((st_161a (r2 := c161_2 f fu) hs hp t1.2.2.2.1.2.1 (by omega) g1).trans (st_161b hs hp1 i1)).trans (st_161c (sl := sl) (gA := gA) (x := (L.getD i dRw).2) hs hp2 us hu (by rw [z2 _ _ (by omega) (by omega)]; exact t1.2.2.2.1.2.2.2) (by omega) (by rw [z2 _ _ (by omega) (by omega), (t1.2.2.2.2.2.2.2 i (by omega)).2.2]; exact k1) (by omega) (by rw [z2 _ _ (by omega) (by omega)]; exact k3) (by rw [z2 _ _ (by omega) (by omega)]; exact h3) (by omega) (st_397 (kk := kk) us (by rw [xup2_n (by omega), z2 _ _ (by omega) (by omega)]; exact h4)))
    obtain ⟨G3, hG3⟩ : ∃ G3, G3 = xup2 G2 105 gA (L.getD i dRw).2 := ⟨_, rfl⟩
    rw [← hG3] at st0
    have z3 : ∀ b j, b ≠ 104 → b ≠ 105 → G3 b j = G b j := fun b j y1 y2 => by rw [hG3, xup2_n (by omega), z2 b j y1 y2]
    have hp3 : cPs G3 := ps z3
    have h104 : ∀ c, c < n → G3 104 c = (L.getD i dRw).1.getD c 0 := fun c hc => by rw [hG3, xup2_n (by omega), i2 _ _ (by omega), g3 c hc, eT]
    have hM3 : cRw S G3 (108 + 6 * p) n 100 M := hM.ge (fun _ _ _ => rfl) (fun j => z3 _ _ (by omega) (by omega)) (fun j => z3 _ _ (by omega) (by omega)) (fun j => z3 _ _ (by omega) (by omega))
    have hF3 : cRw S G3 (111 + 6 * p) n 100 F := hF.ge (fun _ _ _ => rfl) (fun j => z3 _ _ (by omega) (by omega)) (fun j => z3 _ _ (by omega) (by omega)) (fun j => z3 _ _ (by omega) (by omega))
    -- the rows that come behind
    have rest : ∀ (G4 : xG_) (F1 : List pRw) (cm1 : Int), (∀ b j, b ≠ 105 → ¬ (b = 93 ∧ j = 15) → ¬ (111 + 6 * p ≤ b ∧ b ≤ 113 + 6 * p) → G4 b j = G3 b j) → cPs G4 → cRw S G4 (111 + 6 * p) n 100 F1 → F1.Pairwise rwLt → (∀ r ∈ F1, r.2 = 0) → G4 93 15 = cm1 → 0 ≤ cm1 → cm1 + 100 * (d : Int) ≤ 10000000 → (F.length ≤ F1.length ∧ (M.length + F.length ≤ 100 → M.length + F1.length ≤ 100)) → cm1 = cm + ((F1.length - F.length : Nat) : Int) → (∀ xs, (∃ r ∈ F1, r.1 = xs) ↔ (∃ r ∈ F, r.1 = xs) ∨ ((∀ r ∈ M, r.1 ≠ xs) ∧ gRo kk gA (L.getD i dRw).1 (L.getD i dRw).2 = some xs)) → ∃ v G', c161_2 f fu 93 u ((i + 1 : Nat) : Int) (S, G4, m) = some (v, (S, G', m)) ∧ (∀ b j, b ≠ 104 → b ≠ 105 → ¬ (b = 93 ∧ j = 15) → ¬ (111 + 6 * p ≤ b ∧ b ≤ 113 + 6 * p) → G' b j = G b j) ∧ cPs G' ∧ gvO S G' p n M F cm (fun z => ∃ j, i ≤ j ∧ j < L.length ∧ gRo kk gA (L.getD j dRw).1 (L.getD j dRw).2 = some z) v ∧ (v = 1 → i < L.length → ∀ c, c < n → G' 104 c = (L.getD (L.length - 1) dRw).1.getD c 0) := by
      intro G4 F1 cm1 q1 q2 q3 q4 q5 q6 q7 q8 q9 q10 q11
      obtain ⟨v, G5, j1, j2, j3, j4, j5⟩ := ih (i + 1) fu G4 F1 cm1 (by omega) (by omega) q2 (hG0.ge (fun b j y1 y2 => by rw [q1 b j (by omega) (by omega) (by omega), z3 b j (by omega) (by omega)])) (by rw [q1 _ _ (by omega) (by omega) (by omega), z3 _ _ (by omega) (by omega)]; exact h4) (by rw [q1 _ _ (by omega) (by omega) (by omega), z3 _ _ (by omega) (by omega)]; exact h3) (by rw [q1 _ _ (by omega) (by omega) (by omega), z3 _ _ (by omega) (by omega)]; exact h0) (hM3.ge (fun _ _ _ => rfl) (fun j => q1 _ _ (by omega) (by omega) (by omega)) (fun j => q1 _ _ (by omega) (by omega) (by omega)) (fun j => q1 _ _ (by omega) (by omega) (by omega))) q3 q4 q5 q6 q7 q8
      refine ⟨v, G5, j1, fun b j y1 y2 y3 y4 => by rw [j2 b j y1 y2 y3 y4, q1 b j y2 y3 y4, z3 b j y1 y2], j3, (gvO.add q9 q10 q11 j4).cg (fun xs _ => ?_), fun y1 _ c hc => ?_⟩
      · constructor
        · rintro (q | ⟨j, a1, a2, a3⟩)
          · exact ⟨i, Nat.le_refl _, hi, q⟩
          · exact ⟨j, by omega, a2, a3⟩
        · rintro ⟨j, a1, a2, a3⟩
          by_cases cj : j = i
          · subst cj; exact .inl a3
          · exact .inr ⟨j, by omega, a2, a3⟩
      · by_cases ci : i + 1 < L.length
        · exact j5 y1 ci c hc
        · have e0 : d = 0 := by omega
          subst e0
          obtain ⟨fu, rfl⟩ : ∃ t, fu = t + 1 := ⟨fu - 1, by omega⟩
          have hg4 := hG0.ge (G' := G4) (fun b j y1 y2 => by rw [q1 b j (by omega) (by omega) (by omega), z3 b j (by omega) (by omega)])
          obtain ⟨T', t1', t2', _⟩ := hg4
          have e : i + 1 = T'.length := by omega
          have st : c161_2 f (fu + 1) 93 u ((i + 1 : Nat) : Int) (S, G4, m) = some (1, (S, G4, m)) := by rw [e]; exact st_161z (r2 := c161_2 f fu) hs q2 t1'.2.2.2.1.2.1
          rw [st] at j1
          injection j1 with j1
          injection j1 with _ j1
          injection j1 with _ j1
          injection j1 with j1 _
          rw [← j1, q1 _ _ (by omega) (by omega) (by omega), h104 c hc]
          have : L.length - 1 = i := by omega
          rw [this]
    by_cases co : kk = 2 ∧ (1000000000000 < (L.getD i dRw).2 ∨ (L.getD i dRw).2 < -1000000000000)
    · rw [if_pos co] at st0
      have st1 := st0.trans (st_161o ei)
      obtain ⟨v, G', r1, r2⟩ := rest G3 F cm (fun _ _ _ _ _ => rfl) hp3 hF3 hFs hF0 (by rw [z3 _ _ (by omega) (by omega)]; exact hcm) hc0 (by omega) ⟨Nat.le_refl _, id⟩ (by rw [Nat.sub_self]; show cm = cm + 0; omega) (fun xs => ⟨.inl, fun q => q.elim id (fun y => by rw [gRo_no co] at y; exact nomatch y.2)⟩)
      exact ⟨v, G', st1.trans r1, r2⟩
    · rw [if_neg co] at st0
      have hK : cKl S G3 105 ((L.getD i dRw).1.set gA (L.getD i dRw).2) := by
        refine ⟨⟨4, s105 hs, by rw [List.length_set]; omega⟩, fun c hc => ?_⟩
        rw [List.length_set] at hc
        rw [getD_st (by omega : gA < (L.getD i dRw).1.length), hG3]
        by_cases cc : c = gA
        · subst cc; rw [xup2_s, if_pos rfl]
        · rw [if_neg cc, xup2_n (by omega), i3 c (by omega), eT]
      obtain ⟨v, G4, w1, w2, w3, w4⟩ := k_156g (f := f) (m := m) (a := 105) (cm := cm) hf hs hp3 hp16 hM3 hF3 hMs hFs hF0 (by rw [List.length_set]; exact hxl) hK (s105 hs) (by omega) (by omega) (by rw [z3 _ _ (by omega) (by omega)]; exact hcm) (by omega)
      have st1 := st0.trans (st_161g (v := v) (G1 := G4) hs hp3 us (by rw [z3 _ _ (by omega) (by omega)]; exact h0) ei w1)
      rcases w4 with ⟨a1, F', a2, a3, a4, a5, a6, a7⟩ | ⟨a1, W, a2, a3, a4⟩
      · rw [if_neg (by omega)] at st1
        have hF'l := a2.2.2.2.2.1
        obtain ⟨v, G', r1, r2⟩ := rest G4 F' _ (fun b j y1 y2 y3 => w2 b j y2 y3) w3 a2 a3 a4 a6 (by omega) (by omega) a5 rfl (fun xs => (a7 xs).trans (or_congr Iff.rfl (and_congr Iff.rfl (by rw [gRo_so co]; exact ⟨fun y => by rw [y], fun y => by injection y with y; exact y.symm⟩))))
        exact ⟨v, G', st1.trans r1, r2⟩
      · rw [if_pos a1] at st1
        refine ⟨0, G4, st1, fun b j y1 y2 y3 y4 => by rw [w2 b j y3 y4, z3 b j y1 y2], w3, .inr ⟨rfl, W, a2, a3, fun xs hx => (a4 xs hx).imp id (fun q => ⟨q.1, i, Nat.le_refl _, hi, by rw [gRo_so co, q.2]⟩)⟩, fun y => by cases y⟩
end
end
section
/-! THE CLASS: gather(), steps -/
def c157s (r4 : Nat → Nat → Int → Int → xT_ → Option (Int × xT_)) (r43 : Nat → Nat → Int → Int → Int → xT_ → Option (Int × xT_)) (f : Nat) (x0 : Nat) (x1 : Nat) (x2 : Int) (x3 : Int) (x4 : Int) (R148 : (Int × xT_)) : Option (Int × xT_) := (if (R148.1) = 0 then c157_185 r4 f (x0) (x1) (x2) (x3) R148.2 else ((cq_gi 6 4 20 (x1) R148.2).bind fun v155 => (if ¬ (v155) = (10) then ((cq_gr 10 0 18 (x0) R148.2).bind fun v158 => ((cq_gr 9 0 14 (v158) R148.2).bind fun v160 => ((cq_gi 6 5 20 (x1) R148.2).bind fun v162 => ((cq_a 4 (v160) (v162) R148.2).bind fun v164 => c157_85 r4 r43 f (x0) (x1) (x2) (x3) (x4) (v164) R148.2)))) else c157_85 r4 r43 f (x0) (x1) (x2) (x3) (x4) (1) R148.2)))
theorem c157s_e (r4 : Nat → Nat → Int → Int → xT_ → Option (Int × xT_)) (r43 : Nat → Nat → Int → Int → Int → xT_ → Option (Int × xT_)) (f : Nat) (x0 : Nat) (x1 : Nat) (x2 : Int) (x3 : Int) (x4 : Int) (T : xT_) : c157_43b r4 r43 f x0 x1 x2 x3 x4 T = (if (10000000) ≤ (x4) then c157_185 r4 f (x0) (x1) (x2) (x3) T else ((cq_gr 10 0 18 (x0) T).bind fun v146 => ((cq_is 9 14 (v146) T).bind fun _ => ((c132 f (v146) T).bind fun R148 => c157s r4 r43 f x0 x1 x2 x3 x4 R148)))) := rfl
def c157t (r4 : Nat → Nat → Int → Int → xT_ → Option (Int × xT_)) (r43 : Nat → Nat → Int → Int → Int → xT_ → Option (Int × xT_)) (f : Nat) (x0 : Nat) (x1 : Nat) (x2 : Int) (x3 : Int) (x4 : Int) (x5 : Int) (R117 : (Int × xT_)) : Option (Int × xT_) := (if (R117.1) = 0 then c157_179 r4 r43 f (x0) (x1) (x2) (x3) (x4) R117.2 else (if (x3) = 0 then c157_146 r4 r43 f (x0) (x1) (x2) (x3) (x4) (x5) R117.2 else ((cq_gi 6 2 20 (x1) R117.2).bind fun v125 => ((cq_is 10 18 (x0) R117.2).bind fun _ => ((c158 f (x0) (v125) R117.2).bind fun R127 => (if (R127.1) = 0 then c157_179 r4 r43 f (x0) (x1) (x2) (x3) (x4) R127.2 else c157_146 r4 r43 f (x0) (x1) (x2) (x3) (x4) (x5) R127.2))))))
theorem c157t_e (r4 : Nat → Nat → Int → Int → xT_ → Option (Int × xT_)) (r43 : Nat → Nat → Int → Int → Int → xT_ → Option (Int × xT_)) (f : Nat) (x0 : Nat) (x1 : Nat) (x2 : Int) (x3 : Int) (x4 : Int) (x5 : Int) (y0 : Int) (T : xT_) : c157_110 r4 r43 f x0 x1 x2 x3 x4 x5 y0 T = (if ¬ (y0) = 0 then c157_179 r4 r43 f (x0) (x1) (x2) (x3) (x4) T else ((cq_gr 10 0 18 (x0) T).bind fun v113 => ((cq_gr 10 9 18 (x0) T).bind fun v115 => ((cq_is 9 14 (v113) T).bind fun _ => ((c142 f (v113) (v115) T).bind fun R117 => c157t r4 r43 f x0 x1 x2 x3 x4 x5 R117))))) := rfl
def c157u (r4 : Nat → Nat → Int → Int → xT_ → Option (Int × xT_)) (r43 : Nat → Nat → Int → Int → Int → xT_ → Option (Int × xT_)) (f : Nat) (x0 : Nat) (x1 : Nat) (x2 : Int) (x3 : Int) (x4 : Int) (x5 : Int) (R127 : (Int × xT_)) : Option (Int × xT_) := (if (R127.1) = 0 then c157_179 r4 r43 f (x0) (x1) (x2) (x3) (x4) R127.2 else c157_146 r4 r43 f (x0) (x1) (x2) (x3) (x4) (x5) R127.2)
theorem c157u_e (r4 : Nat → Nat → Int → Int → xT_ → Option (Int × xT_)) (r43 : Nat → Nat → Int → Int → Int → xT_ → Option (Int × xT_)) (f : Nat) (x0 : Nat) (x1 : Nat) (x2 : Int) (x3 : Int) (x4 : Int) (x5 : Int) (R117 : (Int × xT_)) : c157t r4 r43 f x0 x1 x2 x3 x4 x5 R117 = (if (R117.1) = 0 then c157_179 r4 r43 f (x0) (x1) (x2) (x3) (x4) R117.2 else (if (x3) = 0 then c157_146 r4 r43 f (x0) (x1) (x2) (x3) (x4) (x5) R117.2 else ((cq_gi 6 2 20 (x1) R117.2).bind fun v125 => ((cq_is 10 18 (x0) R117.2).bind fun _ => ((c158 f (x0) (v125) R117.2).bind fun R127 => c157u r4 r43 f x0 x1 x2 x3 x4 x5 R127))))) := rfl
section
variable {f u i t p gO : Nat} {S : Nat → Nat × Nat × Nat} {G G1 G2 : xG_} {m : Nat × Nat} {r4 : Nat → Nat → Int → Int → xT_ → Option (Int × xT_)} {r43 : Nat → Nat → Int → Int → Int → xT_ → Option (Int × xT_)} {kk mo x v w b : Int} {n : Nat} {R : Int × xT_}
theorem st_157a (hs : cSs S) (hp : cPs G) (hi : i < 10000000) (e : c132 f 83 (S, G, m) = some R) : c157_43b r4 r43 f 93 u mo (t : Int) (i : Int) (S, G, m) = c157s r4 r43 f 93 u mo (t : Int) (i : Int) R := by
  rw [c157s_e]
  simp (disch := omega) only [cq_gi, cq_gr, cq_a, cq_s, cq_p, cq_pr, cq_is, cq_ar, cq_ab, cq_ln, xq_nz, Option.bind_some, xup2_n, xup2_s, Int.toNat_natCast, Int.reduceToNat, if_pos, if_neg, true_and, and_true, and_self, eq_self, if_true, reduceIte, not_true_eq_false, not_false_eq_true, or_true, true_or, s93 hs, s83 hs, p93_0 hp, e]
theorem st_157z : c157s r4 r43 f 93 u mo (t : Int) (i : Int) (0, (S, G, m)) = c157_185 r4 f 93 u mo (t : Int) (S, G, m) := by
  unfold c157s
  simp (disch := omega) only [cq_gi, cq_gr, cq_a, cq_s, cq_p, cq_pr, cq_is, cq_ar, cq_ab, cq_ln, xq_nz, Option.bind_some, xup2_n, xup2_s, Int.toNat_natCast, Int.reduceToNat, if_pos, if_neg, true_and, and_true, and_self, eq_self, if_true, reduceIte, not_true_eq_false, not_false_eq_true, or_true, true_or, s93]
theorem st_157b (hs : cSs S) (hp : cPs G) (us : S u = (1, 6, 20)) (h4 : G u 4 = kk + 9) (h5 : kk ≠ 1 → G u 5 = (gO : Int) ∧ gO < 8) : c157s r4 r43 f 93 u mo (t : Int) (i : Int) (1, (S, G, m)) = c157_85 r4 r43 f 93 u mo (t : Int) (i : Int) (if kk = 1 then 1 else G 84 gO) (S, G, m) := by
  have h10 : ¬ (1 : Int) = 0 := by decide
  by_cases c : kk = 1
  · have c' : kk + 9 = 10 := by omega
    rw [if_pos c]
    unfold c157s
    simp (disch := omega) only [cq_gi, cq_gr, cq_a, cq_s, cq_p, cq_pr, cq_is, cq_ar, cq_ab, cq_ln, xq_nz, Option.bind_some, xup2_n, xup2_s, Int.toNat_natCast, Int.reduceToNat, if_pos, if_neg, true_and, and_true, and_self, eq_self, if_true, reduceIte, not_true_eq_false, not_false_eq_true, or_true, true_or, us, h4, c', h10]
  · have c' : ¬ kk + 9 = 10 := by omega
    obtain ⟨g1, g2⟩ := h5 c
    rw [if_neg c]
    unfold c157s
    simp (disch := omega) only [cq_gi, cq_gr, cq_a, cq_s, cq_p, cq_pr, cq_is, cq_ar, cq_ab, cq_ln, xq_nz, Option.bind_some, xup2_n, xup2_s, Int.toNat_natCast, Int.reduceToNat, if_pos, if_neg, true_and, and_true, and_self, eq_self, if_true, reduceIte, not_true_eq_false, not_false_eq_true, or_true, true_or, us, h4, c', h10, s93 hs, s83 hs, s84 hs, p93_0 hp, p83_0 hp, g1]
theorem st_157c (us : S u = (1, 6, 20)) (h4 : G u 4 = kk + 9) : c157_85 r4 r43 f 93 u mo (t : Int) (i : Int) x (S, G, m) = c157_110 r4 r43 f 93 u mo (t : Int) (i : Int) x (if kk = 2 ∧ 1000000000000 < x then 1 else 0) (S, G, m) := by
  by_cases c : kk = 2
  · have c' : kk + 9 = 11 := by omega
    by_cases d : 1000000000000 < x
    · have d' : ¬ x ≤ 1000000000000 := by omega
      rw [if_pos ⟨c, d⟩]
      unfold c157_85
      simp (disch := omega) only [cq_gi, cq_gr, cq_a, cq_s, cq_p, cq_pr, cq_is, cq_ar, cq_ab, cq_ln, xq_nz, Option.bind_some, xup2_n, xup2_s, Int.toNat_natCast, Int.reduceToNat, if_pos, if_neg, true_and, and_true, and_self, eq_self, if_true, reduceIte, not_true_eq_false, not_false_eq_true, or_true, true_or, us, h4, c', d']
    · have d' : x ≤ 1000000000000 := by omega
      rw [if_neg (fun y => d y.2)]
      unfold c157_85 c157_109
      simp (disch := omega) only [cq_gi, cq_gr, cq_a, cq_s, cq_p, cq_pr, cq_is, cq_ar, cq_ab, cq_ln, xq_nz, Option.bind_some, xup2_n, xup2_s, Int.toNat_natCast, Int.reduceToNat, if_pos, if_neg, true_and, and_true, and_self, eq_self, if_true, reduceIte, not_true_eq_false, not_false_eq_true, or_true, true_or, us, h4, c', d']
  · have c' : ¬ kk + 9 = 11 := by omega
    rw [if_neg (fun y => c y.1)]
    unfold c157_85 c157_109
    simp (disch := omega) only [cq_gi, cq_gr, cq_a, cq_s, cq_p, cq_pr, cq_is, cq_ar, cq_ab, cq_ln, xq_nz, Option.bind_some, xup2_n, xup2_s, Int.toNat_natCast, Int.reduceToNat, if_pos, if_neg, true_and, and_true, and_self, eq_self, if_true, reduceIte, not_true_eq_false, not_false_eq_true, or_true, true_or, us, h4, c']
theorem st_157n (ei : xwr ((i : Int) + 1) = ((i + 1 : Nat) : Int)) : c157_110 r4 r43 f 93 u mo (t : Int) (i : Int) x 1 (S, G, m) = r43 93 u mo (t : Int) ((i + 1 : Nat) : Int) (S, G, m) := by
  have h10 : ¬ (1 : Int) = 0 := by decide
  unfold c157_110 c157_179
  simp (disch := omega) only [cq_gi, cq_gr, cq_a, cq_s, cq_p, cq_pr, cq_is, cq_ar, cq_ab, cq_ln, xq_nz, Option.bind_some, xup2_n, xup2_s, Int.toNat_natCast, Int.reduceToNat, if_pos, if_neg, true_and, and_true, and_self, eq_self, if_true, reduceIte, not_true_eq_false, not_false_eq_true, or_true, true_or, ei, h10]
theorem st_157h (hs : cSs S) (hp : cPs G) (e : c142 f 83 103 (S, G, m) = some R) : c157_110 r4 r43 f 93 u mo (t : Int) (i : Int) x 0 (S, G, m) = c157t r4 r43 f 93 u mo (t : Int) (i : Int) x R := by
  rw [c157t_e]
  simp (disch := omega) only [cq_gi, cq_gr, cq_a, cq_s, cq_p, cq_pr, cq_is, cq_ar, cq_ab, cq_ln, xq_nz, Option.bind_some, xup2_n, xup2_s, Int.toNat_natCast, Int.reduceToNat, if_pos, if_neg, true_and, and_true, and_self, eq_self, if_true, reduceIte, not_true_eq_false, not_false_eq_true, or_true, true_or, s93 hs, s83 hs, p93_0 hp, p93_9 hp, e]
theorem st_157m (ei : xwr ((i : Int) + 1) = ((i + 1 : Nat) : Int)) : c157t r4 r43 f 93 u mo (t : Int) (i : Int) x (0, (S, G, m)) = r43 93 u mo (t : Int) ((i + 1 : Nat) : Int) (S, G, m) := by
  rw [c157u_e]
  unfold c157_179
  simp (disch := omega) only [cq_gi, cq_gr, cq_a, cq_s, cq_p, cq_pr, cq_is, cq_ar, cq_ab, cq_ln, xq_nz, Option.bind_some, xup2_n, xup2_s, Int.toNat_natCast, Int.reduceToNat, if_pos, if_neg, true_and, and_true, and_self, eq_self, if_true, reduceIte, not_true_eq_false, not_false_eq_true, or_true, true_or, ei]
theorem st_157y : c157t r4 r43 f 93 u mo ((0 : Nat) : Int) (i : Int) x (1, (S, G, m)) = c157_146 r4 r43 f 93 u mo ((0 : Nat) : Int) (i : Int) x (S, G, m) := by
  have h10 : ¬ (1 : Int) = 0 := by decide
  rw [c157u_e]
  simp (disch := omega) only [cq_gi, cq_gr, cq_a, cq_s, cq_p, cq_pr, cq_is, cq_ar, cq_ab, cq_ln, xq_nz, Option.bind_some, xup2_n, xup2_s, Int.toNat_natCast, Int.reduceToNat, if_pos, if_neg, true_and, and_true, and_self, eq_self, if_true, reduceIte, not_true_eq_false, not_false_eq_true, or_true, true_or, h10, Int.natCast_zero]
theorem st_157f (hs : cSs S) (us : S u = (1, 6, 20)) (ht : t ≠ 0) (h2 : G u 2 = (n : Int)) (e : c158 f 93 (n : Int) (S, G, m) = some R) : c157t r4 r43 f 93 u mo (t : Int) (i : Int) x (1, (S, G, m)) = c157u r4 r43 f 93 u mo (t : Int) (i : Int) x R := by
  have h10 : ¬ (1 : Int) = 0 := by decide
  have ht' : ¬ (t : Int) = 0 := by omega
  rw [c157u_e]
  simp (disch := omega) only [cq_gi, cq_gr, cq_a, cq_s, cq_p, cq_pr, cq_is, cq_ar, cq_ab, cq_ln, xq_nz, Option.bind_some, xup2_n, xup2_s, Int.toNat_natCast, Int.reduceToNat, if_pos, if_neg, true_and, and_true, and_self, eq_self, if_true, reduceIte, not_true_eq_false, not_false_eq_true, or_true, true_or, s93 hs, us, h10, ht', h2, e]
theorem st_157g (ei : xwr ((i : Int) + 1) = ((i + 1 : Nat) : Int)) : c157u r4 r43 f 93 u mo (t : Int) (i : Int) x (0, (S, G, m)) = r43 93 u mo (t : Int) ((i + 1 : Nat) : Int) (S, G, m) := by
  unfold c157u c157_179
  simp (disch := omega) only [cq_gi, cq_gr, cq_a, cq_s, cq_p, cq_pr, cq_is, cq_ar, cq_ab, cq_ln, xq_nz, Option.bind_some, xup2_n, xup2_s, Int.toNat_natCast, Int.reduceToNat, if_pos, if_neg, true_and, and_true, and_self, eq_self, if_true, reduceIte, not_true_eq_false, not_false_eq_true, or_true, true_or, ei]
theorem st_157i : c157u r4 r43 f 93 u mo (t : Int) (i : Int) x (1, (S, G, m)) = c157_146 r4 r43 f 93 u mo (t : Int) (i : Int) x (S, G, m) := by
  have h10 : ¬ (1 : Int) = 0 := by decide
  unfold c157u
  simp (disch := omega) only [cq_gi, cq_gr, cq_a, cq_s, cq_p, cq_pr, cq_is, cq_ar, cq_ab, cq_ln, xq_nz, Option.bind_some, xup2_n, xup2_s, Int.toNat_natCast, Int.reduceToNat, if_pos, if_neg, true_and, and_true, and_self, eq_self, if_true, reduceIte, not_true_eq_false, not_false_eq_true, or_true, true_or, h10]
/-- behind addToGroup() -/
theorem st_157j (hs : cSs S) (us : S u = (1, 6, 20)) (hm : mo = 0 ∨ mo = 1) (ei : xwr ((i : Int) + 1) = ((i + 1 : Nat) : Int)) (hk : mo = 1 → kk = 2) (e : c159 f 93 u x (S, G, m) = some (1, (S, G1, m))) (h4 : G1 u 4 = kk + 9) : c157_146 r4 r43 f 93 u mo (t : Int) (i : Int) x (S, G, m) = r43 93 u mo (t : Int) ((i + 1 : Nat) : Int) (S, G1, m) := by
  have h10 : ¬ (1 : Int) = 0 := by decide
  rcases hm with h | h
  · subst h
    have ex : xor_ 0 0 = 0 := by decide
    unfold c157_146 c157_162 c157_179
    simp (disch := omega) only [cq_gi, cq_gr, cq_a, cq_s, cq_p, cq_pr, cq_is, cq_ar, cq_ab, cq_ln, xq_nz, Option.bind_some, xup2_n, xup2_s, Int.toNat_natCast, Int.reduceToNat, if_pos, if_neg, true_and, and_true, and_self, eq_self, if_true, reduceIte, not_true_eq_false, not_false_eq_true, or_true, true_or, s93 hs, us, e, h10, ex, ei]
  · subst h
    have ex : xor_ 1 0 = 1 := by decide
    have hk' : kk + 9 = 11 := by have := hk rfl; omega
    unfold c157_146 c157_162 c157_179
    simp (disch := omega) only [cq_gi, cq_gr, cq_a, cq_s, cq_p, cq_pr, cq_is, cq_ar, cq_ab, cq_ln, xq_nz, Option.bind_some, xup2_n, xup2_s, Int.toNat_natCast, Int.reduceToNat, if_pos, if_neg, true_and, and_true, and_self, eq_self, if_true, reduceIte, not_true_eq_false, not_false_eq_true, or_true, true_or, s93 hs, us, e, h10, ex, ei, h4, hk']
theorem st_157k (hs : cSs S) (us : S u = (1, 6, 20)) (hm : mo = 0 ∨ mo = 1) (ei : xwr ((i : Int) + 1) = ((i + 1 : Nat) : Int)) (e : c159 f 93 u x (S, G, m) = some (0, (S, G1, m))) (h4 : G1 u 4 = kk + 9) : c157_146 r4 r43 f 93 u mo (t : Int) (i : Int) x (S, G, m) = if kk = 2 then r43 93 u 1 (t : Int) ((i + 1 : Nat) : Int) (S, G1, m) else some (0, (S, G1, m)) := by
  have h10 : ¬ (1 : Int) = 0 := by decide
  have ex : xor_ mo 1 = 1 := by rcases hm with h | h <;> subst h <;> decide
  by_cases c : kk = 2
  · have c' : kk + 9 = 11 := by omega
    rw [if_pos c]
    unfold c157_146 c157_162 c157_179
    simp (disch := omega) only [cq_gi, cq_gr, cq_a, cq_s, cq_p, cq_pr, cq_is, cq_ar, cq_ab, cq_ln, xq_nz, Option.bind_some, xup2_n, xup2_s, Int.toNat_natCast, Int.reduceToNat, if_pos, if_neg, true_and, and_true, and_self, eq_self, if_true, reduceIte, not_true_eq_false, not_false_eq_true, or_true, true_or, s93 hs, us, e, h10, ex, ei, h4, c']
  · have c' : ¬ kk + 9 = 11 := by omega
    rw [if_neg c]
    unfold c157_146 c157_162 c157_179
    simp (disch := omega) only [cq_gi, cq_gr, cq_a, cq_s, cq_p, cq_pr, cq_is, cq_ar, cq_ab, cq_ln, xq_nz, Option.bind_some, xup2_n, xup2_s, Int.toNat_natCast, Int.reduceToNat, if_pos, if_neg, true_and, and_true, and_self, eq_self, if_true, reduceIte, not_true_eq_false, not_false_eq_true, or_true, true_or, s93 hs, us, e, h10, ex, ei, h4, c']
theorem st_157e (hs : cSs S) (e : c161 f 93 u (S, G, m) = some (v, (S, G1, m))) (ei : xwr ((t : Int) + 1) = ((t + 1 : Nat) : Int)) : c157_185 r4 f 93 u mo (t : Int) (S, G, m) = if v = 0 then some (0, (S, G1, m)) else r4 93 u mo ((t + 1 : Nat) : Int) (S, G1, m) := by
  by_cases c : v = 0
  · rw [if_pos c]
    unfold c157_185
    simp (disch := omega) only [cq_gi, cq_gr, cq_a, cq_s, cq_p, cq_pr, cq_is, cq_ar, cq_ab, cq_ln, xq_nz, Option.bind_some, xup2_n, xup2_s, Int.toNat_natCast, Int.reduceToNat, if_pos, if_neg, true_and, and_true, and_self, eq_self, if_true, reduceIte, not_true_eq_false, not_false_eq_true, or_true, true_or, s93 hs, e, ei, c]
  · rw [if_neg c]
    unfold c157_185
    simp (disch := omega) only [cq_gi, cq_gr, cq_a, cq_s, cq_p, cq_pr, cq_is, cq_ar, cq_ab, cq_ln, xq_nz, Option.bind_some, xup2_n, xup2_s, Int.toNat_natCast, Int.reduceToNat, if_pos, if_neg, true_and, and_true, and_self, eq_self, if_true, reduceIte, not_true_eq_false, not_false_eq_true, or_true, true_or, s93 hs, e, ei, c]
theorem st_157w (ht : t < 10000000) : c157_4b r4 f 93 u 0 (t : Int) (S, G, m) = some (1, (S, G, m)) := by
  unfold c157_4b c157_201
  simp (disch := omega) only [cq_gi, cq_gr, cq_a, cq_s, cq_p, cq_pr, cq_is, cq_ar, cq_ab, cq_ln, xq_nz, Option.bind_some, xup2_n, xup2_s, Int.toNat_natCast, Int.reduceToNat, if_pos, if_neg, true_and, and_true, and_self, eq_self, if_true, reduceIte, not_true_eq_false, not_false_eq_true, or_true, true_or, s93]
theorem st_157x (hs : cSs S) (hp : cPs G) (us : S u = (1, 6, 20)) (hu : 278 < u) (ht : t < 10000000) (h2 : G u 2 = (n : Int)) (hp1 : cPs (xup2 (xup2 G 99 0 (n : Int)) 99 1 0)) (e : c130 f 83 u 94 0 (S, xup2 (xup2 G 99 0 (n : Int)) 99 1 0, m) = some (S, G1, m)) : c157_4b r4 f 93 u 1 (t : Int) (S, G, m) = c157_43 r4 f f 93 u 0 (t : Int) 0 (S, G1, m) := by
  have h10 : ¬ (1 : Int) = 0 := by decide
  unfold c157_4b
  simp (disch := omega) only [cq_gi, cq_gr, cq_a, cq_s, cq_p, cq_pr, cq_is, cq_ar, cq_ab, cq_ln, xq_nz, Option.bind_some, xup2_n, xup2_s, Int.toNat_natCast, Int.reduceToNat, if_pos, if_neg, true_and, and_true, and_self, eq_self, if_true, reduceIte, not_true_eq_false, not_false_eq_true, or_true, true_or, s93 hs, s99 hs, s83 hs, p93_7 hp, p93_0 hp, p93_2 hp, us, h2, h10, k_69 (s99 hs), e]
end
end
section
/-! THE CLASS: gather(), one WAY -/
section
variable {f u np nv a p fn i t k n gO gA : Nat} {S : Nat → Nat × Nat × Nat} {G G' : xG_} {m : Nat × Nat} {K : pCd} {Ls : List pLt} {pl : List Nat} {br : Int} {qn xp cp : Nat → Nat} {R : Nat → List pRw} {lo hi : Nat → Int} {Bf : Nat} {I : List pCd} {g : Int × Int × Int} {L : List pRw} {kk mo : Int} {last : Option (List Int)} {r4 : Nat → Nat → Int → Int → xT_ → Option (Int × xT_)} {r43 : Nat → Nat → Int → Int → Int → xT_ → Option (Int × xT_)} {v0 : Nat → Int} {V : List (Nat → Int)}
theorem cWE.hr (h : cWE S G u K Ls pl 94 fn np nv a br qn xp cp R lo hi) (hxp : ∀ q, q < np → 103 < xp q) (ps : cPs G') (g2 : ∀ b j, b ≠ 92 → ¬ (99 ≤ b ∧ b ≤ 103) → G' b j = G b j) : cWE S G' u K Ls pl 94 fn np nv a br qn xp cp R lo hi := by
  obtain ⟨⟨a1, a2, a3, a4, a5, a6, a7, a8⟩, b1, c1, ⟨d1, d2⟩, e1', f1⟩ := h
  have hu := b1.2.2.2.2.1
  refine ⟨⟨a1, ps, by rw [g2 _ _ (by omega) (by omega)]; exact a3, by rw [g2 _ _ (by omega) (by omega)]; exact a4, by rw [g2 _ _ (by omega) (by omega)]; exact a5, a6, a7, a8⟩, b1.fx (fun b j y => g2 b j (by omega) (by omega)), c1, ⟨d1, fun k hk => ?_⟩, fun q hq => ?_, fun l hl => ?_⟩
  · rw [g2 _ _ (by omega) (by omega), g2 _ _ (by omega) (by omega)]; exact d2 k hk
  · obtain ⟨q1, q2, q3, q4⟩ := e1' q hq
    have := hxp q hq
    exact ⟨by rw [g2 _ _ (by omega) (by omega)]; exact q1, q2, q3.ge (fun _ _ _ => rfl) (fun j => g2 _ _ (by omega) (by omega)) (fun j => g2 _ _ (by omega) (by omega)) (fun j => g2 _ _ (by omega) (by omega)), q4⟩
  · rw [g2 _ _ (by omega) (by omega), g2 _ _ (by omega) (by omega)]; exact f1 l hl
theorem wSt8.hr (h : wSt8 Ls pl a br R lo hi G Bf V k) (g2 : ∀ b j, 83 ≤ b → b < 92 → G' b j = G b j) : wSt8 Ls pl a br R lo hi G' Bf V k := by
  rcases h with ⟨st, b, vl, V1, k1, V2, k2, a1, a2, a3, a4, a5, a6, a7, a8, a9, a10⟩ | ⟨n, B, a1, a2, a3, a4, a5⟩
  · exact .inl ⟨st, b, vl, V1, k1, V2, k2, a1, by rw [g2 _ _ (by omega) (by omega)]; exact a2, by rw [g2 _ _ (by omega) (by omega)]; exact a3, a4.ge (g2 _ _ (by omega) (by omega)) (fun j _ => g2 _ _ (by omega) (by omega)), a5, a6, a7, a8.ge _ _ _ _ (fun a j _ _ _ => g2 _ _ (by omega) (by omega)) (g2 _ _ (by omega) (by omega)) (fun j _ => g2 _ _ (by omega) (by omega)), a9, a10⟩
  · exact .inr ⟨n, B, a1, by rw [g2 _ _ (by omega) (by omega)]; exact a2, by rw [g2 _ _ (by omega) (by omega)]; exact a3, a4, a5.ge _ _ _ _ (fun a j _ _ _ => g2 _ _ (by omega) (by omega)) (g2 _ _ (by omega) (by omega)) (fun j _ => g2 _ _ (by omega) (by omega))⟩
/-- the last group of the turns before -/
def cLa (G : xG_) (n t : Nat) (last : Option (List Int)) : Prop := last = none ∧ t = 0 ∨ ∃ ys, last = some ys ∧ t ≠ 0 ∧ ys.length = n ∧ ∀ c, c < n → G 104 c = ys.getD c 0
theorem gKy_e (kk : Int) (x : Int) (hx : gXv kk (gO : Int) v0 = x) : gKy kk (gO : Int) I (gA : Int) last v0 = if kk = 2 ∧ 2000000000000 ≤ x then none else (qMk I (gA : Int) v0 I.length).bind (gLa last) := by
  unfold gKy
  rw [hx]
theorem k_157v (hf : 100003010 < f) (hxp : ∀ q, q < np → 103 < xp q) (hnI : I.length = n) (hn : n ≤ 4) (hwI : wIe nv I (gA : Int)) (hBf : ∀ j, j < nv → Bf.testBit j = true) (h : cWE S G u K Ls pl 94 fn np nv a br qn xp cp R lo hi) (hst : wSt8 Ls pl a br R lo hi G Bf (v0 :: V) k) (hk : k ≤ 100000000) (hi7 : i < 10000000) (hI : cIt G u K g I) (h3 : G u 3 = (gA : Int)) (h4 : G u 4 = kk + 9) (hkk : kk = 1 ∨ kk = 2 ∨ kk = 3 ∨ kk = 4) (h5 : kk ≠ 1 → G u 5 = (gO : Int) ∧ gO < nv) (hnv : nv ≤ 8) (hgr : cGr S G n L) (hL : L.Pairwise rwLt) (hb : ∀ y ∈ L, -4000000000000000000 ≤ y.2 ∧ y.2 ≤ 4000000000000000000) (hla : cLa G n t last) (hm : mo = 0 ∨ mo = 1) (hmk : mo = 1 → kk = 2) :
    ∃ G' k', cWE S G' u K Ls pl 94 fn np nv a br qn xp cp R lo hi ∧ wSt8 Ls pl a br R lo hi G' Bf V k' ∧ k' ≤ k ∧ (∀ b j, ¬ (83 ≤ b ∧ b ≤ 92) → ¬ (99 ≤ b ∧ b ≤ 103) → G' b j = G b j) ∧
      ((gKy kk (gO : Int) I (gA : Int) last v0 = none ∧ cGr S G' n L ∧ c157_43b r4 r43 f 93 u mo (t : Int) (i : Int) (S, G, m) = r43 93 u mo (t : Int) ((i + 1 : Nat) : Int) (S, G', m)) ∨
       ∃ xs, gKy kk (gO : Int) I (gA : Int) last v0 = some xs ∧ ((∃ i', i' < L.length ∧ (L.getD i' dRw).1 = xs ∧ cGr S G' n (L.set i' (xs, qCo kk (L.getD i' dRw).2 (gXv kk (gO : Int) v0))) ∧ c157_43b r4 r43 f 93 u mo (t : Int) (i : Int) (S, G, m) = r43 93 u mo (t : Int) ((i + 1 : Nat) : Int) (S, G', m)) ∨
        ((∀ y ∈ L, y.1 ≠ xs) ∧ ∃ i', i' ≤ L.length ∧ (∀ j, j < i' → vLt (L.getD j dRw).1 xs) ∧ (∀ j, i' ≤ j → j < L.length → vLt xs (L.getD j dRw).1) ∧ cGr S G' n ((L.take i' ++ (xs, gXv kk (gO : Int) v0) :: L.drop i').take 512) ∧
          c157_43b r4 r43 f 93 u mo (t : Int) (i : Int) (S, G, m) = if L.length = 512 then (if kk = 2 then r43 93 u 1 (t : Int) ((i + 1 : Nat) : Int) (S, G', m) else some (0, (S, G', m))) else r43 93 u mo (t : Int) ((i + 1 : Nat) : Int) (S, G', m)))) := by
  have ei : xwr ((i : Int) + 1) = ((i + 1 : Nat) : Int) := by rw [xwr_g _ (by omega) (by omega)]; omega
  have hs := h.1.1
  have hu := h.2.1.2.2.2.2.1
  have us : S u = (1, 6, 20) := h.2.1.1.1
  rcases k_next (m := m) hf h hst hk with ⟨G1, e1, e2, e3⟩ | ⟨G1, v, V', k', e1, e2, e3, e4, e5, e6⟩
  · cases e3
  · injection e3 with q1 q2
    subst q1 q2
    have h1 := h.ge e2
    have f1 : ∀ b j, ¬ (83 ≤ b ∧ b ≤ 92) → G1 b j = G b j := fun b j y => e2 b j (by omega) (by omega) (by omega)
    have h41 : G1 u 4 = kk + 9 := by rw [f1 _ _ (by omega)]; exact h4
    have hx : (if kk = 1 then 1 else G1 84 gO) = gXv kk (gO : Int) v0 := by
      unfold gXv
      by_cases c : kk = 1
      · rw [if_pos c, if_pos c]
      · rw [if_neg c, if_neg c, Int.toNat_natCast]
        exact (e6 gO (hBf gO (h5 c).2)).2.1
    have hxb : kk = 2 → vOk (gXv kk (gO : Int) v0) := fun c => by
      unfold gXv
      rw [if_neg (by omega), Int.toNat_natCast]
      exact (e6 gO (hBf gO (h5 (by omega)).2)).2.2
    have hxr : -4000000000000 ≤ gXv kk (gO : Int) v0 ∧ gXv kk (gO : Int) v0 ≤ 4000000000000 := by
      unfold gXv
      by_cases c : kk = 1
      · rw [if_pos c]; decide
      · rw [if_neg c, Int.toNat_natCast]
        rcases (e6 gO (hBf gO (h5 c).2)).2.2 with q | q <;> omega
    have st0 : c157_43b r4 r43 f 93 u mo (t : Int) (i : Int) (S, G, m) = _ := ((st_157a (r4 := r4) (r43 := r43) (u := u) (mo := mo) (t := t) hs h.1.2.1 hi7 e1).trans (st_157b (gO := gO) hs h1.1.2.1 us h41 (fun c => ⟨by rw [f1 _ _ (by omega)]; exact (h5 c).1, by have := (h5 c).2; omega⟩))).trans (st_157c us h41)
    rw [hx] at st0
    rw [gKy_e kk _ rfl]
    by_cases c2 : kk = 2 ∧ 1000000000000 < gXv kk (gO : Int) v0
    · have c2' : kk = 2 ∧ 2000000000000 ≤ gXv kk (gO : Int) v0 := ⟨c2.1, by rcases hxb c2.1 with q | q <;> omega⟩
      rw [if_pos c2] at st0
      refine ⟨G1, k', h1, e5, by omega, fun b j y1 _ => f1 b j y1, .inl ⟨by rw [if_pos c2'], hgr.ge (fun b j y1 y2 => f1 b j (by omega)), st0.trans (st_157n ei)⟩⟩
    · have c2' : ¬ (kk = 2 ∧ 2000000000000 ≤ gXv kk (gO : Int) v0) := fun y => c2 ⟨y.1, by omega⟩
      rw [if_neg c2] at st0
      rw [if_neg c2']
      have hI1 : cIt G1 u K g I := hI.fx hu (fun b j y => f1 b j (by omega))
      have hV1 : ∀ c, c < I.length → (c : Int) ≠ (gA : Int) → cVl G1 (qVm (I.getD c [])) v0 := fun c hc hn j hj => e6 j (hBf j (qVm_in (hwI c hc hn).1.1 j hj))
      obtain ⟨b, G2, g1, g2, g3⟩ := k_142h (f := f) (m := m) (vl := v0) (by omega) (by omega) hwI h1.wy hI1 (by rw [f1 _ _ (by omega)]; exact h3) hV1
      have ps2 : cPs G2 := h1.1.2.1.ge (fun b j hz => g2 b j (by
        rcases hz with z | z | z | z | z | z | z | ⟨z, z1, z2, k, z3⟩ | z | z | z | ⟨k, z1, z2, z3⟩ <;> omega) (by
        rcases hz with z | z | z | z | z | z | z | ⟨z, z1, z2, k, z3⟩ | z | z | z | ⟨k, z1, z2, z3⟩ <;> omega))
      have z2 : ∀ b j, ¬ (83 ≤ b ∧ b ≤ 92) → b ≠ 103 → G2 b j = G b j := fun b j y1 y2 => by rw [g2 b j (by omega) y2, f1 b j y1]
      have st1 := st0.trans (st_157h hs h1.1.2.1 g1)
      have ws2 := h1.hr hxp ps2 (fun b j y1 y2 => g2 b j y1 (by omega))
      have wst2 := e5.hr (G' := G2) (fun b j y1 y2 => g2 b j (by omega) (by omega))
      have gr2 : cGr S G2 n L := hgr.ge (fun b j y1 y2 => z2 b j (by omega) (by omega))
      have la2 : cLa G2 n t last := by
        rcases hla with q | ⟨ys, y1, y2, y3, y4⟩
        · exact .inl q
        · exact .inr ⟨ys, y1, y2, y3, fun c hc => by rw [z2 _ _ (by omega) (by omega)]; exact y4 c hc⟩
      have skip : (qMk I (gA : Int) v0 I.length).bind (gLa last) = none → c157_43b r4 r43 f 93 u mo (t : Int) (i : Int) (S, G, m) = r43 93 u mo (t : Int) ((i + 1 : Nat) : Int) (S, G2, m) → ∃ G' k', cWE S G' u K Ls pl 94 fn np nv a br qn xp cp R lo hi ∧ wSt8 Ls pl a br R lo hi G' Bf V k' ∧ k' ≤ k ∧ (∀ b j, ¬ (83 ≤ b ∧ b ≤ 92) → ¬ (99 ≤ b ∧ b ≤ 103) → G' b j = G b j) ∧ (((qMk I (gA : Int) v0 I.length).bind (gLa last) = none ∧ cGr S G' n L ∧ c157_43b r4 r43 f 93 u mo (t : Int) (i : Int) (S, G, m) = r43 93 u mo (t : Int) ((i + 1 : Nat) : Int) (S, G', m)) ∨ ∃ xs, (qMk I (gA : Int) v0 I.length).bind (gLa last) = some xs ∧ ((∃ i', i' < L.length ∧ (L.getD i' dRw).1 = xs ∧ cGr S G' n (L.set i' (xs, qCo kk (L.getD i' dRw).2 (gXv kk (gO : Int) v0))) ∧ c157_43b r4 r43 f 93 u mo (t : Int) (i : Int) (S, G, m) = r43 93 u mo (t : Int) ((i + 1 : Nat) : Int) (S, G', m)) ∨ ((∀ y ∈ L, y.1 ≠ xs) ∧ ∃ i', i' ≤ L.length ∧ (∀ j, j < i' → vLt (L.getD j dRw).1 xs) ∧ (∀ j, i' ≤ j → j < L.length → vLt xs (L.getD j dRw).1) ∧ cGr S G' n ((L.take i' ++ (xs, gXv kk (gO : Int) v0) :: L.drop i').take 512) ∧ c157_43b r4 r43 f 93 u mo (t : Int) (i : Int) (S, G, m) = if L.length = 512 then (if kk = 2 then r43 93 u 1 (t : Int) ((i + 1 : Nat) : Int) (S, G', m) else some (0, (S, G', m))) else r43 93 u mo (t : Int) ((i + 1 : Nat) : Int) (S, G', m)))) := fun q1 q2 => ⟨G2, k', ws2, wst2, by omega, fun b j y1 y2 => z2 b j y1 (by omega), .inl ⟨q1, gr2, q2⟩⟩
      rcases g3 with ⟨b1, ys, y1, y2⟩ | ⟨b0, y1⟩
      · subst b1
        have ly : ys.length = n := by rw [qMk_len _ _ y1, hnI]
        have addg : (qMk I (gA : Int) v0 I.length).bind (gLa last) = some ys → c157_43b r4 r43 f 93 u mo (t : Int) (i : Int) (S, G, m) = c157_146 r4 r43 f 93 u mo (t : Int) (i : Int) (gXv kk (gO : Int) v0) (S, G2, m) → ∃ G' k', cWE S G' u K Ls pl 94 fn np nv a br qn xp cp R lo hi ∧ wSt8 Ls pl a br R lo hi G' Bf V k' ∧ k' ≤ k ∧ (∀ b j, ¬ (83 ≤ b ∧ b ≤ 92) → ¬ (99 ≤ b ∧ b ≤ 103) → G' b j = G b j) ∧ (((qMk I (gA : Int) v0 I.length).bind (gLa last) = none ∧ cGr S G' n L ∧ c157_43b r4 r43 f 93 u mo (t : Int) (i : Int) (S, G, m) = r43 93 u mo (t : Int) ((i + 1 : Nat) : Int) (S, G', m)) ∨ ∃ xs, (qMk I (gA : Int) v0 I.length).bind (gLa last) = some xs ∧ ((∃ i', i' < L.length ∧ (L.getD i' dRw).1 = xs ∧ cGr S G' n (L.set i' (xs, qCo kk (L.getD i' dRw).2 (gXv kk (gO : Int) v0))) ∧ c157_43b r4 r43 f 93 u mo (t : Int) (i : Int) (S, G, m) = r43 93 u mo (t : Int) ((i + 1 : Nat) : Int) (S, G', m)) ∨ ((∀ y ∈ L, y.1 ≠ xs) ∧ ∃ i', i' ≤ L.length ∧ (∀ j, j < i' → vLt (L.getD j dRw).1 xs) ∧ (∀ j, i' ≤ j → j < L.length → vLt xs (L.getD j dRw).1) ∧ cGr S G' n ((L.take i' ++ (xs, gXv kk (gO : Int) v0) :: L.drop i').take 512) ∧ c157_43b r4 r43 f 93 u mo (t : Int) (i : Int) (S, G, m) = if L.length = 512 then (if kk = 2 then r43 93 u 1 (t : Int) ((i + 1 : Nat) : Int) (S, G', m) else some (0, (S, G', m))) else r43 93 u mo (t : Int) ((i + 1 : Nat) : Int) (S, G', m)))) := by
          intro q1 q2
          obtain ⟨v, G3, w1, w2, w3, w4⟩ := k_159 (f := f) (m := m) (x := gXv kk (gO : Int) v0) (by omega) hs ps2 us hu (by rw [z2 _ _ (by omega) (by omega)]; exact h4) hkk hn gr2 hL ly (fun c hc => y2 c (by omega)) hb hxr
          have h43 : G3 u 4 = kk + 9 := by rw [w2 _ _ (by omega) (by omega) (by omega) (by omega), z2 _ _ (by omega) (by omega)]; exact h4
          refine ⟨G3, k', ws2.hr hxp w3 (fun b j a1 a2 => w2 b j (by omega) (by omega) (by omega) (by omega)), wst2.hr (fun b j a1 a2 => w2 b j (by omega) (by omega) (by omega) (by omega)), by omega, fun b j a1 a2 => by rw [w2 b j (by omega) (by omega) (by omega) (by omega), z2 b j a1 (by omega)], .inr ⟨ys, q1, ?_⟩⟩
          rcases w4 with ⟨r1, i', r2, r3, r4'⟩ | ⟨r1, i', r2, r3, r4', r5, r6⟩
          · rw [r1] at w1
            exact .inl ⟨i', r2, r3, r4', q2.trans (st_157j hs us hm ei hmk w1 h43)⟩
          · refine .inr ⟨r1, i', r2, r3, r4', r6, q2.trans ?_⟩
            by_cases cl : L.length = 512
            · rw [if_pos cl] at r5
              rw [if_pos cl]
              rw [r5] at w1
              exact st_157k hs us hm ei w1 h43
            · rw [if_neg cl] at r5
              rw [if_neg cl]
              rw [r5] at w1
              exact st_157j hs us hm ei hmk w1 h43
        rcases la2 with ⟨l1, l2⟩ | ⟨zs, l1, l2, l3, l4⟩
        · subst l1 l2
          exact addg (by rw [y1]; rfl) (st1.trans st_157y)
        · subst l1
          have e8 := k_158 (f := f) (m := m) (by omega) hs ps2 hn ly l3 (fun c hc => y2 c (by omega)) l4
          have st2 := st1.trans (st_157f hs us l2 (by rw [z2 _ _ (by omega) (by omega), hI.1, hnI]) e8)
          have ef : fCmp (0, zs) (0, ys) = vCmp zs ys := by
            unfold fCmp
            rw [if_pos rfl, if_pos (by show zs.length = ys.length; omega)]
          by_cases cv : vCmp zs ys < 0
          · rw [if_pos cv] at st2
            refine addg ?_ (st2.trans st_157i)
            rw [y1, Option.bind_some]
            show (if fCmp (0, zs) (0, ys) < 0 then some ys else none) = some ys
            rw [ef, if_pos cv]
          · rw [if_neg cv] at st2
            refine skip ?_ (st2.trans (st_157g ei))
            rw [y1, Option.bind_some]
            show (if fCmp (0, zs) (0, ys) < 0 then some ys else none) = none
            rw [ef, if_neg cv]
      · subst b0
        exact skip (by rw [y1]; rfl) (st1.trans (st_157m ei))
end
end
section
/-! THE CLASS: gather(), all WAYS of a turn -/
section
variable {f u np nv a p fn t n gO gA : Nat} {S : Nat → Nat × Nat × Nat} {m : Nat × Nat} {K : pCd} {Ls : List pLt} {pl : List Nat} {br : Int} {qn xp cp : Nat → Nat} {R : Nat → List pRw} {lo hi : Nat → Int} {Bf : Nat} {I : List pCd} {g : Int × Int × Int} {kk : Int} {last : Option (List Int)} {r4 : Nat → Nat → Int → Int → xT_ → Option (Int × xT_)}
theorem gVs_mem {α : Type} {key : α → Option (List Int)} {val : α → Int} {W : List α} {xs : List Int} {x : Int} (h : x ∈ gVs key val W xs) : ∃ v ∈ W, x = val v := by
  unfold gVs at h
  obtain ⟨v, h1, h2⟩ := List.mem_filterMap.mp h
  refine ⟨v, h1, ?_⟩
  by_cases c : key v = some xs
  · rw [if_pos c] at h2; injection h2 with h2; exact h2.symm
  · rw [if_neg c] at h2; cases h2
theorem gIw_bd {α : Type} {key : α → Option (List Int)} {val : α → Int} {W : List α} {L : List pRw} {mo : Int} {N : Nat} (hkk : kk = 1 ∨ kk = 2 ∨ kk = 3 ∨ kk = 4) (h : gIw N kk key val W L mo) (hW : W.length ≤ 1000000) (hv : ∀ v ∈ W, -3000000000000 ≤ val v ∧ val v ≤ 3000000000000) : ∀ y ∈ L, -4000000000000000000 ≤ y.2 ∧ y.2 ≤ 4000000000000000000 := fun y hy => by
  rw [(h.2.2.2.1 y hy).2]
  have := gAg_bd (kk := kk) (l := gVs key val W y.1) hkk 1000000 (by have := gVs_len (key := key) (val := val) W y.1; omega) (fun x hx => by
    obtain ⟨v, v1, rfl⟩ := gVs_mem hx
    exact hv v v1)
  omega
theorem k_157p (hf : 100003010 < f) (hxp : ∀ q, q < np → 103 < xp q) (hnI : I.length = n) (hn : n ≤ 4) (hwI : wIe nv I (gA : Int)) (hBf : ∀ j, j < nv → Bf.testBit j = true) (hkk : kk = 1 ∨ kk = 2 ∨ kk = 3 ∨ kk = 4) (hnv : nv ≤ 8) : ∀ (V : List (Nat → Int)) (k i fu : Nat) (G : xG_) (W : List (Nat → Int)) (L : List pRw) (mo : Int), cWE S G u K Ls pl 94 fn np nv a br qn xp cp R lo hi → wSt8 Ls pl a br R lo hi G Bf V k → k ≤ 100000000 → V.length < fu → i + V.length < 10000000 → cIt G u K g I → G u 3 = (gA : Int) → G u 4 = kk + 9 → (kk ≠ 1 → G u 5 = (gO : Int) ∧ gO < nv) → cLa G n t last → cGr S G n L → gIw 512 kk (gKy kk (gO : Int) I (gA : Int) last) (gXv kk (gO : Int)) W L mo → (mo = 1 → kk = 2) → W.length + V.length ≤ 1000000 → (∀ v, v ∈ W ∨ v ∈ V → -3000000000000 ≤ gXv kk (gO : Int) v ∧ gXv kk (gO : Int) v ≤ 3000000000000) →
    ∃ G', cWE S G' u K Ls pl 94 fn np nv a br qn xp cp R lo hi ∧ (∀ b j, ¬ (83 ≤ b ∧ b ≤ 92) → ¬ (99 ≤ b ∧ b ≤ 103) → G' b j = G b j) ∧
      ((∃ L' mo', c157_43 r4 f fu 93 u mo (t : Int) (i : Int) (S, G, m) = c157_185 r4 f 93 u mo' (t : Int) (S, G', m) ∧ gIw 512 kk (gKy kk (gO : Int) I (gA : Int) last) (gXv kk (gO : Int)) (W ++ V) L' mo' ∧ (mo' = 1 → kk = 2) ∧ cGr S G' n L') ∨
       (kk ≠ 2 ∧ c157_43 r4 f fu 93 u mo (t : Int) (i : Int) (S, G, m) = some (0, (S, G', m)) ∧ ∃ Ks : List (List Int), Ks.Nodup ∧ 512 < Ks.length ∧ ∀ ks ∈ Ks, ∃ v, v ∈ W ++ V ∧ gKy kk (gO : Int) I (gA : Int) last v = some ks)) := by
  intro V
  induction V with
  | nil =>
    intro k i fu G W L mo h hst hk hfu hi7 hI h3 h4 h5 hla hgr hiv hmk hW hval
    obtain ⟨fu, rfl⟩ : ∃ t, fu = t + 1 := ⟨fu - 1, by omega⟩
    rcases k_next (m := m) hf h hst hk with ⟨G1, e1, e2, e3⟩ | ⟨G1, v, V', k', e1, e2, e3, _⟩
    · have st : c157_43 r4 f (fu + 1) 93 u mo (t : Int) (i : Int) (S, G, m) = _ := (st_157a (r4 := r4) (r43 := c157_43 r4 f fu) (u := u) (mo := mo) (t := t) h.1.1 h.1.2.1 (by simp at hi7; omega) e1).trans st_157z
      refine ⟨G1, h.ge e2, fun b j y1 _ => e2 b j (by omega) (by omega) (by omega), .inl ⟨L, mo, st, by rw [List.append_nil]; exact hiv, hmk, hgr.ge (fun b j _ _ => e2 b j (by omega) (by omega) (by omega))⟩⟩
    · cases e3
  | cons v0 V ih =>
    intro k i fu G W L mo h hst hk hfu hi7 hI h3 h4 h5 hla hgr hiv hmk hW hval
    rw [List.length_cons] at hfu hi7 hW
    obtain ⟨fu, rfl⟩ : ∃ t, fu = t + 1 := ⟨fu - 1, by omega⟩
    have hu := h.2.1.2.2.2.2.1
    have hb := gIw_bd hkk hiv (by omega) (fun v hv => hval v (.inl hv))
    obtain ⟨G1, k', g1, g2, g3, g4, g5⟩ := k_157v (r4 := r4) (r43 := c157_43 r4 f fu) (m := m) (i := i) (t := t) (mo := mo) hf hxp hnI hn hwI hBf h hst hk (by omega) hI h3 h4 hkk h5 hnv hgr hiv.1 hb hla hiv.2.2.1 hmk
    have ew : ∀ X : List (Nat → Int), W ++ v0 :: X = (W ++ [v0]) ++ X := fun X => by rw [List.append_assoc]; rfl
    -- behind this WAY
    have rest : ∀ (L1 : List pRw) (mo1 : Int), cGr S G1 n L1 → gIw 512 kk (gKy kk (gO : Int) I (gA : Int) last) (gXv kk (gO : Int)) (W ++ [v0]) L1 mo1 → (mo1 = 1 → kk = 2) → c157_43 r4 f (fu + 1) 93 u mo (t : Int) (i : Int) (S, G, m) = c157_43 r4 f fu 93 u mo1 (t : Int) ((i + 1 : Nat) : Int) (S, G1, m) → ∃ G', cWE S G' u K Ls pl 94 fn np nv a br qn xp cp R lo hi ∧ (∀ b j, ¬ (83 ≤ b ∧ b ≤ 92) → ¬ (99 ≤ b ∧ b ≤ 103) → G' b j = G b j) ∧
      ((∃ L' mo', c157_43 r4 f (fu + 1) 93 u mo (t : Int) (i : Int) (S, G, m) = c157_185 r4 f 93 u mo' (t : Int) (S, G', m) ∧ gIw 512 kk (gKy kk (gO : Int) I (gA : Int) last) (gXv kk (gO : Int)) (W ++ v0 :: V) L' mo' ∧ (mo' = 1 → kk = 2) ∧ cGr S G' n L') ∨
       (kk ≠ 2 ∧ c157_43 r4 f (fu + 1) 93 u mo (t : Int) (i : Int) (S, G, m) = some (0, (S, G', m)) ∧ ∃ Ks : List (List Int), Ks.Nodup ∧ 512 < Ks.length ∧ ∀ ks ∈ Ks, ∃ v, v ∈ W ++ v0 :: V ∧ gKy kk (gO : Int) I (gA : Int) last v = some ks)) := by
      intro L1 mo1 q1 q2 q3 q4
      rw [ew V, q4]
      obtain ⟨G2, i1, i2, i3⟩ := ih k' (i + 1) fu G1 (W ++ [v0]) L1 mo1 g1 g2 (by omega) (by omega) (by omega) (hI.fx hu (fun b j y => g4 b j (by omega) (by omega))) (by rw [g4 _ _ (by omega) (by omega)]; exact h3) (by rw [g4 _ _ (by omega) (by omega)]; exact h4) (by rw [g4 _ _ (by omega) (by omega)]; exact h5) (by
        rcases hla with q | ⟨ys, y1, y2, y3, y4⟩
        · exact .inl q
        · exact .inr ⟨ys, y1, y2, y3, fun c hc => by rw [g4 _ _ (by omega) (by omega)]; exact y4 c hc⟩) q1 q2 q3 (by rw [List.length_append, List.length_singleton]; omega) (fun v hv => by
        rcases hv with hv | hv
        · rcases List.mem_append.mp hv with y | y
          · exact hval v (.inl y)
          · exact hval v (.inr (by rw [List.mem_singleton.mp y]; exact List.mem_cons_self))
        · exact hval v (.inr (List.mem_cons_of_mem _ hv)))
      exact ⟨G2, i1, fun b j y1 y2 => (i2 b j y1 y2).trans (g4 b j y1 y2), i3⟩
    rcases g5 with ⟨e1, e2, e3⟩ | ⟨xs, e1, ⟨i', e2, e3, e4, e5⟩ | ⟨e2, i', e3, e4, e5, e6, e7⟩⟩
    · exact rest L mo e2 (hiv.skip e1) hmk e3
    · exact rest _ mo e4 (hiv.upd e1 e2 e3) hmk e5
    · have hnew := hiv.new e1 e2 e3 e4 e5
      by_cases c : L.length = 512
      · rw [if_pos c] at e7 hnew
        by_cases c2 : kk = 2
        · rw [if_pos c2] at e7
          exact rest _ 1 e6 hnew (fun _ => c2) e7
        · rw [if_neg c2] at e7
          refine ⟨G1, g1, g4, .inr ⟨c2, e7, xs :: L.map (·.1), ?_, by rw [List.length_cons, List.length_map]; omega, fun ks hks => ?_⟩⟩
          · refine List.nodup_cons.mpr ⟨fun q => ?_, ?_⟩
            · obtain ⟨r, r1, r2⟩ := List.mem_map.mp q
              exact e2 r r1 r2
            · rw [List.nodup_iff_pairwise_ne, List.pairwise_map]
              exact hiv.1.imp (fun {r1 r2} hab => fun (e : r1.1 = r2.1) => vLt_irr r2.1 (by have hab' : vLt r1.1 r2.1 := hab; rw [e] at hab'; exact hab'))
          · rcases List.mem_cons.mp hks with e | e
            · subst e; exact ⟨v0, List.mem_append.mpr (.inr List.mem_cons_self), e1⟩
            · obtain ⟨r, r1, r2⟩ := List.mem_map.mp e
              obtain ⟨v, v1, v2⟩ := gVs_ne (hiv.2.2.2.1 r r1).1
              exact ⟨v, List.mem_append.mpr (.inl v1), by rw [v2, r2]⟩
      · rw [if_neg c] at e7 hnew
        exact rest _ mo e6 hnew hmk e7
end
end
section
/-! THE CLASS: all WAYS of a rule, as they are opened without bounds -/
/-- what a rule and its rows are, before WAYS are opened -/
def cWX (S : Nat → Nat × Nat × Nat) (G : xG_) (u : Nat) (K : pCd) (Ls : List pLt) (pl : List Nat) (np nv a : Nat) (qn xp cp : Nat → Nat) (R : Nat → List pRw) : Prop :=
  (cSs S ∧ cPs G ∧ np ≤ 16) ∧ cRq S G u K Ls ∧
  (nv ≤ 8 ∧ (∀ y ∈ Ls, wLt np nv y ∧ (y.1 ≠ 3 → 0 ≤ y.2.1 ∧ y.2.2.2.1.length = qn y.2.1.toNat)) ∧ dLs Ls) ∧
  (pl.length = Ls.length ∧ ∀ k, k < Ls.length → G (u + 9) k = ((pl.getD k 0 : Nat) : Int) ∧ pl.getD k 0 < Ls.length ∧ G (u + 10) k = ((plA Ls a (pl.drop (k + 1)) : Nat) : Int) ∧ plA Ls a (pl.drop (k + 1)) < 2 ^ 8) ∧
  (∀ p, p < np → G 94 p = ((xp p : Nat) : Int) ∧ 105 < xp p ∧ cRw S G (xp p) (qn p) (cp p) (R p) ∧ (R p).Pairwise rwLt ∧ (R p).length ≤ 100 ∧ ∀ r ∈ R p, ∀ x ∈ r.1, vOk x)
section
variable {u np nv a : Nat} {S : Nat → Nat × Nat × Nat} {G G' : xG_} {K : pCd} {Ls : List pLt} {pl : List Nat} {br : Int} {qn xp cp : Nat → Nat} {R : Nat → List pRw} {lo hi : Nat → Int} {Bf k : Nat} {V : List (Nat → Int)}
theorem cWX.we (h : cWX S G u K Ls pl np nv a qn xp cp R) (hf : ∀ a j, ¬ (a = 83 ∧ 3 ≤ j ∧ j ≤ 7) → a ≠ 85 → a ≠ 86 → ¬ (a = 87 ∧ j = 0) → G' a j = G a j) (hp : cPs G') (f3 : G' 83 3 = (u : Int)) (f4 : G' 83 4 = 94) (f5 : G' 83 5 = br) (fl : ∀ l, l < 8 → G' 85 l = lo l ∧ G' 86 l = hi l) : cWE S G' u K Ls pl 94 16 np nv a br qn xp cp R lo hi := by
  obtain ⟨⟨a1, a2, a3⟩, b1, c1, ⟨d1, d2⟩, e1⟩ := h
  have hu := b1.2.2.2.2.1
  refine ⟨⟨a1, hp, f3, f4, f5, s94 a1, by omega, a3⟩, b1.fx (fun b j y => hf b j (by omega) (by omega) (by omega) (by omega)), c1, ⟨d1, fun k hk => ?_⟩, fun q hq => ?_, fl⟩
  · rw [hf _ _ (by omega) (by omega) (by omega) (by omega), hf _ _ (by omega) (by omega) (by omega) (by omega)]; exact d2 k hk
  · obtain ⟨q1, q2, q3, q4⟩ := e1 q hq
    exact ⟨by rw [hf _ _ (by omega) (by omega) (by omega) (by omega)]; exact q1, by omega, q3.ge (fun _ _ _ => rfl) (fun j => hf _ _ (by omega) (by omega) (by omega) (by omega)) (fun j => hf _ _ (by omega) (by omega) (by omega) (by omega)) (fun j => hf _ _ (by omega) (by omega) (by omega) (by omega)), q4⟩
theorem cWX.ge (h : cWX S G u K Ls pl np nv a qn xp cp R) (hp : cPs G') (hx : ∀ p, p < np → ∀ b, xp p ≤ b → b ≤ xp p + 2 → ∀ j, G' b j = G b j) (hfa : ∀ j, G' 94 j = G 94 j) (hu : ∀ a j, 278 < a → G' a j = G a j) : cWX S G' u K Ls pl np nv a qn xp cp R := by
  obtain ⟨⟨a1, a2, a3⟩, b1, c1, ⟨d1, d2⟩, e1⟩ := h
  have hu' := b1.2.2.2.2.1
  refine ⟨⟨a1, hp, a3⟩, b1.fx hu, c1, ⟨d1, fun k hk => ?_⟩, fun q hq => ?_⟩
  · rw [hu _ _ (by omega), hu _ _ (by omega)]; exact d2 k hk
  · obtain ⟨q1, q2, q3, q4⟩ := e1 q hq
    exact ⟨by rw [hfa]; exact q1, q2, q3.ge (fun _ _ _ => rfl) (fun j => hx q hq _ (by omega) (by omega) j) (fun j => hx q hq _ (by omega) (by omega) j) (fun j => hx q hq _ (by omega) (by omega) j), q4⟩
theorem qLv_lt {y : pLt} (hw : wLt np nv y) {j : Nat} (h : (qLv y).testBit j = true) : j < nv := by
  unfold qLv at h
  rcases hw with ⟨w1, _, _, _, _, w2⟩ | ⟨w1, _, w2, w3⟩
  · rw [if_neg (by omega)] at h
    obtain ⟨i, i1, i2, i3⟩ := qT_get.mp h
    have hm : y.2.2.2.1.getD i (0, 0) ∈ y.2.2.2.1 := by rw [getD_e i1]; exact List.getElem_mem i1
    rcases w2 _ hm with ⟨z1, z2, z3⟩ | z1 | ⟨z1, _⟩
    · omega
    · omega
    · omega
  · rw [if_pos w1, Nat.testBit_or, Bool.or_eq_true] at h
    rcases h with h | h
    · exact qVm_in w2.1 j h
    · exact qVm_in w3.1 j h
theorem ways_bits {fa fn : Nat} (h : cWE S G u K Ls pl fa fn np nv a br qn xp cp R lo hi) (h6 : G 83 6 = 0) (h7 : G 83 7 = 1) (h87 : G 87 0 = 0) (hw : wSt8 Ls pl a br R lo hi G Bf V k) : ∀ j, Bf.testBit j = true → j < nv := by
  intro j hj
  rcases hw with ⟨st, b, vl, V1, k1, V2, k2, a1, a2, a3, a4, a5, a6, _⟩ | ⟨n, B, a1, a2, a3, _⟩
  · have e : st = 0 := by omega
    subst e
    have hb : b = 0 := by have := a4.1; omega
    subst hb
    rw [List.drop_zero] at a6
    rw [← a6] at hj
    rcases (mkP_in pl 0).mp hj with q | ⟨p, p1, p2⟩
    · rw [Nat.zero_testBit] at q; cases q
    · obtain ⟨i, i1, i2⟩ := List.getElem_of_mem p1
      have hl := h.2.2.2.1.1
      have := (h.2.2.2.1.2 i (by omega)).2.1
      rw [getD_e i1, i2] at this
      exact qLv_lt (h.2.2.1.2.1 _ (lt_in this)).1 p2
  · omega
theorem vec_id {v : List Int} (h : v.length = nv) : vec nv (vF v) = v := by
  refine List.ext_getElem (by rw [vec_len, h]) (fun i h1 h2 => ?_)
  have e := vec_get (nv := nv) (v := vF v) (k := i) (by omega)
  rw [getD_e h1] at e
  rw [e]
  show v.getD i 0 = _
  rw [getD_e h2]
theorem W_lit {v : List Int} (h : isW Ls nv R qO1 v) (hr : ∀ l, l < Ls.length → (Ls.getD l dLt).1 = 1 → ∀ r ∈ R (Ls.getD l dLt).2.1.toNat, lo l ≤ r.2 ∧ r.2 ≤ hi l) : ∀ l, l < Ls.length → litO Ls R lo hi l (vF v) := by
  obtain ⟨v1, v2, v3⟩ := h
  intro l hl
  refine ⟨fun q1 => ?_, fun q2 ⟨r, r1, _, r3⟩ => (v3 _ (lt_in hl)).1 q2 ⟨r, r1, r3⟩, (v3 _ (lt_in hl)).2⟩
  obtain ⟨r, r1, _, r3⟩ := v2 _ (lt_in hl) q1
  exact ⟨r, r1, hr l hl q1 r r1, r3⟩
/-- all WAYS, each once -/
theorem all_of (hw : ∀ y ∈ Ls, wLt np nv y) (hB1 : ∀ j, j < nv → Bf.testBit j = true) (hB2 : ∀ j, Bf.testBit j = true → j < nv) (hr : ∀ l, l < Ls.length → (Ls.getD l dLt).1 ≠ 3 → ∀ r ∈ R (Ls.getD l dLt).2.1.toNat, lo l ≤ r.2 ∧ r.2 ≤ hi l) (h1 : ∀ v ∈ V, ∀ l, l < Ls.length → litO Ls R lo hi l v) (h2 : V.Pairwise (dfO Bf)) (h3 : ∀ w, (∀ l, l < Ls.length → litO Ls R lo hi l w) → ∃ v ∈ V, ∀ j, Bf.testBit j = true → v j = w j) : isAll Ls nv R qO1 (V.map (vec nv)) := by
  refine ⟨?_, fun v => ⟨fun q => ?_, fun q => ?_⟩⟩
  · rw [List.nodup_iff_pairwise_ne, List.pairwise_map]
    refine h2.imp (fun {v w} hd e => ?_)
    obtain ⟨j, j1, j2⟩ := hd
    have hj := hB2 j j1
    apply j2
    rw [← vec_get (nv := nv) (v := v) hj, e, vec_get hj]
  · obtain ⟨w, w1, rfl⟩ := List.mem_map.mp q
    exact lit_W hw (h1 w w1) (fun l hl q2 => hr l hl (by omega))
  · obtain ⟨w, w1, w2⟩ := h3 (vF v) (W_lit q (fun l hl q1 => hr l hl (by omega)))
    refine List.mem_map.mpr ⟨w, w1, ?_⟩
    rw [vec_ext (fun k hk => w2 k (hB1 k hk)), vec_id q.1]
end
end
section
/-! THE CLASS: gather(), its turns -/
section
variable {nv gO gA n : Nat} {Ls : List pLt} {R : Nat → List pRw} {I : List pCd} {kk : Int} {last : Option (List Int)} {V : List (Nat → Int)} {xs zs : List Int}
theorem gVs_vec (hw : ∀ k, k < I.length → (k : Int) ≠ (gA : Int) → wEx nv (I.getD k [])) (hO : kk ≠ 1 → gO < nv) : gVs (fun v : List Int => gKy kk (gO : Int) I (gA : Int) last (vF v)) (fun v => gXv kk (gO : Int) (vF v)) (V.map (vec nv)) xs = gVs (gKy kk (gO : Int) I (gA : Int) last) (gXv kk (gO : Int)) V xs := by
  unfold gVs
  rw [List.filterMap_map]
  congr 1
  funext v
  obtain ⟨e1, e2⟩ := gKy_xt (kk := kk) (gO := (gO : Int)) (last := last) (v := vF (vec nv v)) (w := v) hw (fun c => ⟨Int.natCast_nonneg _, by have := hO c; omega⟩) (fun k hk => vec_vF hk)
  show (if gKy kk (gO : Int) I (gA : Int) last (vF (vec nv v)) = some xs then some (gXv kk (gO : Int) (vF (vec nv v))) else none) = _
  rw [e1, e2]
theorem gVs_lf (h : gLa last xs = some xs) : gVs (gKy kk (gO : Int) I (gA : Int) last) (gXv kk (gO : Int)) V xs = gVs (gKy kk (gO : Int) I (gA : Int) none) (gXv kk (gO : Int)) V xs := by
  unfold gVs
  congr 1
  funext v
  by_cases c : gKy kk (gO : Int) I (gA : Int) none v = some xs
  · rw [if_pos c, if_pos (gKy_iff.mpr ⟨c, h⟩)]
  · rw [if_neg c, if_neg (fun y => c (gKy_iff.mp y).1)]
theorem gDs_V (hw : ∀ k, k < I.length → (k : Int) ≠ (gA : Int) → wEx nv (I.getD k [])) (hO : kk ≠ 1 → gO < nv) (hV : isAll Ls nv R qO1 (V.map (vec nv))) : gDs Ls nv R qO1 kk (gO : Int) I gA xs zs ↔ gVs (gKy kk (gO : Int) I (gA : Int) none) (gXv kk (gO : Int)) V xs ≠ [] ∧ gRo kk gA xs (gAg kk (gVs (gKy kk (gO : Int) I (gA : Int) none) (gXv kk (gO : Int)) V xs)) = some zs := by
  constructor
  · intro h
    have := gDs_of hV h
    rw [gVs_vec hw hO] at this
    exact this
  · rintro ⟨h1, h2⟩
    refine ⟨V.map (vec nv), hV, ?_, ?_⟩
    · rw [gVs_vec hw hO]; exact h1
    · rw [gVs_vec hw hO]; exact h2
/-- behind the last group -/
theorem gLa_lt {ys : List Int} : gLa (some ys) xs = some xs ↔ vLt ys xs := by
  show (if fCmp (0, ys) (0, xs) < 0 then some xs else none) = some xs ↔ _
  by_cases c : fCmp (0, ys) (0, xs) < 0
  · rw [if_pos c]; exact ⟨fun _ => c, fun _ => rfl⟩
  · rw [if_neg c]; exact ⟨fun y => (by cases y), fun y => absurd y c⟩
theorem gLa_tr {ys : List Int} (h1 : gLa last ys = some ys) (h2 : vLt ys xs) : gLa last xs = some xs := by
  cases last with
  | none => rfl
  | some zs => exact gLa_lt.mpr (vLt_tr (gLa_lt.mp h1) h2)
/-- where all groups give rows, more than 512 groups are too many rows -/
theorem g_over (hgA : gA < I.length) (hw : ∀ k, k < I.length → (k : Int) ≠ (gA : Int) → wEx nv (I.getD k [])) (hO : kk ≠ 1 → gO < nv) (hV : isAll Ls nv R qO1 (V.map (vec nv))) (hk : kk ≠ 2) {Ks : List (List Int)} (h1 : Ks.Nodup) (h2 : 512 < Ks.length) (h3 : ∀ ks ∈ Ks, ∃ v, v ∈ V ∧ gKy kk (gO : Int) I (gA : Int) last v = some ks) : ∃ W : List (List Int), W.Nodup ∧ 100 < W.length ∧ ∀ z ∈ W, ∃ ks, gDs Ls nv R qO1 kk (gO : Int) I gA ks z ∧ gLa last ks = some ks := by
  have key : ∀ ks ∈ Ks, gLa last ks = some ks ∧ ks.length = I.length ∧ ks.getD gA 0 = 0 ∧ gDs Ls nv R qO1 kk (gO : Int) I gA ks (ks.set gA (gAg kk (gVs (gKy kk (gO : Int) I (gA : Int) none) (gXv kk (gO : Int)) V ks))) := fun ks hks => by
    obtain ⟨v, v1, v2⟩ := h3 ks hks
    obtain ⟨w1, w2⟩ := gKy_iff.mp v2
    have w3 : qMk I (gA : Int) v I.length = some ks := by
      unfold gKy at w1
      by_cases c : kk = 2 ∧ 2000000000000 ≤ gXv kk (gO : Int) v
      · rw [if_pos c] at w1; cases w1
      · rw [if_neg c] at w1
        cases hq : qMk I (gA : Int) v I.length with
        | none => rw [hq] at w1; cases w1
        | some ys =>
          rw [hq, Option.bind_some] at w1
          exact w1
    refine ⟨w2, qMk_len _ _ w3, qMk_g _ _ w3 hgA, (gDs_V hw hO hV).mpr ⟨gVs_in v1 w1, ?_⟩⟩
    rw [gRo_so (fun y => hk y.1)]
  refine ⟨Ks.map (fun ks => ks.set gA (gAg kk (gVs (gKy kk (gO : Int) I (gA : Int) none) (gXv kk (gO : Int)) V ks))), ?_, by rw [List.length_map]; omega, fun z hz => ?_⟩
  · rw [List.nodup_iff_pairwise_ne, List.pairwise_map]
    refine List.Pairwise.imp_of_mem (fun {a b} ha hb hne e => hne ?_) (List.nodup_iff_pairwise_ne.mp h1)
    obtain ⟨_, a1, a2, _⟩ := key a ha
    obtain ⟨_, b1, b2, _⟩ := key b hb
    refine List.ext_getElem (by omega) (fun i i1 i2 => ?_)
    have e' := congrArg (fun l => List.getD l i 0) e
    have e2 : (a.set gA (gAg kk (gVs (gKy kk (gO : Int) I (gA : Int) none) (gXv kk (gO : Int)) V a))).getD i 0 = (b.set gA (gAg kk (gVs (gKy kk (gO : Int) I (gA : Int) none) (gXv kk (gO : Int)) V b))).getD i 0 := e'
    rw [getD_st (by omega), getD_st (by omega)] at e2
    rw [← getD_e (d := (0 : Int)) i1, ← getD_e (d := (0 : Int)) i2]
    by_cases c : i = gA
    · subst c; rw [a2, b2]
    · rw [if_neg c, if_neg c] at e2; exact e2
  · obtain ⟨ks, k1, rfl⟩ := List.mem_map.mp hz
    exact ⟨ks, (key ks k1).2.2.2, (key ks k1).1⟩
end
end
section
/-! THE CLASS: gather(), all its turns -/
section
variable {f u np nv a p gO gA n dd : Nat} {S : Nat → Nat × Nat × Nat} {m : Nat × Nat} {K : pCd} {Ls : List pLt} {pl : List Nat} {qn xp cp : Nat → Nat} {R : Nat → List pRw} {I : List pCd} {g : Int × Int × Int} {kk : Int}
theorem vec_mem {v : Nat → Int} {k : Nat} (hk : k < nv) : v k ∈ vec nv v := by
  have e := vec_get (nv := nv) (v := v) hk
  have hl : k < (vec nv v).length := by rw [vec_len]; exact hk
  rw [getD_e hl] at e
  rw [← e]
  exact List.getElem_mem hl
theorem ps_99 {G G' : xG_} (hp : cPs G) (z0 : ∀ b j, ¬ (b = 99 ∧ j ≤ 1) → G' b j = G b j) : cPs G' := hp.ge (fun b j hz => z0 b j (by
  rcases hz with z | z | z | z | z | z | z | ⟨z, z1, z2, k, z3⟩ | z | z | z | ⟨k, z1, z2, z3⟩ <;> omega))
theorem gr_z0 {G : xG_} (hs : cSs S) (hp : cPs G) (hn : n ≤ 4) (h0 : G 99 0 = (n : Int)) (h1 : G 99 1 = 0) : cGr S G n [] := by
  refine ⟨[], ⟨s99 hs, ⟨2048, s100 hs, by omega, by omega⟩, s101 hs, ⟨h0, h1, p99_2 hp, p99_3 hp⟩, Nat.zero_le _, Nat.le_refl _, by omega, fun i hi => absurd hi (Nat.not_lt_zero i)⟩, rfl, fun i hi => absurd hi (Nat.not_lt_zero i), fun i j _ hj => absurd hj (Nat.not_lt_zero j)⟩
theorem k_157t (hf : 100003010 < f) (hp16 : p < 16) (hxp : ∀ q, q < np → ∀ b, xp q ≤ b → b ≤ xp q + 2 → ¬ (111 + 6 * p ≤ b ∧ b ≤ 113 + 6 * p)) (hnI : I.length = n) (hn : n ≤ 4) (hgA : gA < n) (hwI : wIe nv I (gA : Int)) (hkk : kk = 1 ∨ kk = 2 ∨ kk = 3 ∨ kk = 4) (hO : kk ≠ 1 → gO < nv) (hat : pAtoms Ls ≤ 3) (hsf : sfe Ls nv) (hnd : pl.Nodup) (hpB : plB Ls pl 0 = some dd) (hr : ∀ l, l < Ls.length → (Ls.getD l dLt).1 ≠ 3 → ∀ r ∈ R (Ls.getD l dLt).2.1.toNat, 0 ≤ r.2 ∧ r.2 ≤ 1700) :
    ∀ (d fu t : Nat) (last : Option (List Int)) (G : xG_) (F : List pRw) (cm mo : Int), (mo = 1 → ∀ V, isAll Ls nv R qO1 V → V.countP (fun v => (gKy kk (gO : Int) I (gA : Int) last (vF v)).isSome) ≤ d) → d + 1 < fu → t + d + 1 < 10000000 → cWX S G u K Ls pl np nv a qn xp cp R → cIt G u K g I → G u 3 = (gA : Int) → G u 4 = kk + 9 → (kk ≠ 1 → G u 5 = (gO : Int)) → G u 0 = (p : Int) → cRw S G (108 + 6 * p) n 100 [] → cRw S G (111 + 6 * p) n 100 F → F.Pairwise rwLt → (∀ r ∈ F, r.2 = 0) → G 93 15 = cm → 0 ≤ cm → cm ≤ 9000000 + (F.length : Int) → (mo = 0 ∨ mo = 1) → (mo = 1 → cLa G n t last) →
      ∃ v G', c157_4 f fu 93 u mo (t : Int) (S, G, m) = some (v, (S, G', m)) ∧ (∀ b j, ¬ (83 ≤ b ∧ b ≤ 92) → ¬ (99 ≤ b ∧ b ≤ 105) → ¬ (b = 93 ∧ j = 15) → ¬ (111 + 6 * p ≤ b ∧ b ≤ 113 + 6 * p) → G' b j = G b j) ∧ cPs G' ∧ gvO S G' p n [] F cm (fun z => mo = 1 ∧ ∃ ks, gDs Ls nv R qO1 kk (gO : Int) I gA ks z ∧ gLa last ks = some ks) v := by
  have hwE : ∀ k, k < I.length → (k : Int) ≠ (gA : Int) → wEx nv (I.getD k []) := fun k h1 h2 => (hwI k h1 h2).1
  intro d
  induction d using Nat.strongRecOn with
  | _ d ih =>
    intro fu t last G F cm mo hcnt hfu ht hX hI h3 h4 h5 h0 hM hF hFs hF0 hcm hc0 hc1 hmo hla
    obtain ⟨fu, rfl⟩ : ∃ t, fu = t + 1 := ⟨fu - 1, by omega⟩
    rcases hmo with rfl | rfl
    · exact ⟨1, G, st_157w (r4 := c157_4 f fu) (by omega), fun _ _ _ _ _ _ => rfl, hX.1.2.1, gvO.no hF hFs hF0 hcm (fun xs hD _ => absurd hD.1 (by decide))⟩
    · have hs := hX.1.1
      have hp := hX.1.2.1
      have hu : 278 < u := hX.2.1.2.2.2.2.1
      have us : S u = (1, 6, 20) := hX.2.1.1.1
      have hnv := hX.2.2.1.1
      have h2 : G u 2 = (n : Int) := by rw [hI.1, hnI]
      obtain ⟨G0, hG0⟩ : ∃ G0, G0 = xup2 (xup2 G 99 0 (n : Int)) 99 1 0 := ⟨_, rfl⟩
      have z0 : ∀ b j, ¬ (b = 99 ∧ j ≤ 1) → G0 b j = G b j := fun b j y => by rw [hG0, xup2_n (by omega), xup2_n (by omega)]
      have hp0 : cPs G0 := ps_99 hp z0
      obtain ⟨G1, e1, e2, e3, e4, e5, e6, e7, e8, e9, e10, e11⟩ := k_130 (u := u) (fa := 94) (m := m) (G := G0) (f := f) (by omega) hs hp0 (.inl rfl)
      have f1 : ∀ b j, ¬ (83 ≤ b ∧ b ≤ 92) → ¬ (b = 99 ∧ j ≤ 1) → G1 b j = G b j := fun b j y1 y2 => by rw [e2 b j (by omega) (by omega) (by omega) (by omega), z0 b j y2]
      have hX0 : cWX S G0 u K Ls pl np nv a qn xp cp R := hX.ge hp0 (fun q hq b b1 b2 j => z0 b j (by have := (hX.2.2.2.2 q hq).2.1; omega)) (fun j => z0 _ _ (by omega)) (fun a j y => z0 a j (by omega))
      have hE : cWE S G1 u K Ls pl 94 16 np nv a 0 qn xp cp R (fun _ => 0) (fun _ => 1700) := hX0.we e2 e3 e4 e5 e6 (fun l hl => ⟨e10 l hl, e11 l hl⟩)
      obtain ⟨V, k, Bf, w1, w2, w3, w4, w5, w6, _⟩ := ways_start hE e7 e8 (b := 0) (vl := fun _ => 0) ⟨e9, by decide, fun k hk => by rw [Nat.zero_testBit] at hk; cases hk⟩ hat hsf hnd hpB
      obtain ⟨w7, w8⟩ := w6 rfl
      have hall : isAll Ls nv R qO1 (V.map (vec nv)) := all_of (np := np) (lo := fun _ => 0) (hi := fun _ => 1700) (fun y hy => (hX.2.2.1.2.1 y hy).1) w4 (ways_bits hE e7 e8 e9 w3) hr (fun v hv => (w5 v hv).2) w7 (fun w hw => w8 w (fun j hj => by rw [Nat.zero_testBit] at hj; cases hj) hw)
      have hval : ∀ v ∈ V, -3000000000000 ≤ gXv kk (gO : Int) v ∧ gXv kk (gO : Int) v ≤ 3000000000000 := fun v hv => by
        unfold gXv
        by_cases c : kk = 1
        · rw [if_pos c]; decide
        · rw [if_neg c, Int.toNat_natCast]
          have hw := (hall.2 (vec nv v)).mp (List.mem_map_of_mem hv)
          rcases isW_ok (np := np) hnv (fun y hy => ⟨(hX.2.2.1.2.1 y hy).1, fun q => ((hX.2.2.1.2.1 y hy).2 q).1⟩) hsf (fun q hq => (hX.2.2.2.2 q hq).2.2.2.2.2) hw (v gO) (vec_mem (hO c)) with q | q <;> omega
      have h99 : G1 99 0 = (n : Int) ∧ G1 99 1 = 0 := by
        rw [e2 _ _ (by omega) (by omega) (by omega) (by omega), e2 _ _ (by omega) (by omega) (by omega) (by omega), hG0]
        exact ⟨by rw [xup2_n (by omega), xup2_s], xup2_s _ _ _ _⟩
      have la1 : cLa G1 n t last := by
        rcases hla rfl with q | ⟨ys, y1, y2, y3, y4⟩
        · exact .inl q
        · exact .inr ⟨ys, y1, y2, y3, fun c hc => by rw [f1 _ _ (by omega) (by omega)]; exact y4 c hc⟩
      have st : c157_4 f (fu + 1) 93 u 1 (t : Int) (S, G, m) = c157_43 (c157_4 f fu) f f 93 u 0 (t : Int) 0 (S, G1, m) := st_157x hs hp us hu (by omega) h2 (by rw [← hG0]; exact hp0) (by rw [← hG0]; exact e1)
      obtain ⟨G2, j1, j2, j3⟩ := k_157p (r4 := c157_4 f fu) (m := m) (t := t) (last := last) (gO := gO) (g := g) hf (fun q hq => by have := (hX.2.2.2.2 q hq).2.1; omega) hnI hn hwI w4 hkk hnv V k 0 f G1 [] [] 0 hE w3 w1 (by omega) (by omega) (hI.fx hu (fun b j y => f1 b j (by omega) (by omega))) (by rw [f1 _ _ (by omega) (by omega)]; exact h3) (by rw [f1 _ _ (by omega) (by omega)]; exact h4) (fun c => ⟨by rw [f1 _ _ (by omega) (by omega)]; exact h5 c, hO c⟩) la1 (gr_z0 hs e3 hn h99.1 h99.2) (gIw_0 512 kk) (fun y => by cases y) (by rw [List.length_nil]; omega) (fun v hv => hval v (hv.resolve_left (fun q => nomatch q)))
      have f2 : ∀ b j, ¬ (83 ≤ b ∧ b ≤ 92) → ¬ (99 ≤ b ∧ b ≤ 103) → G2 b j = G b j := fun b j y1 y2 => by rw [j2 b j y1 y2, f1 b j y1 (by omega)]
      rcases j3 with ⟨L', mo', i1, i2, i3, i4⟩ | ⟨c2, i1, Ks, i2, i3, i4⟩
      · rw [List.nil_append] at i2
        obtain ⟨v1, v2, v3, v4, v5, v6⟩ := i2
        have hlen : ∀ j, j < L'.length → (L'.getD j dRw).1.length = n := fun j hj => by
          obtain ⟨T, t1, t2, t3, _⟩ := i4
          rw [← (t3 j hj).1]
          exact (t1.2.2.2.2.2.2.2 j (by omega)).1
        -- a group of L' is a group of all WAYS
        have grp : ∀ y, y ∈ L' → gLa last y.1 = some y.1 ∧ ∀ zs, gRo kk gA y.1 y.2 = some zs → gDs Ls nv R qO1 kk (gO : Int) I gA y.1 zs := fun y hy => by
          obtain ⟨x1, x2⟩ := v4 y hy
          obtain ⟨v, x3, x4⟩ := gVs_ne x1
          have x5 := (gKy_iff.mp x4).2
          refine ⟨x5, fun zs hz => (gDs_V hwE hO hall).mpr ⟨?_, ?_⟩⟩
          · rw [← gVs_lf x5]; exact x1
          · rw [← gVs_lf x5, ← x2]; exact hz
        have cov : ∀ ks z, gDs Ls nv R qO1 kk (gO : Int) I gA ks z → gLa last ks = some ks → (∃ j, 0 ≤ j ∧ j < L'.length ∧ gRo kk gA (L'.getD j dRw).1 (L'.getD j dRw).2 = some z) ∨ (mo' = 1 ∧ L'.length = 512 ∧ ∀ y ∈ L', vLt y.1 ks) := fun ks z hz hl => by
          obtain ⟨x1, x2⟩ := (gDs_V hwE hO hall).mp hz
          obtain ⟨v, x3, x4⟩ := gVs_ne x1
          rcases v5 v x3 ks (gKy_iff.mpr ⟨x4, hl⟩) with ⟨w, hw⟩ | q
          · obtain ⟨j, hj, ej⟩ := mem_get.mp hw
            refine .inl ⟨j, Nat.zero_le _, hj, ?_⟩
            rw [ej]
            show gRo kk gA ks w = some z
            have x5 : w = gAg kk (gVs (gKy kk (gO : Int) I (gA : Int) last) (gXv kk (gO : Int)) V ks) := (v4 _ hw).2
            rw [x5, gVs_lf hl]
            exact x2
          · exact .inr q
        obtain ⟨v, G3, x1, x2, x3, x4, x5⟩ := k_161l (m := m) (kk := kk) (gA := gA) (L := L') (M := []) (f := f) (by omega) hs hp16 hn us hu hgA List.Pairwise.nil v2 L'.length 0 f G2 F cm (by omega) (by omega) j1.1.2.1 i4 (by rw [f2 _ _ (by omega) (by omega)]; exact h4) (by rw [f2 _ _ (by omega) (by omega)]; exact h3) (by rw [f2 _ _ (by omega) (by omega)]; exact h0) (hM.ge (fun _ _ _ => rfl) (fun j => f2 _ _ (by omega) (by omega)) (fun j => f2 _ _ (by omega) (by omega)) (fun j => f2 _ _ (by omega) (by omega))) (hF.ge (fun _ _ _ => rfl) (fun j => f2 _ _ (by omega) (by omega)) (fun j => f2 _ _ (by omega) (by omega)) (fun j => f2 _ _ (by omega) (by omega))) hFs hF0 (by rw [f2 _ _ (by omega) (by omega)]; exact hcm) hc0 (by have := hF.2.2.2.2.1; omega)
        have f3 : ∀ b j, ¬ (83 ≤ b ∧ b ≤ 92) → ¬ (99 ≤ b ∧ b ≤ 105) → ¬ (b = 93 ∧ j = 15) → ¬ (111 + 6 * p ≤ b ∧ b ≤ 113 + 6 * p) → G3 b j = G b j := fun b j y1 y2 y3 y4 => by rw [x2 b j (by omega) (by omega) y3 y4, f2 b j y1 (by omega)]
        have st2 := (st.trans i1).trans (st_157e (v := v) (G1 := G3) (r4 := c157_4 f fu) (u := u) (mo := mo') (t := t) (f := f) hs x1 (by rw [xwr_g _ (by omega) (by omega)]; omega))
        rcases x4 with ⟨a1, F', a2, a3, a4, a5, a6, a7⟩ | ⟨a1, W, a2, a3, a4⟩
        · rw [if_neg (by omega)] at st2
          have hF'l := a2.2.2.2.2.1
          rcases v3 with m0 | m0
          · subst m0
            obtain ⟨fu, rfl⟩ : ∃ t, fu = t + 1 := ⟨fu - 1, by omega⟩
            have st3 := st2.trans (st_157w (r4 := c157_4 f fu) (f := f) (u := u) (t := t + 1) (by omega))
            refine ⟨1, G3, st3, f3, x3, .inl ⟨rfl, F', a2, a3, a4, a5, a6, fun xs => (a7 xs).trans (or_congr Iff.rfl (and_congr Iff.rfl ⟨fun ⟨j, _, j1, j2⟩ => ?_, fun ⟨_, ks, k1, k2⟩ => ?_⟩))⟩⟩
            · have hy := grp _ (mem_get.mpr ⟨j, j1, rfl⟩)
              exact ⟨rfl, _, hy.2 xs j2, hy.1⟩
            · rcases cov ks xs k1 k2 with q | ⟨q, _⟩
              · exact q
              · cases q
          · subst m0
            have hl5 := v6 rfl
            have hlast : L'.getD (L'.length - 1) dRw ∈ L' := mem_get.mpr ⟨L'.length - 1, by omega, rfl⟩
            have hmax : ∀ y ∈ L', ¬ vLt (L'.getD (L'.length - 1) dRw).1 y.1 := fun y hy q => by
              obtain ⟨j, hj, ej⟩ := mem_get.mp hy
              by_cases cj : j = L'.length - 1
              · rw [cj] at ej; rw [ej] at q; exact vLt_irr _ q
              · have h' : vLt (L'.getD j dRw).1 (L'.getD (L'.length - 1) dRw).1 := srt_get (d := dRw) v1 (by omega) (by omega)
                rw [ej] at h'
                exact vLt_irr _ (vLt_tr h' q)
            have hgl := (grp _ hlast).1
            have cnt : ∀ V', isAll Ls nv R qO1 V' → V'.countP (fun v => (gKy kk (gO : Int) I (gA : Int) (some (L'.getD (L'.length - 1) dRw).1) (vF v)).isSome) < V'.countP (fun v => (gKy kk (gO : Int) I (gA : Int) last (vF v)).isSome) := fun V' hV' => by
              refine countP_lt V' (fun v hv hp => ?_) ?_
              · obtain ⟨xs, hx⟩ := Option.isSome_iff_exists.mp hp
                obtain ⟨y1, y2⟩ := gKy_iff.mp hx
                exact Option.isSome_iff_exists.mpr ⟨xs, gKy_iff.mpr ⟨y1, gLa_tr hgl (gLa_lt.mp y2)⟩⟩
              · obtain ⟨y1, y2⟩ := v4 _ hlast
                obtain ⟨v, y3, y4⟩ := gVs_ne y1
                have y5 := (gKy_xt (kk := kk) (gO := (gO : Int)) (last := last) (v := vF (vec nv v)) (w := v) hwE (fun c => ⟨Int.natCast_nonneg _, by have := hO c; omega⟩) (fun k hk => vec_vF hk)).2
                rw [y4] at y5
                refine ⟨vec nv v, (hV'.2 _).mpr ((hall.2 _).mp (List.mem_map_of_mem y3)), by rw [y5]; rfl, ?_⟩
                cases hq : gKy kk (gO : Int) I (gA : Int) (some (L'.getD (L'.length - 1) dRw).1) (vF (vec nv v)) with
                | none => rfl
                | some xs =>
                  exfalso
                  obtain ⟨q1, q2⟩ := gKy_iff.mp hq
                  have q3 := (gKy_iff.mp y5).1
                  rw [q3] at q1
                  injection q1 with q1
                  rw [← q1] at q2
                  exact vLt_irr _ (gLa_lt.mp q2)
            have hd : (V.map (vec nv)).countP (fun v => (gKy kk (gO : Int) I (gA : Int) (some (L'.getD (L'.length - 1) dRw).1) (vF v)).isSome) < d := Nat.lt_of_lt_of_le (cnt _ hall) (hcnt rfl _ hall)
            obtain ⟨v', G4, b1, b2, b3, b4⟩ := ih _ hd fu (t + 1) (some (L'.getD (L'.length - 1) dRw).1) G3 F' (cm + ((F'.length - F.length : Nat) : Int)) 1 (fun _ V' hV' => by rw [(hV'.perm hall).countP_eq]; exact Nat.le_refl _) (by omega) (by omega)
              (hX.ge x3 (fun q hq b y1 y2 j => f3 b j (by have := (hX.2.2.2.2 q hq).2.1; omega) (by have := (hX.2.2.2.2 q hq).2.1; omega) (by have := (hX.2.2.2.2 q hq).2.1; omega) (hxp q hq b y1 y2)) (fun j => f3 _ _ (by omega) (by omega) (by omega) (by omega)) (fun b j y => f3 b j (by omega) (by omega) (by omega) (by omega)))
              (hI.fx hu (fun b j y => f3 b j (by omega) (by omega) (by omega) (by omega))) (by rw [f3 _ _ (by omega) (by omega) (by omega) (by omega)]; exact h3) (by rw [f3 _ _ (by omega) (by omega) (by omega) (by omega)]; exact h4) (fun c => by rw [f3 _ _ (by omega) (by omega) (by omega) (by omega)]; exact h5 c) (by rw [f3 _ _ (by omega) (by omega) (by omega) (by omega)]; exact h0)
              (hM.ge (fun _ _ _ => rfl) (fun j => f3 _ _ (by omega) (by omega) (by omega) (by omega)) (fun j => f3 _ _ (by omega) (by omega) (by omega) (by omega)) (fun j => f3 _ _ (by omega) (by omega) (by omega) (by omega))) a2 a3 a4 a6 (by omega) (by omega) (.inr rfl) (fun _ => .inr ⟨_, rfl, by omega, hlen _ (by omega), fun c hc => x5 a1 (by omega) c hc⟩)
            refine ⟨v', G4, st2.trans b1, fun b j y1 y2 y3 y4 => by rw [b2 b j y1 y2 y3 y4, f3 b j y1 y2 y3 y4], b3, (gvO.add a5 rfl a7 b4).cg (fun xs _ => ?_)⟩
            constructor
            · rintro (⟨j, _, j1, j2⟩ | ⟨_, ks, k1, k2⟩)
              · have hy := grp _ (mem_get.mpr ⟨j, j1, rfl⟩)
                exact ⟨rfl, _, hy.2 xs j2, hy.1⟩
              · exact ⟨rfl, ks, k1, gLa_tr hgl (gLa_lt.mp k2)⟩
            · rintro ⟨_, ks, k1, k2⟩
              rcases cov ks xs k1 k2 with q | ⟨_, _, q⟩
              · exact .inl q
              · exact .inr ⟨rfl, ks, k1, gLa_lt.mpr (q _ hlast)⟩
        · rw [if_pos a1] at st2
          refine ⟨0, G3, st2, f3, x3, .inr ⟨rfl, W, a2, a3, fun xs hx => (a4 xs hx).imp id (fun ⟨q1, j, _, j1, j2⟩ => ⟨q1, rfl, _, (grp _ (mem_get.mpr ⟨j, j1, rfl⟩)).2 xs j2, (grp _ (mem_get.mpr ⟨j, j1, rfl⟩)).1⟩)⟩⟩
      · rw [List.nil_append] at i4
        obtain ⟨W, W1, W2, W3⟩ := g_over (by omega) hwE hO hall c2 i2 i3 i4
        refine ⟨0, G2, st.trans i1, fun b j y1 y2 _ _ => f2 b j y1 (by omega), j1.1.2.1, .inr ⟨rfl, W, W1, by rw [List.length_nil]; omega, fun xs hx => .inr ⟨fun r hr => (nomatch hr), rfl, W3 xs hx⟩⟩⟩
end
end
