/-! THE CLASS: addToGroup() -/
section
variable {f u n lo sl : Nat} {S : Nat → Nat × Nat × Nat} {G G1 G2 : xG_} {m : Nat × Nat} {L T : List pRw} {kk a b x w : Int} {xs ys : List Int}
theorem sr_bd (h : isSr T xs 0 lo) (hl : ∀ i, i < T.length → (T.getD i dRw).1.length = xs.length) (hne : ∀ r ∈ T, r.1 ≠ xs) : (∀ j, j < lo → vLt (T.getD j dRw).1 xs) ∧ ∀ j, lo ≤ j → j < T.length → vLt xs (T.getD j dRw).1 := by
  obtain ⟨a1, a2, a3⟩ := h
  refine ⟨fun j hj => ?_, fun j h1 h2 => ?_⟩
  · have l1 := hl j (by omega)
    have := a2 j hj
    rw [List.take_of_length_le (by omega)] at this
    exact (vLt_iff l1).mpr this
  · have l1 := hl j h2
    have := a3 j h1 h2
    rw [List.take_of_length_le (by omega)] at this
    have ne : vCmp (T.getD j dRw).1 xs ≠ 0 := fun q => hne (T.getD j dRw) (by rw [getD_e h2]; exact List.getElem_mem h2) (vCmp_eq l1 q)
    refine (vLt_iff l1.symm).mpr ?_
    rw [vCmp_anti (T.getD j dRw).1 xs]
    omega
/-- places of what is gathered -/
theorem gr_ins (hT : T.length = L.length) (h1 : ∀ i, i < L.length → (T.getD i dRw).1 = (L.getD i dRw).1 ∧ ∃ k : Nat, (T.getD i dRw).2 = (k : Int) ∧ k < L.length ∧ G 102 k = (L.getD i dRw).2) (h2 : ∀ i j, i < j → j < L.length → (T.getD i dRw).2 ≠ (T.getD j dRw).2) (hlo : lo ≤ L.length) (hsl : sl = L.length) (hG : ∀ k, k ≠ sl → G1 102 k = G 102 k) (hx : G1 102 sl = x) :
    (T.take lo ++ (xs, (sl : Int)) :: T.drop lo).length = (L.take lo ++ (xs, x) :: L.drop lo).length ∧ (∀ i, i < (L.take lo ++ (xs, x) :: L.drop lo).length → ((T.take lo ++ (xs, (sl : Int)) :: T.drop lo).getD i dRw).1 = ((L.take lo ++ (xs, x) :: L.drop lo).getD i dRw).1 ∧ ∃ k : Nat, ((T.take lo ++ (xs, (sl : Int)) :: T.drop lo).getD i dRw).2 = (k : Int) ∧ k < (L.take lo ++ (xs, x) :: L.drop lo).length ∧ G1 102 k = ((L.take lo ++ (xs, x) :: L.drop lo).getD i dRw).2) ∧ ∀ i j, i < j → j < (L.take lo ++ (xs, x) :: L.drop lo).length → ((T.take lo ++ (xs, (sl : Int)) :: T.drop lo).getD i dRw).2 ≠ ((T.take lo ++ (xs, (sl : Int)) :: T.drop lo).getD j dRw).2 := by
  rw [len_ins hlo, len_ins (by omega : lo ≤ T.length)]
  have old : ∀ i, i < L.length → (T.getD i dRw).2 ≠ (sl : Int) := fun i hi q => by
    obtain ⟨k, k1, k2, _⟩ := (h1 i hi).2
    omega
  refine ⟨by omega, fun i hi => ?_, fun i j hij hj => ?_⟩
  · rw [getD_ins hlo, getD_ins (by omega : lo ≤ T.length)]
    by_cases c1 : i < lo
    · rw [if_pos c1, if_pos c1]
      obtain ⟨e, k, k1, k2, k3⟩ := h1 i (by omega)
      exact ⟨e, k, k1, by omega, by rw [hG k (by omega)]; exact k3⟩
    · rw [if_neg c1, if_neg c1]
      by_cases c2 : i = lo
      · rw [if_pos c2, if_pos c2]
        exact ⟨rfl, sl, rfl, by omega, hx⟩
      · rw [if_neg c2, if_neg c2]
        obtain ⟨e, k, k1, k2, k3⟩ := h1 (i - 1) (by omega)
        exact ⟨e, k, k1, by omega, by rw [hG k (by omega)]; exact k3⟩
  · rw [getD_ins (by omega : lo ≤ T.length), getD_ins (by omega : lo ≤ T.length)]
    by_cases c1 : i < lo
    · rw [if_pos c1]
      by_cases d1 : j < lo
      · rw [if_pos d1]; exact h2 i j hij (by omega)
      · rw [if_neg d1]
        by_cases d2 : j = lo
        · rw [if_pos d2]; exact old i (by omega)
        · rw [if_neg d2]; exact h2 i (j - 1) (by omega) (by omega)
    · rw [if_neg c1, if_neg (by omega : ¬ j < lo), if_neg (by omega : ¬ j = lo)]
      by_cases c2 : i = lo
      · rw [if_pos c2]; exact fun q => old (j - 1) (by omega) q.symm
      · rw [if_neg c2]; exact h2 (i - 1) (j - 1) (by omega) (by omega)
/-- the same where all places are taken: the last gives its place -/
theorem gr_full (hT : T.length = 512) (hl : L.length = 512) (h1 : ∀ i, i < L.length → (T.getD i dRw).1 = (L.getD i dRw).1 ∧ ∃ k : Nat, (T.getD i dRw).2 = (k : Int) ∧ k < L.length ∧ G 102 k = (L.getD i dRw).2) (h2 : ∀ i j, i < j → j < L.length → (T.getD i dRw).2 ≠ (T.getD j dRw).2) (hlo : lo < 512) (hsl : (T.getD 511 dRw).2 = (sl : Int)) (hG : ∀ k, k ≠ sl → G1 102 k = G 102 k) (hx : G1 102 sl = x) {T1 : List pRw} (hT1 : T1 = T.take 511 ++ T.drop 512) :
    (T1.take lo ++ (xs, (sl : Int)) :: T1.drop lo).length = ((L.take lo ++ (xs, x) :: L.drop lo).take 512).length ∧ (∀ i, i < ((L.take lo ++ (xs, x) :: L.drop lo).take 512).length → ((T1.take lo ++ (xs, (sl : Int)) :: T1.drop lo).getD i dRw).1 = (((L.take lo ++ (xs, x) :: L.drop lo).take 512).getD i dRw).1 ∧ ∃ k : Nat, ((T1.take lo ++ (xs, (sl : Int)) :: T1.drop lo).getD i dRw).2 = (k : Int) ∧ k < ((L.take lo ++ (xs, x) :: L.drop lo).take 512).length ∧ G1 102 k = (((L.take lo ++ (xs, x) :: L.drop lo).take 512).getD i dRw).2) ∧ ∀ i j, i < j → j < ((L.take lo ++ (xs, x) :: L.drop lo).take 512).length → ((T1.take lo ++ (xs, (sl : Int)) :: T1.drop lo).getD i dRw).2 ≠ ((T1.take lo ++ (xs, (sl : Int)) :: T1.drop lo).getD j dRw).2 := by
  have hl1 : T1.length = 511 := by rw [hT1, len_del (k := 511) (by omega)]; omega
  have g1 : ∀ i, i < 511 → T1.getD i dRw = T.getD i dRw := fun i hi => by rw [hT1, getD_del (k := 511) (by omega), if_pos hi]
  have hlen : ((L.take lo ++ (xs, x) :: L.drop lo).take 512).length = 512 := by rw [len_t, len_ins (by omega)]; omega
  have hsl5 : sl < 512 := by
    obtain ⟨k, k1, k2, _⟩ := (h1 511 (by omega)).2
    omega
  have old : ∀ i, i < 511 → (T.getD i dRw).2 ≠ (sl : Int) := fun i hi q => h2 i 511 (by omega) (by omega) (by rw [q, hsl])
  rw [hlen, len_ins (by omega : lo ≤ T1.length)]
  refine ⟨by omega, fun i hi => ?_, fun i j hij hj => ?_⟩
  · rw [getD_tk hi, getD_ins (by omega : lo ≤ L.length), getD_ins (by omega : lo ≤ T1.length)]
    by_cases c1 : i < lo
    · rw [if_pos c1, if_pos c1, g1 i (by omega)]
      obtain ⟨e, k, k1, k2, k3⟩ := h1 i (by omega)
      have := old i (by omega)
      exact ⟨e, k, k1, by omega, by rw [hG k (by omega)]; exact k3⟩
    · rw [if_neg c1, if_neg c1]
      by_cases c2 : i = lo
      · rw [if_pos c2, if_pos c2]
        exact ⟨rfl, sl, rfl, by omega, hx⟩
      · rw [if_neg c2, if_neg c2, g1 (i - 1) (by omega)]
        obtain ⟨e, k, k1, k2, k3⟩ := h1 (i - 1) (by omega)
        have := old (i - 1) (by omega)
        exact ⟨e, k, k1, by omega, by rw [hG k (by omega)]; exact k3⟩
  · rw [getD_ins (by omega : lo ≤ T1.length), getD_ins (by omega : lo ≤ T1.length)]
    by_cases c1 : i < lo
    · rw [if_pos c1, g1 i (by omega)]
      by_cases d1 : j < lo
      · rw [if_pos d1, g1 j (by omega)]; exact h2 i j hij (by omega)
      · rw [if_neg d1]
        by_cases d2 : j = lo
        · rw [if_pos d2]; exact old i (by omega)
        · rw [if_neg d2, g1 (j - 1) (by omega)]; exact h2 i (j - 1) (by omega) (by omega)
    · rw [if_neg c1, if_neg (by omega : ¬ j < lo), if_neg (by omega : ¬ j = lo), g1 (j - 1) (by omega)]
      by_cases c2 : i = lo
      · rw [if_pos c2]; exact fun q => old (j - 1) (by omega) q.symm
      · rw [if_neg c2, g1 (i - 1) (by omega)]; exact h2 (i - 1) (j - 1) (by omega) (by omega)
/-- addToGroup() -/
theorem k_159 (hf : 600 < f) (hs : cSs S) (hp : cPs G) (us : S u = (1, 6, 20)) (hu : 278 < u) (h4 : G u 4 = kk + 9) (hkk : kk = 1 ∨ kk = 2 ∨ kk = 3 ∨ kk = 4) (hn : n ≤ 4) (h : cGr S G n L) (hL : L.Pairwise rwLt) (hxl : xs.length = n) (hxs : ∀ c, c < n → G 103 c = xs.getD c 0) (hb : ∀ y ∈ L, -4000000000000000000 ≤ y.2 ∧ y.2 ≤ 4000000000000000000) (hx : -4000000000000 ≤ x ∧ x ≤ 4000000000000) : ∃ v G', c159 f 93 u x (S, G, m) = some (v, (S, G', m)) ∧ (∀ b j, ¬ (b = 99 ∧ j = 1) → b ≠ 100 → b ≠ 101 → b ≠ 102 → G' b j = G b j) ∧ cPs G' ∧
    ((v = 1 ∧ ∃ i, i < L.length ∧ (L.getD i dRw).1 = xs ∧ cGr S G' n (L.set i (xs, qCo kk (L.getD i dRw).2 x))) ∨
     ((∀ y ∈ L, y.1 ≠ xs) ∧ ∃ i, i ≤ L.length ∧ (∀ j, j < i → vLt (L.getD j dRw).1 xs) ∧ (∀ j, i ≤ j → j < L.length → vLt xs (L.getD j dRw).1) ∧ v = (if L.length = 512 then 0 else 1) ∧ cGr S G' n ((L.take i ++ (xs, x) :: L.drop i).take 512))) := by
  obtain ⟨T, t1, t2, t3, t4⟩ := h
  have hTl : ∀ i, i < T.length → (T.getD i dRw).1.length = n := fun i hi => (t1.2.2.2.2.2.2.2 i hi).1
  have hT5 := t1.2.2.2.2.1
  have hTs : T.Pairwise rwLt := by
    rw [List.pairwise_iff_getElem]
    intro i j hi hj hij
    rw [← getD_e (d := dRw) hi, ← getD_e (d := dRw) hj]
    show vLt _ _
    rw [(t3 i (by omega)).1, (t3 j (by omega)).1]
    exact srt_get (d := dRw) hL hij (by omega)
  obtain ⟨v, v1, lo, v2, v3⟩ := k_74 (f := f) (m := m) (kl := xs) (a := 103) hf t1 hTs hxl ⟨⟨4, s103 hs, by omega⟩, fun c hc => hxs c (by omega)⟩
  have g0 : ∀ {G1 : xG_}, (∀ b j, ¬ (b = 99 ∧ j = 1) → b ≠ 100 → b ≠ 101 → b ≠ 102 → G1 b j = G b j) → cPs G1 := fun {G1} z => hp.ge (fun b j hz => by
    have : ¬ (b = 99 ∧ j = 1) ∧ b ≠ 100 ∧ b ≠ 101 ∧ b ≠ 102 := by
      rcases hz with z | z | z | z | z | z | z | ⟨z, z1, z2, k, z3⟩ | z | z | z | ⟨k, z1, z2, z3⟩ <;> omega
    exact z b j this.1 this.2.1 this.2.2.1 this.2.2.2)
  rcases v3 with ⟨y1, y2, y3⟩ | ⟨y1, y2⟩
  · obtain ⟨e, k, k1, k2, k3⟩ := t3 lo (by omega)
    have hLm : L.getD lo dRw ∈ L := by rw [getD_e (by omega : lo < L.length)]; exact List.getElem_mem _
    have hbl := hb _ hLm
    have st := st_159y (u := u) (x := x) hs hp us (by rw [y1] at v1; exact v1) (by omega) t1.2.2.2.1.2.2.2 (by rw [(t1.2.2.2.2.2.2.2 lo y2).2.2]; exact k1) (by omega) k3 h4 (k_160 (T := (S, G, m)) hkk (by omega))
    have fr : ∀ b j, ¬ (b = 99 ∧ j = 1) → b ≠ 100 → b ≠ 101 → b ≠ 102 → xup2 G 102 k (qCo kk (L.getD lo dRw).2 x) b j = G b j := fun b j _ _ _ q => xup2_n (by omega)
    refine ⟨1, _, st, fr, g0 fr, .inl ⟨rfl, lo, by omega, by rw [← e]; exact y3, T, t1.ge (fun _ _ _ => rfl) (fun j => xup2_n (by omega)) (fun j => xup2_n (by omega)) (fun j => xup2_n (by omega)), by rw [List.length_set]; exact t2, fun i hi => ?_, fun i j hij hj => t4 i j hij (by rw [List.length_set] at hj; exact hj)⟩⟩
    rw [List.length_set] at hi ⊢
    rw [getD_set (by omega : lo < L.length)]
    obtain ⟨e', k', k1', k2', k3'⟩ := t3 i hi
    by_cases ci : i = lo
    · rw [if_pos ci]
      subst ci
      exact ⟨y3, k, k1, k2, xup2_s _ _ _ _⟩
    · rw [if_neg ci]
      refine ⟨e', k', k1', k2', ?_⟩
      have hkk' : k' ≠ k := fun q => by
        subst q
        by_cases c : i < lo
        · exact t4 i lo c (by omega) (by rw [k1', k1])
        · exact t4 lo i (by omega) hi (by rw [k1', k1])
      rw [xup2_n (by omega)]
      exact k3'
  · have hne : ∀ y ∈ L, y.1 ≠ xs := fun y hy q => by
      obtain ⟨j, hj, rfl⟩ := mem_get.mp hy
      exact y2 (T.getD j dRw) (by rw [getD_e (by omega : j < T.length)]; exact List.getElem_mem _) (by rw [(t3 j hj).1]; exact q)
    have hlo := v2.1
    obtain ⟨b1, b2⟩ := sr_bd v2 (fun i hi => by rw [hTl i hi, hxl]) y2
    have b1' : ∀ j, j < lo → vLt (L.getD j dRw).1 xs := fun j hj => by rw [← (t3 j (by omega)).1]; exact b1 j hj
    have b2' : ∀ j, lo ≤ j → j < L.length → vLt xs (L.getD j dRw).1 := fun j h1 h2 => by rw [← (t3 j h2).1]; exact b2 j h1 (by omega)
    rw [y1] at v1
    have st := st_159_n (u := u) (x := x) hs hp v1 (by rw [xwr_g _ (by omega) (by omega)]; omega) t1.2.2.2.1.2.1
    by_cases c : T.length = 512
    · rw [if_pos c] at st
      by_cases c2 : lo = 512
      · subst c2
        refine ⟨0, G, st.trans (st_159_78f hs hp (by rw [t1.2.2.2.1.2.1, c]; rfl)), fun _ _ _ _ _ _ => rfl, hp, .inr ⟨hne, 512, by omega, b1', b2', by rw [if_pos (by omega)], ?_⟩⟩
        rw [List.take_left' (by rw [len_t]; omega), List.take_of_length_le (by omega)]
        exact ⟨T, t1, t2, t3, t4⟩
      · obtain ⟨e, sl, k1, k2, k3⟩ := t3 511 (by omega)
        obtain ⟨G1, g1, g2, g3⟩ := k_77 (f := f) (m := m) (p := 511) t1 (by omega)
        have hl1 : (T.take 511 ++ T.drop (511 + 1)).length = 511 := by rw [len_del (k := 511) (by omega)]; omega
        obtain ⟨G2, i1, i2, i3⟩ := k_76 (f := f) (m := m) (rk := (sl : Int)) (p := lo) (a := 103) (kl := xs) g3 (by omega) (by omega) (s103 hs) (by omega) (by omega) hxl (fun c hc => by rw [g2 _ _ (by omega) (by omega) (by omega)]; exact hxs c hc)
        have f1 : ∀ b j, ¬ (b = 99 ∧ j = 1) → b ≠ 100 → b ≠ 101 → b ≠ 102 → G1 b j = G b j := fun b j q1 q2 q3 _ => g2 b j q1 q2 q3
        have f2 : ∀ b j, ¬ (b = 99 ∧ j = 1) → b ≠ 100 → b ≠ 101 → b ≠ 102 → G2 b j = G b j := fun b j q1 q2 q3 q4 => (i2 b j q1 q2 q3).trans (f1 b j q1 q2 q3 q4)
        have fr : ∀ b j, ¬ (b = 99 ∧ j = 1) → b ≠ 100 → b ≠ 101 → b ≠ 102 → xup2 G2 102 sl x b j = G b j := fun b j q1 q2 q3 q4 => by rw [xup2_n (by omega)]; exact f2 b j q1 q2 q3 q4
        have ey : xwr ((512 : Int) - 1) = 511 := by decide
        have h15 : G 99 1 = 512 := by rw [t1.2.2.2.1.2.1, c]; rfl
        have st2 := st.trans ((st_159_78y (x := x) hs hp (by omega : ¬ (lo : Int) = 512) h15).trans ((st_159_99y hs hp ey h15 t1.2.2.2.1.2.2.2 (by rw [← k1]; exact (t1.2.2.2.2.2.2.2 511 (by omega)).2.2)).trans ((st_159_131y hs hp ey h15 g1).trans (st_159_154y hs (g0 f1) (g0 f2) (by omega) i1))))
        have gf := gr_full (xs := xs) (x := x) (G := G) (G1 := xup2 G2 102 sl x) (lo := lo) (sl := sl) c (by omega) t3 t4 (by omega) k1 (fun k hk => by rw [xup2_n (by omega), i2 _ _ (by omega) (by omega) (by omega), g2 _ _ (by omega) (by omega) (by omega)]) (xup2_s _ _ _ _) rfl
        refine ⟨0, _, st2, fr, g0 fr, .inr ⟨hne, lo, by omega, b1', b2', by rw [if_pos (by omega)], _, i3.ge (fun _ _ _ => rfl) (fun j => xup2_n (by omega)) (fun j => xup2_n (by omega)) (fun j => xup2_n (by omega)), gf⟩⟩
    · rw [if_neg c] at st
      obtain ⟨G1, i1, i2, i3⟩ := k_76 (f := f) (m := m) (rk := (T.length : Int)) (p := lo) (a := 103) (kl := xs) t1 hlo (by omega) (s103 hs) (by omega) (by omega) hxl hxs
      have f1 : ∀ b j, ¬ (b = 99 ∧ j = 1) → b ≠ 100 → b ≠ 101 → b ≠ 102 → G1 b j = G b j := fun b j q1 q2 q3 _ => i2 b j q1 q2 q3
      have fr : ∀ b j, ¬ (b = 99 ∧ j = 1) → b ≠ 100 → b ≠ 101 → b ≠ 102 → xup2 G1 102 T.length x b j = G b j := fun b j q1 q2 q3 q4 => by rw [xup2_n (by omega)]; exact f1 b j q1 q2 q3 q4
      have st2 := st.trans ((st_159_78n (x := x) hs hp t1.2.2.2.1.2.1).trans (st_159_154n hs hp (g0 f1) (by omega) i1))
      refine ⟨1, _, st2, fr, g0 fr, .inr ⟨hne, lo, by omega, b1', b2', by rw [if_neg (by omega)], ?_⟩⟩
      rw [List.take_of_length_le (by rw [len_ins (by omega)]; omega)]
      exact ⟨_, i3.ge (fun _ _ _ => rfl) (fun j => xup2_n (by omega)) (fun j => xup2_n (by omega)) (fun j => xup2_n (by omega)), gr_ins t2 t3 t4 (by omega) t2 (fun k hk => by rw [xup2_n (by omega), i2 _ _ (by omega) (by omega) (by omega)]) (xup2_s _ _ _ _)⟩
end
