/-! THE CLASS reads FORMULAS: turns of the loop -/
section
variable {f n N w i it hh : Nat} {S : Nat → Nat × Nat × Nat} {G G' G'' : xG_} {m : Nat × Nat} {B : Nat → Int} {t : tStr} {K K' : pCd} {st st' : List Int}
theorem ky_turn {wn : Int} (hf : 100 < f) (hif : ∀ i, i ≤ w → kK t i = 1 → (spl B (kS t i) (kE t i) 10 ↔ kC t i = 348)) (h : cYs S G B n t N w K st i) (hi : it ≤ i) (fu : Nat) : c53_9 f (fu + 1) 72 1 wn (it : Int) (S, G, m) = (if wn = 0 then c53_68 (c53_9 f fu) f 72 1 wn (it : Int) (kK t i) (S, G, m) else if kK t i = 40 then c53_59 (c53_9 f fu) f 72 1 wn (it : Int) (kK t i) (S, G, m) else if kK t i = 1 ∧ kC t i = 348 then c53_59 (c53_9 f fu) f 72 1 wn (it : Int) (kK t i) (S, G, m) else c53_68 (c53_9 f fu) f 72 1 wn (it : Int) (kK t i) (S, G, m)) := by
  have hE := h.1
  obtain ⟨k1, k2, k3, k4⟩ := hE.tk h.2.1
  have hs := hE.1
  have hp := hE.2.1
  have hN := hE.2.2.2.1.2
  have hi' := h.2.2.1
  show c53_9b (c53_9 f fu) f 72 _ _ _ _ = _
  unfold c53_9b
  rw [if_neg (by omega)]
  by_cases c : wn = 0
  · rw [if_pos c]
    simp (disch := omega) only [cq_gi, cq_gr, cq_a, cq_s, cq_p, cq_pr, cq_is, cq_ar, cq_ab, cq_ln, xq_nz, Option.bind_some, xup2_n, xup2_s, Int.toNat_natCast, Int.reduceToNat, if_pos, if_neg, true_and, and_true, and_self, eq_self, if_true, reduceIte, not_true_eq_false, not_false_eq_true, or_true, true_or, s72 hs, s65 hs, s67 hs, p72_0 hp, p65_3 hp, k1, k3]
  · rw [if_neg c]
    by_cases c2 : kK t i = 40
    · rw [if_pos c2]
      simp (disch := omega) only [cq_gi, cq_gr, cq_a, cq_s, cq_p, cq_pr, cq_is, cq_ar, cq_ab, cq_ln, xq_nz, Option.bind_some, xup2_n, xup2_s, Int.toNat_natCast, Int.reduceToNat, if_pos, if_neg, true_and, and_true, and_self, eq_self, if_true, reduceIte, not_true_eq_false, not_false_eq_true, or_true, true_or, s72 hs, s65 hs, s67 hs, p72_0 hp, p65_3 hp, k1, k3]
    · rw [if_neg c2]
      have e125 := k_125 (f := f) (m := m) hf hE h.2.1 hif
      by_cases c3 : kK t i = 1 ∧ kC t i = 348
      · rw [if_pos c3] at e125 ⊢
        simp (disch := omega) only [cq_gi, cq_gr, cq_a, cq_s, cq_p, cq_pr, cq_is, cq_ar, cq_ab, cq_ln, xq_nz, Option.bind_some, xup2_n, xup2_s, Int.toNat_natCast, Int.reduceToNat, if_pos, if_neg, true_and, and_true, and_self, eq_self, if_true, reduceIte, not_true_eq_false, not_false_eq_true, or_true, true_or, s72 hs, s65 hs, s67 hs, p72_0 hp, p65_3 hp, k1, k3, c, c2, e125]
      · rw [if_neg c3] at e125 ⊢
        simp (disch := omega) only [cq_gi, cq_gr, cq_a, cq_s, cq_p, cq_pr, cq_is, cq_ar, cq_ab, cq_ln, xq_nz, Option.bind_some, xup2_n, xup2_s, Int.toNat_natCast, Int.reduceToNat, if_pos, if_neg, true_and, and_true, and_self, eq_self, if_true, reduceIte, not_true_eq_false, not_false_eq_true, or_true, true_or, s72 hs, s65 hs, s67 hs, p72_0 hp, p65_3 hp, k1, k3, c, c2, e125]
theorem ity_1 (h : cYs S G B n t N w K st i) (hi : it ≤ i) : xwr ((it : Int) + 1) = ((it + 1 : Nat) : Int) := by
  have hN := h.1.2.2.2.1.2
  have hi' := h.2.2.1
  rw [xwr_g _ (by omega) (by omega)]; omega
/-- a sign -/
theorem ky_sign {Q : List Int} (hf : 100 < f) (hif : ∀ i, i ≤ w → kK t i = 1 → (spl B (kS t i) (kE t i) 10 ↔ kC t i = 348)) (h : cYs S G B n t N w K (st ++ Q.reverse) i) (hi : it ≤ i) (hk : 0 < cStr (kK t i)) (hb : st = [] ∨ ∃ z x, st = z ++ [x] ∧ cStr x < cStr (kK t i)) (hQ : ∀ x, x ∈ Q → cStr (kK t i) ≤ cStr x) (hl : (st ++ Q.reverse).length ≤ 31) (hK : K.length + Q.length ≤ 3001) : ∃ G', lSt f 1 0 1 it 1 (S, G, m) (S, G', m) ∧ xY hh G G' ∧ cYs S G' B n t N w (K ++ Q.map cZ) (st ++ [kK t i]) (i + 1) := by
  have hs := h.1.1
  rw [List.length_append, List.length_reverse] at hl
  obtain ⟨G1, a1, a2, _, a3⟩ := ky_59 (f := f) (m := m) (hh := hh) hk hb Q G K f hQ (by omega) (by rw [List.length_append, List.length_reverse]; omega) hK h
  obtain ⟨G2, b1, b2, b3⟩ := ky_57 (f := f) (m := m) (hh := hh) (x := kK t i) a3 (by omega)
  have hne : kK t i ≠ 0 ∧ kK t i ≠ 5 := by
    refine ⟨fun q => ?_, fun q => ?_⟩ <;> (rw [q] at hk; exact absurd hk (by decide))
  obtain ⟨l1, l2⟩ := b3.1.lt b3.2.1 hne.1
  obtain ⟨d1, d2⟩ := k_37 (f := f) (m := m) b3.1 b3.2.1 hne.2
  obtain ⟨e1, e2⟩ := b3.at (hh := hh) d2 (by omega)
  refine ⟨_, fun fu => ?_, (a2.tr b2).tr e1, e2⟩
  have ei := ity_1 h hi
  rw [ky_turn hf hif h hi fu, if_pos rfl]
  unfold c53_68 c53_202
  rw [if_pos rfl]
  have a1' : c59 f 72 (cStr (kK t i)) (S, G, m) = some (S, G1, m) := a1
  simp (disch := omega) only [cq_gi, cq_gr, cq_a, cq_s, cq_p, cq_pr, cq_is, cq_ar, cq_ab, cq_ln, xq_nz, Option.bind_some, xup2_n, xup2_s, Int.toNat_natCast, Int.reduceToNat, if_pos, if_neg, true_and, and_true, and_self, eq_self, if_true, reduceIte, not_true_eq_false, not_false_eq_true, or_true, true_or, s72 hs, k_55, a1', b1, d1, ei]
/-- behind a FORMULA -/
theorem ky_end {Q : List Int} (hf : 100 < f) (hif : ∀ i, i ≤ w → kK t i = 1 → (spl B (kS t i) (kE t i) 10 ↔ kC t i = 348)) (h : cYs S G B n t N w K (st ++ Q.reverse) i) (hi : it ≤ i) (hk : cStr (kK t i) = 0) (hb : st = [] ∨ ∃ z x, st = z ++ [x] ∧ cStr x < 1) (hQ : ∀ x, x ∈ Q → 1 ≤ cStr x) (hl : (st ++ Q.reverse).length ≤ 32) (hK : K.length + Q.length ≤ 3001) : ∃ G', xY hh G G' ∧ (∀ j, G' 76 j = G 76 j) ∧ cYs S G' B n t N w (K ++ Q.map cZ) st i ∧
    ∀ fu, c53_9 f (fu + 1) 72 1 0 (it : Int) (S, G, m) = if st = [] then some (.inr (), (S, G', m)) else ((c61 f 72 (kK t i) (S, G', m)).bind fun R163 => cth R163 (fun v169 => ((cq_is 4 20 72 R163.2).bind fun _ => ((c37 f 72 R163.2).bind fun R171 => c53_9 f fu 72 1 v169 ((it + 1 : Nat) : Int) R171)))) := by
  have hs := h.1.1
  rw [List.length_append, List.length_reverse] at hl
  obtain ⟨G1, a1, a2, a4, a3⟩ := ky_59 (f := f) (m := m) (hh := hh) (ls := 1) (by decide) hb Q G K f hQ (by omega) (by rw [List.length_append, List.length_reverse]; omega) hK h
  refine ⟨G1, a2, a4, a3, fun fu => ?_⟩
  have ei := ity_1 h hi
  have h12 := a3.2.2.2.2.1
  rw [ky_turn hf hif h hi fu, if_pos rfl]
  unfold c53_68 c53_202 c53_208
  rw [if_pos rfl]
  have a1' : c59 f 72 1 (S, G, m) = some (S, G1, m) := a1
  by_cases c : st = []
  · rw [if_pos c]
    rw [c] at h12
    have h12' : G1 72 12 = 0 := h12
    simp (disch := omega) only [cq_gi, cq_gr, cq_a, cq_s, cq_p, cq_pr, cq_is, cq_ar, cq_ab, cq_ln, xq_nz, Option.bind_some, xup2_n, xup2_s, Int.toNat_natCast, Int.reduceToNat, if_pos, if_neg, true_and, and_true, and_self, eq_self, if_true, reduceIte, not_true_eq_false, not_false_eq_true, or_true, true_or, s72 hs, k_55, hk, a1', h12']
  · rw [if_neg c]
    have hl' : 0 < st.length := List.length_pos_iff.mpr c
    simp (disch := omega) only [cq_gi, cq_gr, cq_a, cq_s, cq_p, cq_pr, cq_is, cq_ar, cq_ab, cq_ln, xq_nz, Option.bind_some, xup2_n, xup2_s, Int.toNat_natCast, Int.reduceToNat, if_pos, if_neg, true_and, and_true, and_self, eq_self, if_true, reduceIte, not_true_eq_false, not_false_eq_true, or_true, true_or, s72 hs, k_55, hk, a1', h12, ei]
theorem cCo.mend {X Y : pCd} {a b v : Int} (h : cCo G (X ++ [(a, b)] ++ Y)) : cCo (xup2 G 74 X.length v) (X ++ [(a, v)] ++ Y) := by
  obtain ⟨h1, h2⟩ := h
  refine ⟨?_, fun k hk => ?_⟩
  · rw [xup2_n (by omega), h1]; simp
  · have hk' : k < (X ++ [(a, b)] ++ Y).length := by
      simp only [List.length_append, List.length_singleton] at hk ⊢; exact hk
    obtain ⟨q1, q2⟩ := h2 k hk'
    have hg : ∀ z : Int × Int, (X ++ [z] ++ Y).getD k (0, 0) = if k < X.length then X.getD k (0, 0) else if k = X.length then z else Y.getD (k - X.length - 1) (0, 0) := by
      intro z
      simp only [List.getD_eq_getElem?_getD]
      by_cases c1 : k < X.length
      · rw [if_pos c1, List.append_assoc, List.getElem?_append_left c1]
      · rw [if_neg c1]
        by_cases c2 : k = X.length
        · rw [if_pos c2, c2]; simp
        · rw [if_neg c2, List.getElem?_append_right (by simp; omega)]
          congr 2
          simp
          omega
    rw [hg] at q1 q2 ⊢
    rw [xup2_n (by omega)]
    by_cases c1 : k < X.length
    · rw [if_pos c1] at q1 q2 ⊢
      rw [xup2_n (by omega)]
      exact ⟨q1, q2⟩
    · rw [if_neg c1] at q1 q2 ⊢
      by_cases c2 : k = X.length
      · rw [if_pos c2] at q1 q2 ⊢
        rw [c2, xup2_s]
        exact ⟨by rw [← c2]; exact q1, rfl⟩
      · rw [if_neg c2] at q1 q2 ⊢
        rw [xup2_n (by omega)]
        exact ⟨q1, q2⟩
/-- passPart(): what is asked for does not stand there -/
theorem k_61w {y : Int} (hy : 1 ≤ y ∧ y ≤ 4) (h : cYs S G B n t N w K (st ++ [y]) i) (hl : st.length ≤ 31) (hk : kK t i ≠ if y = 1 ∨ y = 4 then 41 else 44) : c61 f 72 (kK t i) (S, G, m) = some (.inl 0, cWr S G m (kS t i : Int)) := by
  have hs := h.1.1
  have hp := h.1.2.1
  obtain ⟨k1, k2, k3, k4⟩ := h.1.tk h.2.1
  have h12 := h.2.2.2.2.1
  rw [len1] at h12
  have hv := h.2.2.2.2.2 st.length (by rw [len1]; omega)
  rw [getD_1, if_pos rfl] at hv
  have e1 : xwr (((st.length + 1 : Nat) : Int) - 1) = (st.length : Int) := by rw [xwr_g _ (by omega) (by omega)]; omega
  have e0 : ∀ (b c : Int), kK t i ≠ c → c61_52 f 72 (st.length : Int) y b c (kK t i) (S, G, m) = some (.inl 0, cWr S G m (kS t i : Int)) := by
    intro b c hc
    unfold c61_52
    rw [if_neg hc]
    simp (disch := omega) only [cq_gi, cq_gr, cq_a, cq_s, cq_p, cq_pr, cq_is, cq_ar, cq_ab, cq_ln, xq_nz, Option.bind_some, xup2_n, xup2_s, Int.toNat_natCast, Int.reduceToNat, if_pos, if_neg, true_and, and_true, and_self, eq_self, if_true, reduceIte, not_true_eq_false, not_false_eq_true, or_true, true_or, s72 hs, s65 hs, s68 hs, p72_0 hp, p65_4 hp, h12, e1, k2, k3, k_36 hs, cth]
  have e2 : c61 f 72 (kK t i) (S, G, m) = c61_21 f 72 (kK t i) (st.length : Int) y (S, G, m) := by
    unfold c61
    simp (disch := omega) only [cq_gi, cq_gr, cq_a, cq_s, cq_p, cq_pr, cq_is, cq_ar, cq_ab, cq_ln, xq_nz, Option.bind_some, xup2_n, xup2_s, Int.toNat_natCast, Int.reduceToNat, if_pos, if_neg, true_and, and_true, and_self, eq_self, if_true, reduceIte, not_true_eq_false, not_false_eq_true, or_true, true_or, s72 hs, s75 hs, p72_10 hp, h12, hv, e1]
  rw [e2]
  unfold c61_21 c61_32 c61_37
  by_cases c1 : y = 1
  · rw [if_pos (.inl c1)] at hk
    rw [if_pos c1, if_neg (by decide)]
    exact e0 _ _ hk
  · rw [if_neg c1]
    by_cases c4 : y = 4
    · rw [if_pos (.inr c4)] at hk
      rw [if_neg (fun q => q c4), if_neg (by decide)]
      exact e0 _ _ hk
    · rw [if_neg (by omega)] at hk
      rw [if_pos c4, if_pos rfl]
      exact e0 _ _ hk
theorem k_61_1 (h : cYs S G B n t N w K (st ++ [1]) i) (hl : st.length ≤ 31) (hk : kK t i = 41) : c61 f 72 (kK t i) (S, G, m) = some (.inr 0, (S, xup2 G 72 12 (st.length : Int), m)) := by
  have hs := h.1.1
  have hp := h.1.2.1
  have h12 := h.2.2.2.2.1
  rw [len1] at h12
  have hv := h.2.2.2.2.2 st.length (by rw [len1]; omega)
  rw [getD_1, if_pos rfl] at hv
  have e1 : xwr (((st.length + 1 : Nat) : Int) - 1) = (st.length : Int) := by rw [xwr_g _ (by omega) (by omega)]; omega
  unfold c61
  simp (disch := omega) only [cq_gi, cq_gr, cq_a, cq_s, cq_p, cq_pr, cq_is, cq_ar, cq_ab, cq_ln, xq_nz, Option.bind_some, xup2_n, xup2_s, Int.toNat_natCast, Int.reduceToNat, if_pos, if_neg, true_and, and_true, and_self, eq_self, if_true, reduceIte, not_true_eq_false, not_false_eq_true, or_true, true_or, s72 hs, s75 hs, p72_10 hp, h12, hv, e1]
  unfold c61_21 c61_32 c61_37
  rw [if_pos rfl, if_neg (by decide)]
  unfold c61_52 c61_71 c61_160 c61_187 c61_197
  rw [if_neg (by decide : ¬ ((1 : Int) = 0)), if_pos (by decide : ¬ ((1 : Int) = 2)), if_pos (by decide : ¬ ((1 : Int) = 3)), if_pos (by decide : ¬ ((1 : Int) = 4))]
  simp (disch := omega) only [cq_gi, cq_gr, cq_a, cq_s, cq_p, cq_pr, cq_is, cq_ar, cq_ab, cq_ln, xq_nz, Option.bind_some, xup2_n, xup2_s, Int.toNat_natCast, Int.reduceToNat, if_pos, if_neg, true_and, and_true, and_self, eq_self, if_true, reduceIte, not_true_eq_false, not_false_eq_true, or_true, true_or, s72 hs, h12, e1, hk]
/-- behind what is asked -/
theorem k_61_2 (h : cYs S G B n t N w K (st ++ [2]) i) (hl : st.length ≤ 31) (hK : K.length < 3001) (hk : kK t i = 44) : ∃ G', c61 f 72 (kK t i) (S, G, m) = some (.inr 1, (S, G', m)) ∧ xY st.length G G' ∧ G' 76 st.length = (K.length : Int) ∧ cYs S G' B n t N w (K ++ [(14, 0)]) (st ++ [3]) i := by
  have hs := h.1.1
  have hp := h.1.2.1
  have h9 := h.2.2.2.1.1
  have h12 := h.2.2.2.2.1
  rw [len1] at h12
  have hv := h.2.2.2.2.2 st.length (by rw [len1]; omega)
  rw [getD_1, if_pos rfl] at hv
  have e1 : xwr (((st.length + 1 : Nat) : Int) - 1) = (st.length : Int) := by rw [xwr_g _ (by omega) (by omega)]; omega
  have x1 : xY st.length G (xup2 G 76 st.length (K.length : Int)) := fun a j p q r => xup2_n (by omega)
  have y1 : cYs S (xup2 G 76 st.length (K.length : Int)) B n t N w K (st ++ [2]) i := h.mv x1 ⟨by rw [xup2_n (by omega)]; exact h.2.1.1, h.2.1.2⟩ h.2.2.1 (h.2.2.2.1.ge (xup2_n (by omega)) (fun j => xup2_n (by omega)) (fun j => xup2_n (by omega))) (h.2.2.2.2.ge (xup2_n (by omega)) (fun j => xup2_n (by omega)))
  obtain ⟨G2, a1, a2, a3, a4⟩ := ky_56 (f := f) (m := m) (a := 14) (b := 0) (hh := st.length) y1 hK
  have x3 : xY st.length G2 (xup2 G2 75 st.length 3) := fun a j p q r => xup2_n (by omega)
  refine ⟨xup2 G2 75 st.length 3, ?_, (x1.tr a2).tr x3, ?_, ?_⟩
  · have q1 : xwr ((2 : Int) + 1) = 3 := by decide
    unfold c61
    simp (disch := omega) only [cq_gi, cq_gr, cq_a, cq_s, cq_p, cq_pr, cq_is, cq_ar, cq_ab, cq_ln, xq_nz, Option.bind_some, xup2_n, xup2_s, Int.toNat_natCast, Int.reduceToNat, if_pos, if_neg, true_and, and_true, and_self, eq_self, if_true, reduceIte, not_true_eq_false, not_false_eq_true, or_true, true_or, s72 hs, s75 hs, p72_10 hp, h12, hv, e1]
    unfold c61_21
    rw [if_neg (by decide), if_pos (by decide)]
    unfold c61_37
    rw [if_pos rfl]
    unfold c61_52
    rw [if_pos hk]
    unfold c61_71
    rw [if_neg (by decide)]
    have hp2 := a4.1.2.1
    unfold c61_160 c61_187 c61_197
    simp (disch := omega) only [cq_gi, cq_gr, cq_a, cq_s, cq_p, cq_pr, cq_is, cq_ar, cq_ab, cq_ln, xq_nz, Option.bind_some, xup2_n, xup2_s, Int.toNat_natCast, Int.reduceToNat, if_pos, if_neg, true_and, and_true, and_self, eq_self, if_true, reduceIte, not_true_eq_false, not_false_eq_true, or_true, true_or, s72 hs, s75 hs, s76 hs, p72_11 hp, p72_10 hp2, h9, a1, q1]
  · rw [xup2_n (by omega), a3, xup2_s]
  · refine a4.mv x3 ⟨by rw [xup2_n (by omega)]; exact a4.2.1.1, a4.2.1.2⟩ a4.2.2.1 (a4.2.2.2.1.ge (xup2_n (by omega)) (fun j => xup2_n (by omega)) (fun j => xup2_n (by omega))) ⟨?_, fun k hk => ?_⟩
    · rw [xup2_n (by omega), a4.2.2.2.2.1, len1, len1]
    · rw [len1] at hk
      have := a4.2.2.2.2.2 k (by rw [len1]; exact hk)
      rw [getD_1] at this ⊢
      by_cases ck : k = st.length
      · rw [if_pos ck, ck, xup2_s]
      · rw [if_neg ck] at this ⊢
        rw [xup2_n (by omega)]; exact this
/-- behind the first of two -/
theorem k_61_3 {X Y : pCd} {a b : Int} (h : cYs S G B n t N w (X ++ [(a, b)] ++ Y) (st ++ [3]) i) (hm : G 76 st.length = (X.length : Int)) (hl : st.length ≤ 31) (hK : (X ++ [(a, b)] ++ Y).length < 3001) (hk : kK t i = 44) : ∃ G', c61 f 72 (kK t i) (S, G, m) = some (.inr 1, (S, G', m)) ∧ xY st.length G G' ∧ G' 76 st.length = ((X ++ [(a, b)] ++ Y).length : Int) ∧ cYs S G' B n t N w (X ++ [(a, (((X ++ [(a, b)] ++ Y).length + 1 : Nat) : Int))] ++ Y ++ [(15, 0)]) (st ++ [4]) i := by
  have hs := h.1.1
  have hp := h.1.2.1
  have h9 := h.2.2.2.1.1
  have h12 := h.2.2.2.2.1
  rw [len1] at h12
  have hv := h.2.2.2.2.2 st.length (by rw [len1]; omega)
  rw [getD_1, if_pos rfl] at hv
  have e1 : xwr (((st.length + 1 : Nat) : Int) - 1) = (st.length : Int) := by rw [xwr_g _ (by omega) (by omega)]; omega
  generalize hZ : (X ++ [(a, b)] ++ Y).length = L at *
  have e2 : xwr ((L : Int) + 1) = ((L + 1 : Nat) : Int) := by rw [xwr_g _ (by omega) (by omega)]; omega
  have hXL : X.length < L := by rw [← hZ]; simp only [List.length_append, List.length_singleton]; omega
  have hL2 : (X ++ [(a, ((L + 1 : Nat) : Int))] ++ Y).length = L := by rw [← hZ]; simp only [List.length_append, List.length_singleton]
  have x1 : xY st.length G (xup2 (xup2 G 74 X.length ((L + 1 : Nat) : Int)) 76 st.length (L : Int)) := fun a j p q r => by rw [xup2_n (by omega), xup2_n (by omega)]
  have y1 : cYs S (xup2 (xup2 G 74 X.length ((L + 1 : Nat) : Int)) 76 st.length (L : Int)) B n t N w (X ++ [(a, ((L + 1 : Nat) : Int))] ++ Y) (st ++ [3]) i := h.mv x1 ⟨by rw [xup2_n (by omega), xup2_n (by omega)]; exact h.2.1.1, h.2.1.2⟩ h.2.2.1 ((h.2.2.2.1.mend (v := ((L + 1 : Nat) : Int))).ge (xup2_n (by omega)) (fun j => xup2_n (by omega)) (fun j => xup2_n (by omega))) (h.2.2.2.2.ge (by rw [xup2_n (by omega), xup2_n (by omega)]) (fun j => by rw [xup2_n (by omega), xup2_n (by omega)]))
  obtain ⟨G2, a1, a2, a3, a4⟩ := ky_56 (f := f) (m := m) (a := 15) (b := 0) (hh := st.length) y1 (by rw [hL2]; exact hK)
  have x3 : xY st.length G2 (xup2 G2 75 st.length 4) := fun a j p q r => xup2_n (by omega)
  refine ⟨xup2 G2 75 st.length 4, ?_, (x1.tr a2).tr x3, ?_, ?_⟩
  · have q1 : xwr ((3 : Int) + 1) = 4 := by decide
    unfold c61
    simp (disch := omega) only [cq_gi, cq_gr, cq_a, cq_s, cq_p, cq_pr, cq_is, cq_ar, cq_ab, cq_ln, xq_nz, Option.bind_some, xup2_n, xup2_s, Int.toNat_natCast, Int.reduceToNat, if_pos, if_neg, true_and, and_true, and_self, eq_self, if_true, reduceIte, not_true_eq_false, not_false_eq_true, or_true, true_or, s72 hs, s75 hs, p72_10 hp, h12, hv, e1]
    unfold c61_21
    rw [if_neg (by decide), if_pos (by decide)]
    unfold c61_37
    rw [if_pos rfl]
    unfold c61_52
    rw [if_pos hk]
    unfold c61_71
    rw [if_pos (by decide), if_neg (by decide)]
    have hp2 := a4.1.2.1
    unfold c61_160 c61_187 c61_197
    simp (disch := omega) only [cq_gi, cq_gr, cq_a, cq_s, cq_p, cq_pr, cq_is, cq_ar, cq_ab, cq_ln, xq_nz, Option.bind_some, xup2_n, xup2_s, Int.toNat_natCast, Int.reduceToNat, if_pos, if_neg, true_and, and_true, and_self, eq_self, if_true, reduceIte, not_true_eq_false, not_false_eq_true, or_true, true_or, s72 hs, s74 hs, s75 hs, s76 hs, p72_8 hp, p72_11 hp, p72_10 hp2, h9, hm, e2, a1, q1]
  · rw [xup2_n (by omega), a3, xup2_s]
  · refine a4.mv x3 ⟨by rw [xup2_n (by omega)]; exact a4.2.1.1, a4.2.1.2⟩ a4.2.2.1 (a4.2.2.2.1.ge (xup2_n (by omega)) (fun j => xup2_n (by omega)) (fun j => xup2_n (by omega))) ⟨?_, fun k hk => ?_⟩
    · rw [xup2_n (by omega), a4.2.2.2.2.1, len1, len1]
    · rw [len1] at hk
      have := a4.2.2.2.2.2 k (by rw [len1]; exact hk)
      rw [getD_1] at this ⊢
      by_cases ck : k = st.length
      · rw [if_pos ck, ck, xup2_s]
      · rw [if_neg ck] at this ⊢
        rw [xup2_n (by omega)]; exact this
/-- behind the last of three -/
theorem k_61_4 {X Y : pCd} {a b : Int} (h : cYs S G B n t N w (X ++ [(a, b)] ++ Y) (st ++ [4]) i) (hm : G 76 st.length = (X.length : Int)) (hl : st.length ≤ 31) (hK : (X ++ [(a, b)] ++ Y).length ≤ 3001) (hk : kK t i = 41) : ∃ G', c61 f 72 (kK t i) (S, G, m) = some (.inr 0, (S, G', m)) ∧ xY st.length G G' ∧ cYs S G' B n t N w (X ++ [(a, ((X ++ [(a, b)] ++ Y).length : Int))] ++ Y) st i := by
  have hs := h.1.1
  have hp := h.1.2.1
  have h9 := h.2.2.2.1.1
  have h12 := h.2.2.2.2.1
  rw [len1] at h12
  have hv := h.2.2.2.2.2 st.length (by rw [len1]; omega)
  rw [getD_1, if_pos rfl] at hv
  have e1 : xwr (((st.length + 1 : Nat) : Int) - 1) = (st.length : Int) := by rw [xwr_g _ (by omega) (by omega)]; omega
  generalize hZ : (X ++ [(a, b)] ++ Y).length = L at *
  have hXL : X.length < L := by rw [← hZ]; simp only [List.length_append, List.length_singleton]; omega
  have x1 : xY st.length G (xup2 G 74 X.length (L : Int)) := fun a j p q r => by rw [xup2_n (by omega)]
  have y1 : cYs S (xup2 G 74 X.length (L : Int)) B n t N w (X ++ [(a, (L : Int))] ++ Y) (st ++ [4]) i := h.mv x1 ⟨by rw [xup2_n (by omega)]; exact h.2.1.1, h.2.1.2⟩ h.2.2.1 (h.2.2.2.1.mend (v := (L : Int))) (h.2.2.2.2.ge (by rw [xup2_n (by omega)]) (fun j => by rw [xup2_n (by omega)]))
  obtain ⟨x2, y2⟩ := y1.pop (hh := st.length)
  refine ⟨_, ?_, x1.tr x2, y2⟩
  unfold c61
  simp (disch := omega) only [cq_gi, cq_gr, cq_a, cq_s, cq_p, cq_pr, cq_is, cq_ar, cq_ab, cq_ln, xq_nz, Option.bind_some, xup2_n, xup2_s, Int.toNat_natCast, Int.reduceToNat, if_pos, if_neg, true_and, and_true, and_self, eq_self, if_true, reduceIte, not_true_eq_false, not_false_eq_true, or_true, true_or, s72 hs, s75 hs, p72_10 hp, h12, hv, e1]
  unfold c61_21 c61_32
  rw [if_neg (by decide), if_neg (by decide)]
  unfold c61_37
  rw [if_neg (by decide)]
  unfold c61_52
  rw [if_pos hk]
  unfold c61_71
  rw [if_pos (by decide), if_pos (by decide), if_neg (by decide)]
  unfold c61_160 c61_187 c61_197
  simp (disch := omega) only [cq_gi, cq_gr, cq_a, cq_s, cq_p, cq_pr, cq_is, cq_ar, cq_ab, cq_ln, xq_nz, Option.bind_some, xup2_n, xup2_s, Int.toNat_natCast, Int.reduceToNat, if_pos, if_neg, true_and, and_true, and_self, eq_self, if_true, reduceIte, not_true_eq_false, not_false_eq_true, or_true, true_or, s72 hs, s74 hs, s75 hs, s76 hs, p72_8 hp, p72_11 hp, h9, hm, h12, e1]
end
