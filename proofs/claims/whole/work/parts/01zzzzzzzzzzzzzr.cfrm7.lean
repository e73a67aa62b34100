/-! THE CLASS reads FORMULAS: all -/
section
variable {f n N w : Nat} {S : Nat → Nat × Nat × Nat} {m : Nat × Nat} {B : Nat → Int} {t : tStr}
/-- what stands in brackets, or is a part of an if -/
theorem ky_sub {F b i it : Nat} {y : Int} {G : xG_} {K : pCd} {st : List Int} {N0 : List pNd} (P1 : yP1 f n N w S m B t F) (hy : 1 ≤ y ∧ y ≤ 4) (h : cYs S G B n t N w K (st ++ [y]) i) (hK : K.length ≤ i) (hi : it ≤ i) (hb : nBr st = b) (hb4 : b < 4) (hl : st.length ≤ 3 * b + 2) (hF : 4 * (w + 1 - i) + 3 ≤ F) : pok (pF t F 1 (b + 1) (N0, 0, i)) (yWr f S m (st.length + 1) N 1 it G)
    (fun e => ∃ (d : Nat) (G' : xG_) (K' C : pCd) (Q : List Int) (F : Nat), lSt f 1 1 0 it d (S, G, m) (S, G', m) ∧ xY (st.length + 1) G G' ∧ cYs S G' B n t N w K' (st ++ [y] ++ Q.reverse) e.2.2 ∧ K' ++ Q.map cZ = K ++ C ∧ isC e.1 F e.2.1 K.length (2 * (4 - b) + 1) C ∧ C.length + i ≤ e.2.2 ∧ (∀ x, x ∈ Q → 1 ≤ cStr x) ∧ (st ++ [y] ++ Q.reverse).length ≤ 32 ∧ K'.length + Q.length ≤ e.2.2 ∧ it + d ≤ e.2.2 ∧ cStr (kK t e.2.2) = 0 ∧ i < e.2.2 ∧ e.1.filterMap lf = N0.filterMap lf ++ C.filter lfC ∧ ∃ M, e.1 = N0 ++ M) := by
  have hcy : cStr y = 0 := by
    unfold cStr
    rw [if_neg (by omega), if_neg (by omega)]
  have p := P1 G K N0 0 i it (st ++ [y]) (b + 1) h hK hi (by rw [nBr_1, if_pos hcy]; omega) (by omega) (by rw [len1]; omega) (.inr ⟨st, y, rfl, by omega⟩) hF
  rw [len1] at p
  refine pok_m p (fun _ q => q) ?_
  rintro e ⟨d, G', K', C, Q, F', a1, a2, a3, a4, a5, a6, a7, a8, a9, a10, a11, a12⟩
  have eh : 2 * (4 - (b + 1)) + 3 = 2 * (4 - b) + 1 := by omega
  rw [eh] at a5
  rw [len1] at a2
  have hle := congrArg List.length a4
  rw [List.length_append, List.length_append, List.length_map] at hle
  refine ⟨d, G', K', C, Q, F', a1, a2, a3, a4, a5, a6, fun x hx => by have := a7 x hx; omega, by rw [List.length_append, len1, List.length_reverse]; omega, by omega, a9, by have := (cStr_nn (kK t e.2.2)).1; omega, a11, a12⟩
/-- an if -/
theorem ky_if {F b i it : Nat} {G : xG_} {K : pCd} {st : List Int} {N0 : List pNd} (hf : 100 < f) (hN3 : N ≤ 3000) (hif : ∀ i, i ≤ w → kK t i = 1 → (spl B (kS t i) (kE t i) 10 ↔ kC t i = 348)) (P1 : yP1 f n N w S m B t F) (h : cYs S G B n t N w K st i) (hk : kK t i = 1 ∧ kC t i = 348) (hK : K.length ≤ i) (hi : it ≤ i) (hb : nBr st = b) (hb4 : b ≤ 4) (hl : st.length ≤ 3 * b + 2) (hF : 4 * (w + 1 - i) + 1 ≤ F + 1) : pok (pbind (pOpen t b (i + 1)) fun i => pbind (pF t F 1 (b + 1) (N0, 0, i)) fun x => pbind (pNeed t 44 x.2.2) fun i => pbind (pF t F 1 (b + 1) (x.1, 0, i)) fun y =>
      pbind (pNeed t 44 y.2.2) fun i => pbind (pF t F 1 (b + 1) (y.1, 0, i)) fun z => pbind (pNeed t 41 z.2.2) fun i => (.inr (z.1 ++ [(10, x.2.1, y.2.1, z.2.1, 0)], (z.1.length : Int), i) : Nat ⊕ pFm)) (yWr f S m st.length N 1 it G) (yO f S m B n t N w K st N0 i (2 * (4 - b) + 1) 1 it G) := by
  have hlt := h.1.lt h.2.1 (by omega)
  have o := ky_openi (f := f) (m := m) (hh := st.length) hf hif h hi hk (by omega)
  rw [hb] at o
  cases ho : pOpen t b (i + 1) with
  | inl x =>
    rw [ho] at o
    obtain ⟨G1, a1, a2⟩ := o
    exact ⟨1, G1, a1, a2, by omega⟩
  | inr j =>
    obtain ⟨_, hb3, _⟩ := pOpen_in ho
    rw [ho] at o
    obtain ⟨hj, G1, a1, a2, a3⟩ := o
    subst hj
    have hj2 := a3.2.2.1
    have p1 := ky_sub (N0 := N0) (it := it + 1) P1 (by decide) a3 (by omega) (by omega) hb (by omega) hl (by omega)
    show pok (pbind (pF t F 1 (b + 1) (N0, 0, i + 2)) _) _ _
    cases h1 : pF t F 1 (b + 1) (N0, 0, i + 2) with
    | inl x =>
      rw [h1] at p1
      exact p1.pre a1 a2 (by omega)
    | inr x =>
      rw [h1] at p1
      obtain ⟨d1, G2, K2, A, Q2, F2, b1, b2, b3, b4, b5, b6, b7, b8, b9, b10, b11, b12, bL, M1, b13⟩ := p1
      have hN2 := b3.2.2.1
      have b2' : xY st.length G1 G2 := b2.mo (by omega)
      have hle := congrArg List.length b4
      rw [List.length_append, List.length_append, List.length_map] at hle
      have pp := ky_part (f := f) (m := m) (it := it + (1 + d1)) (y := 2) (c := 44) (wn := 1) (Z := fun G' K' st' => K' = K ++ A ++ [(14, 0)] ∧ st' = st ++ [3] ∧ G' 76 st.length = ((K ++ A).length : Int)) hf hif (by decide) (by decide) b3 (by omega) b11 b7 b8 (by omega) (fun G1 x1 x2 x3 x4 => by
        rw [b4] at x3
        obtain ⟨G4, y1, y2, y3, y4⟩ := k_61_2 (f := f) (m := m) x3 (by omega) (by rw [List.length_append]; omega) x4
        exact ⟨G4, _, _, y1, y2, y4, rfl, rfl, y3⟩)
      show pok (pbind (pNeed t 44 x.2.2) _) _ _
      cases h2 : pNeed t 44 x.2.2 with
      | inl v =>
        rw [h2] at pp
        obtain ⟨G3, c1, c2⟩ := pp
        exact ⟨1 + d1 + 1, G3, (a1.tr b1).wr c1, (a2.tr b2').tr c2, by omega⟩
      | inr j =>
        rw [h2] at pp
        obtain ⟨hj, G3, G3', K3, st3, c1, c2, c3, ⟨z1, z2, z3⟩, c4⟩ := pp
        subst hj z1 z2
        have hm3 : G3 76 st.length = ((K ++ A).length : Int) := by rw [c4, z3]
        have hj3 := c3.2.2.1
        have hKA : (K ++ A ++ [((14 : Int), (0 : Int))]).length = K.length + A.length + 1 := by simp only [List.length_append, List.length_singleton]
        have p2 := ky_sub (N0 := x.1) (it := it + (1 + d1 + 1)) P1 (by decide) c3 (by omega) (by omega) hb (by omega) hl (by omega)
        show pok (pbind (pF t F 1 (b + 1) (x.1, 0, x.2.2 + 1)) _) _ _
        cases h3 : pF t F 1 (b + 1) (x.1, 0, x.2.2 + 1) with
        | inl v =>
          rw [h3] at p2
          exact p2.pre ((a1.tr b1).tr c1) ((a2.tr b2').tr c2) (by omega)
        | inr y =>
          rw [h3] at p2
          obtain ⟨d2, G4, K4, D, Q4, F4, e1, e2, e3, e4, e5, e6, e7, e8, e9, e10, e11, e12, eL, M2, e13⟩ := p2
          have hN4 := e3.2.2.1
          have e2' : xY st.length G3 G4 := e2.mo (by omega)
          have hm4 : G4 76 st.length = ((K ++ A).length : Int) := by rw [e2 76 st.length (by omega) (by omega) (by omega)]; exact hm3
          have hle4 := congrArg List.length e4
          rw [List.length_append, List.length_append, List.length_map, hKA] at hle4
          have hKD : (K ++ A ++ [((14 : Int), (0 : Int))] ++ D).length = K.length + A.length + 1 + D.length := by rw [List.length_append, hKA]
          have pp := ky_part (f := f) (m := m) (it := it + (1 + d1 + 1 + d2)) (y := 3) (c := 44) (wn := 1) (Z := fun G' K' st' => K' = K ++ A ++ [(14, ((K.length + A.length + D.length + 2 : Nat) : Int))] ++ D ++ [(15, 0)] ∧ st' = st ++ [4] ∧ G' 76 st.length = ((K.length + A.length + 1 + D.length : Nat) : Int)) hf hif (by decide) (by decide) e3 (by omega) e11 e7 e8 (by omega) (fun G1 x1 x2 x3 x4 => by
            rw [e4] at x3
            obtain ⟨G4, y1, y2, y3, y4⟩ := k_61_3 (f := f) (m := m) x3 (by rw [x2]; exact hm4) (by omega) (by omega) x4
            rw [hKD] at y3 y4
            have hq : K.length + A.length + 1 + D.length + 1 = K.length + A.length + D.length + 2 := by omega
            rw [hq] at y4
            exact ⟨G4, _, _, y1, y2, y4, rfl, rfl, y3⟩)
          show pok (pbind (pNeed t 44 y.2.2) _) _ _
          cases h4 : pNeed t 44 y.2.2 with
          | inl v =>
            rw [h4] at pp
            obtain ⟨G5, g1, g2⟩ := pp
            exact ⟨1 + d1 + 1 + d2 + 1, G5, (((a1.tr b1).tr c1).tr e1).wr g1, (((a2.tr b2').tr c2).tr e2').tr g2, by omega⟩
          | inr j =>
            rw [h4] at pp
            obtain ⟨hj, G5, G5', K5, st5, g1, g2, g3, ⟨z1, z2, z3⟩, g4⟩ := pp
            subst hj z1 z2
            have hm5 : G5 76 st.length = ((K.length + A.length + 1 + D.length : Nat) : Int) := by rw [g4, z3]
            have hj5 := g3.2.2.1
            have hX : (K ++ A ++ [((14 : Int), ((K.length + A.length + D.length + 2 : Nat) : Int))] ++ D).length = K.length + A.length + 1 + D.length := by simp only [List.length_append, List.length_singleton]
            have hX1 : (K ++ A ++ [((14 : Int), ((K.length + A.length + D.length + 2 : Nat) : Int))] ++ D ++ [((15 : Int), (0 : Int))]).length = K.length + A.length + 1 + D.length + 1 := by rw [len1, hX]
            have p3 := ky_sub (N0 := y.1) (it := it + (1 + d1 + 1 + d2 + 1)) P1 (by decide) g3 (by omega) (by omega) hb (by omega) hl (by omega)
            show pok (pbind (pF t F 1 (b + 1) (y.1, 0, y.2.2 + 1)) _) _ _
            cases h5 : pF t F 1 (b + 1) (y.1, 0, y.2.2 + 1) with
            | inl v =>
              rw [h5] at p3
              exact p3.pre ((((a1.tr b1).tr c1).tr e1).tr g1) ((((a2.tr b2').tr c2).tr e2').tr g2) (by omega)
            | inr z =>
              rw [h5] at p3
              obtain ⟨d3, G6, K6, E, Q6, F6, k1, k2, k3, k4, k5, k6, k7, k8, k9, k10, k11, k12, kL, M3, k13⟩ := p3
              have hN6 := k3.2.2.1
              have k2' : xY st.length G5 G6 := k2.mo (by omega)
              have hm6 : G6 76 st.length = ((K.length + A.length + 1 + D.length : Nat) : Int) := by rw [k2 76 st.length (by omega) (by omega) (by omega)]; exact hm5
              have hle6 := congrArg List.length k4
              rw [List.length_append, List.length_append, List.length_map, hX1] at hle6
              have hXE : (K ++ A ++ [((14 : Int), ((K.length + A.length + D.length + 2 : Nat) : Int))] ++ D ++ [((15 : Int), (0 : Int))] ++ E).length = K.length + A.length + D.length + E.length + 2 := by rw [List.length_append, hX1]; omega
              have pp := ky_part (f := f) (m := m) (it := it + (1 + d1 + 1 + d2 + 1 + d3)) (y := 4) (c := 41) (wn := 0) (Z := fun G' K' st' => K' = K ++ A ++ [(14, ((K.length + A.length + D.length + 2 : Nat) : Int))] ++ D ++ [(15, ((K.length + A.length + D.length + E.length + 2 : Nat) : Int))] ++ E ∧ st' = st) hf hif (by decide) (by decide) k3 (by omega) k11 k7 k8 (by omega) (fun G1 x1 x2 x3 x4 => by
                rw [k4] at x3
                obtain ⟨G4, y1, y2, y4⟩ := k_61_4 (f := f) (m := m) x3 (by rw [x2, hX]; exact hm6) (by omega) (by omega) x4
                rw [hXE] at y4
                exact ⟨G4, _, _, y1, y2, y4, rfl, rfl⟩)
              show pok (pbind (pNeed t 41 z.2.2) _) _ _
              cases h6 : pNeed t 41 z.2.2 with
              | inl v =>
                rw [h6] at pp
                obtain ⟨G7, n1, n2⟩ := pp
                exact ⟨1 + d1 + 1 + d2 + 1 + d3 + 1, G7, (((((a1.tr b1).tr c1).tr e1).tr g1).tr k1).wr n1, (((((a2.tr b2').tr c2).tr e2').tr g2).tr k2').tr n2, by omega⟩
              | inr j =>
                rw [h6] at pp
                obtain ⟨hj, G7, G7', K7, st7, n1, n2, n3, ⟨z1, z2⟩, n4⟩ := pp
                subst hj z1 z2
                have hFm : F2 ≤ max F2 (max F4 F6) ∧ F4 ≤ max F2 (max F4 F6) ∧ F6 ≤ max F2 (max F4 F6) := by omega
                have hA : isC z.1 (max F2 (max F4 F6)) x.2.1 K.length (2 * (4 - b) + 1) A := by
                  rw [k13, e13, List.append_assoc]
                  exact b5.mo _ _ _ _ _ _ _ hFm.1 (Nat.le_refl _)
                have hD : isC z.1 (max F2 (max F4 F6)) y.2.1 (K.length + A.length + 1) (2 * (4 - b) + 1) D := by
                  rw [k13, ← hKA]
                  exact e5.mo _ _ _ _ _ _ _ hFm.2.1 (Nat.le_refl _)
                have hE : isC (z.1 ++ []) (max F2 (max F4 F6)) z.2.1 (K.length + A.length + 1 + D.length + 1) (2 * (4 - b) + 1) E := by
                  rw [← hX1]
                  exact k5.mo _ _ _ _ _ _ _ hFm.2.2 (Nat.le_refl _)
                rw [List.append_nil] at hE
                refine ⟨1 + d1 + 1 + d2 + 1 + d3 + 1, G7, A ++ [(14, ((K.length + A.length + D.length + 2 : Nat) : Int))] ++ D ++ [(15, ((K.length + A.length + D.length + E.length + 2 : Nat) : Int))] ++ E, max F2 (max F4 F6) + 1, (((((a1.tr b1).tr c1).tr e1).tr g1).tr k1).tr n1, (((((a2.tr b2').tr c2).tr e2').tr g2).tr k2').tr n2, ?_, isC_new (by omega) (.inr (.inr (.inr (.inr (.inr ⟨rfl, A, D, E, hA, hD, hE, rfl⟩))))), ?_, ?_, ?_, ?_, M1 ++ (M2 ++ (M3 ++ [(10, x.2.1, y.2.1, z.2.1, 0)])), ?_⟩
                · simp only [List.append_assoc] at n3 ⊢
                  exact n3
                · simp only [List.length_append, List.length_singleton]
                  show _ ≤ z.2.2 + 1
                  omega
                · show _ ≤ z.2.2 + 1
                  omega
                · show _ < z.2.2 + 1
                  omega
                · show (z.1 ++ [((10 : Int), x.2.1, y.2.1, z.2.1, (0 : Int))]).filterMap lf = _
                  have e2 : [((10 : Int), x.2.1, y.2.1, z.2.1, (0 : Int))].filterMap lf = [] := rfl
                  have e3 : ∀ v : Int, [((14 : Int), v)].filter lfC = [] := fun v => rfl
                  have e4 : ∀ v : Int, [((15 : Int), v)].filter lfC = [] := fun v => rfl
                  rw [List.filterMap_append, e2, kL, eL, bL, List.filter_append, List.filter_append, List.filter_append, List.filter_append, e3, e4]
                  simp only [List.append_nil, List.append_assoc]
                · show z.1 ++ _ = _
                  rw [k13, e13, b13]
                  simp only [List.append_assoc]
theorem ky_0 {F : Nat} (hf : 100 < f) (hN3 : N ≤ 3000) (hif : ∀ i, i ≤ w → kK t i = 1 → (spl B (kS t i) (kE t i) 10 ↔ kC t i = 348)) (hck : tCk t) (P1 : yP1 f n N w S m B t F) : yP0 f n N w S m B t (F + 1) := by
  intro G K N0 r0 i it st b h hK hi hb hb4 hl hF
  rw [pFy_0]
  have hiN := h.2.2.1
  by_cases c40 : kK t i = 40
  · rw [if_neg (by omega), if_pos c40]
    have hlt := h.1.lt h.2.1 (by omega)
    have o := ky_openb (f := f) (m := m) (hh := st.length) hf hif h hi c40 (by omega)
    rw [hb] at o
    cases ho : pOpen t b i with
    | inl x =>
      rw [ho] at o
      exact ⟨1, G, o, .id, by omega⟩
    | inr j =>
      obtain ⟨_, hb3, _⟩ := pOpen_in ho
      rw [ho] at o
      obtain ⟨hj, G1, a1, a2, a3⟩ := o
      subst hj
      have hj2 := a3.2.2.1
      have p1 := ky_sub (N0 := N0) (it := it + 1) P1 (by decide) a3 (by omega) (by omega) hb (by omega) hl (by omega)
      show pok (pbind (pF t F 1 (b + 1) (N0, 0, i + 1)) _) _ _
      cases h1 : pF t F 1 (b + 1) (N0, 0, i + 1) with
      | inl x =>
        rw [h1] at p1
        exact p1.pre a1 a2 (by omega)
      | inr x =>
        rw [h1] at p1
        obtain ⟨d1, G2, K2, A, Q2, F2, b1, b2, b3, b4, b5, b6, b7, b8, b9, b10, b11, b12, bL, M1, b13⟩ := p1
        have hN2 := b3.2.2.1
        have b2' : xY st.length G1 G2 := b2.mo (by omega)
        have pp := ky_part (f := f) (m := m) (it := it + (1 + d1)) (y := 1) (c := 41) (wn := 0) (Z := fun G' K' st' => K' = K ++ A ∧ st' = st) hf hif (by decide) (by decide) b3 (by omega) b11 b7 b8 (by omega) (fun G1 x1 x2 x3 x4 => by
          rw [b4] at x3
          have y1 := k_61_1 (f := f) (m := m) x3 (by omega) x4
          obtain ⟨y2, y3⟩ := x3.pop (hh := st.length)
          exact ⟨_, _, _, y1, y2, y3, rfl, rfl⟩)
        show pok (pbind (pNeed t 41 x.2.2) _) _ _
        cases h2 : pNeed t 41 x.2.2 with
        | inl v =>
          rw [h2] at pp
          obtain ⟨G3, c1, c2⟩ := pp
          exact ⟨1 + d1 + 1, G3, (a1.tr b1).wr c1, (a2.tr b2').tr c2, by omega⟩
        | inr j =>
          rw [h2] at pp
          obtain ⟨hj, G3, G3', K3, st3, c1, c2, c3, ⟨z1, z2⟩, c4⟩ := pp
          subst hj z1 z2
          exact ⟨1 + d1 + 1, G3, A, F2, (a1.tr b1).tr c1, (a2.tr b2').tr c2, c3, b5, by show _ ≤ x.2.2 + 1; omega, by show _ ≤ x.2.2 + 1; omega, by show _ < x.2.2 + 1; omega, bL, M1, b13⟩
  · by_cases ci : kK t i = 1 ∧ kC t i = 348
    · rw [if_neg (by omega), if_neg c40, if_pos ci]
      exact ky_if hf hN3 hif P1 h ci hK hi hb hb4 hl hF
    · rw [if_neg c40, if_neg ci]
      have p := ky_opnd (f := f) (m := m) (hh := st.length) (N0 := N0) hf hif hck h hi c40 ci (by omega) (by omega) hb
      refine pok_m p ?_ ?_
      · rintro x ⟨G', q1, q2⟩
        exact ⟨1, G', q1, q2, by omega⟩
      · rintro e ⟨G', C, q1, q2, q3, q4, q5, y, q6, q7, q8⟩
        refine ⟨1, G', [C], 1, q1, q2, q3, (by have := q4.mo (M := []) _ _ _ _ _ (2 * (4 - b) + 1) _ (Nat.le_refl _) (by omega); rw [List.append_nil] at this; exact this), by simp only [List.length_singleton]; omega, by omega, q5, ?_, [y], q6⟩
        rw [q6, List.filterMap_append, List.filter_cons_of_pos q8, List.filterMap_cons_some q7]
        rfl
theorem ky_all (hf : 100 < f) (hN3 : N ≤ 3000) (hif : ∀ i, i ≤ w → kK t i = 1 → (spl B (kS t i) (kE t i) 10 ↔ kC t i = 348)) (hck : tCk t) : ∀ F, yP0 f n N w S m B t F ∧ yP1 f n N w S m B t F ∧ yP2 f n N w S m B t F ∧ yP3 f n N w S m B t F ∧ yP4 f n N w S m B t F := by
  intro F
  induction F with
  | zero =>
    refine ⟨?_, ?_, ?_, ?_, ?_⟩
    · intro G K N0 r0 i it st b h hK hi hb hb4 hl hF; exact absurd hF (by omega)
    · intro G K N0 r0 i it st b h hK hi hb hb4 hl hbt hF; exact absurd hF (by omega)
    · intro G K N0 r0 i it st b h hK hi hb hb4 hl hbt hF; exact absurd hF (by omega)
    · intro G K K0 C A Q N1 r F0 i0 i it st b h hE hC hL hCl hK hQ hQ1 hi hb hb4 hl hbt hF; exact absurd hF (by omega)
    · intro G K K0 C A Q N1 r F0 i0 i it st b h hE hC hL hCl hK hQ hQ1 hi hb hb4 hl hbt hk2 hF; exact absurd hF (by omega)
  | succ F ih =>
    obtain ⟨P0, P1, P2, P3, P4⟩ := ih
    exact ⟨ky_0 hf hN3 hif hck P1, ky_1 P2 P4, ky_2 P0 P3, ky_3 hf hN3 hif P0 P3, ky_4 hf hN3 hif P2 P4⟩
/-- readExpression() of a FORMULA -/
theorem ky_53 {F i : Nat} {G : xG_} (hf : 3010 < f) (hif : ∀ i, i ≤ w → kK t i = 1 → (spl B (kS t i) (kE t i) 10 ↔ kC t i = 348)) (hck : tCk t) (hE : cEv S G B n t N w) (hA : cAt G N w i) (hi : i ≤ N) (hC : cCo G []) (hF : 4 * (w + 1 - i) + 3 ≤ F) : pok (pF t F 1 0 ([], 0, i)) (fun x => ∃ G', c53 f 72 1 (S, G, m) = some (.inl 0, cWr S G' m (x : Int)) ∧ xY 0 G G') (fun e => ∃ G' C F', c53 f 72 1 (S, G, m) = some (.inr (), (S, G', m)) ∧ xY 0 G G' ∧ cEv S G' B n t N w ∧ cAt G' N w e.2.2 ∧ e.2.2 ≤ N ∧ cCo G' C ∧ isC e.1 F' e.2.1 0 11 C ∧ C.length + i ≤ e.2.2 ∧ e.1.filterMap lf = C.filter lfC) := by
  have hs := hE.1
  have hN := hE.2.2.2.1.2
  have hx : xY 0 G (xup2 G 72 12 0) := fun a j p q r => xup2_n (by omega)
  have h' : cYs S (xup2 G 72 12 0) B n t N w [] [] i := ⟨hx.ev hE, ⟨by rw [xup2_n (by omega)]; exact hA.1, hA.2⟩, hi, hC.ge (xup2_n (by omega)) (fun j => xup2_n (by omega)) (fun j => xup2_n (by omega)), ⟨xup2_s _ _ _ _, fun k hk => absurd hk (Nat.not_lt_zero k)⟩⟩
  have e1 : c53 f 72 1 (S, G, m) = c53_9 f f 72 1 1 ((0 : Nat) : Int) (S, xup2 G 72 12 0, m) := by
    unfold c53
    simp (disch := omega) only [cq_gi, cq_gr, cq_a, cq_s, cq_p, cq_pr, cq_is, cq_ar, cq_ab, cq_ln, xq_nz, Option.bind_some, xup2_n, xup2_s, Int.toNat_natCast, Int.reduceToNat, if_pos, if_neg, true_and, and_true, and_self, eq_self, if_true, reduceIte, not_true_eq_false, not_false_eq_true, or_true, true_or, s72 hs]
    rfl
  have p := (ky_all (f := f) (m := m) (w := w) (S := S) (by omega) hN hif hck F).2.1 _ [] [] 0 i 0 [] 0 h' (by simp) (by omega) rfl (by omega) (by simp) (.inl rfl) hF
  cases hp : pF t F 1 0 ([], 0, i) with
  | inl x =>
    rw [hp] at p
    obtain ⟨d, G', a1, a2, a3⟩ := p
    refine ⟨G', ?_, hx.tr a2⟩
    rw [e1]
    have := a1 (f - d)
    have q : f - d + d = f := by omega
    rw [q] at this
    exact this
  | inr e =>
    rw [hp] at p
    obtain ⟨d, G', K, C, Q, F', a1, a2, a3, a4, a5, a6, a7, a8, a9, a10, a11, aL, M, a12⟩ := p
    have hle := congrArg List.length a4
    rw [List.length_append, List.length_append, List.length_map] at hle
    have hle' : K.length + Q.length = 0 + C.length := hle
    have he := a3.2.2.1
    obtain ⟨G2, b1, _, b2, b3⟩ := ky_end (f := f) (m := m) (hh := 0) (it := 0 + d) (by omega) hif a3 a9 (by have := (cStr_nn (kK t e.2.2)).1; omega) (.inl rfl) a7 (by simp; omega) (by omega)
    rw [a4, List.nil_append] at b2
    refine ⟨G2, C, F', ?_, (hx.tr a2).tr b1, b2.1, b2.2.1, b2.2.2.1, b2.2.2.2.1, a5, a6, aL⟩
    rw [e1]
    have := a1 (f - d)
    have q : f - d + d = f := by omega
    rw [q] at this
    rw [this]
    have q' : f - d = (f - d - 1) + 1 := by omega
    rw [q', b3, if_pos rfl]
end
