/-! THE CLASS reads FORMULAS as the spec says -/
def yWr (f : Nat) (S : Nat → Nat × Nat × Nat) (m : Nat × Nat) (h N : Nat) (wn : Int) (it : Nat) (G : xG_) (x : Nat) : Prop := ∃ d G', lWr f 1 wn it d (S, G, m) (cWr S G' m (x : Int)) ∧ xY h G G' ∧ it + d ≤ N + 1
/-- behind an operand -/
def yO (f : Nat) (S : Nat → Nat × Nat × Nat) (m : Nat × Nat) (B : Nat → Int) (n : Nat) (t : tStr) (N w : Nat) (K : pCd) (st : List Int) (N0 : List pNd) (i h : Nat) (wn : Int) (it : Nat) (G : xG_) (e : pFm) : Prop := ∃ (d : Nat) (G' : xG_) (C : pCd) (F : Nat), lSt f 1 wn 0 it d (S, G, m) (S, G', m) ∧ xY st.length G G' ∧ cYs S G' B n t N w (K ++ C) st e.2.2 ∧ isC e.1 F e.2.1 K.length h C ∧ C.length + i ≤ e.2.2 ∧ it + d ≤ e.2.2 ∧ i < e.2.2 ∧ e.1.filterMap lf = N0.filterMap lf ++ C.filter lfC ∧ ∃ M, e.1 = N0 ++ M
/-- behind a FORMULA whose last signs still wait -/
def yR (f : Nat) (S : Nat → Nat × Nat × Nat) (m : Nat × Nat) (B : Nat → Int) (n : Nat) (t : tStr) (N w : Nat) (K0 : pCd) (st : List Int) (N0 : List pNd) (A : pCd) (h i0 i l q : Nat) (wn : Int) (it : Nat) (G : xG_) (e : pFm) : Prop := ∃ (d : Nat) (G' : xG_) (K C : pCd) (Q : List Int) (F : Nat), lSt f 1 wn 0 it d (S, G, m) (S, G', m) ∧ xY st.length G G' ∧ cYs S G' B n t N w K (st ++ Q.reverse) e.2.2 ∧ K ++ Q.map cZ = K0 ++ C ∧ isC e.1 F e.2.1 K0.length h C ∧ C.length + i0 ≤ e.2.2 ∧ (∀ x, x ∈ Q → (l : Int) ≤ cStr x) ∧ Q.length ≤ q ∧ it + d ≤ e.2.2 ∧ cStr (kK t e.2.2) < l ∧ i ≤ e.2.2 ∧ e.1.filterMap lf = A ++ C.filter lfC ∧ ∃ M, e.1 = N0 ++ M
section
variable {f n N w : Nat} {S : Nat → Nat × Nat × Nat} {m : Nat × Nat} {B : Nat → Int} {t : tStr}
theorem pFy_0 {F b i : Nat} {r0 : Int} {N0 : List pNd} : pF t (F + 1) 0 b (N0, r0, i) = if kK t i = 2 then pbind (pCell t i) fun r => .inr (N0 ++ [(2, r.1, 0, 0, 0)], (N0.length : Int), r.2)
    else if kK t i = 40 then pbind (pOpen t b i) fun i => pbind (pF t F 1 (b + 1) (N0, 0, i)) fun e' => pbind (pNeed t 41 e'.2.2) fun i => .inr (e'.1, e'.2.1, i)
    else if kK t i = 1 ∧ kC t i = 348 then
      pbind (pOpen t b (i + 1)) fun i => pbind (pF t F 1 (b + 1) (N0, 0, i)) fun x => pbind (pNeed t 44 x.2.2) fun i => pbind (pF t F 1 (b + 1) (x.1, 0, i)) fun y =>
      pbind (pNeed t 44 y.2.2) fun i => pbind (pF t F 1 (b + 1) (y.1, 0, i)) fun z => pbind (pNeed t 41 z.2.2) fun i => .inr (z.1 ++ [(10, x.2.1, y.2.1, z.2.1, 0)], (z.1.length : Int), i)
    else if 10 ≤ kK t i ∧ kK t i ≤ 13 then pOf t b N0 i
    else pbind (pVal t i) fun r => .inr (N0 ++ [(1, 0, 0, 0, r.1)], (N0.length : Int), r.2) := rfl
theorem pFy_3 {F b : Nat} {e : pFm} : pF t (F + 1) 3 b e = if kK t e.2.2 = 42 ∨ kK t e.2.2 = 47 ∨ kK t e.2.2 = 37 then pbind (pF t F 0 b (e.1, 0, e.2.2 + 1)) fun y => pF t F 3 b (y.1 ++ [(3, e.2.1, y.2.1, kK t e.2.2, 0)], (y.1.length : Int), y.2.2)
    else .inr e := rfl
theorem pFy_4 {F b : Nat} {e : pFm} : pF t (F + 1) 4 b e = if kK t e.2.2 = 43 ∨ kK t e.2.2 = 45 then pbind (pF t F 2 b (e.1, 0, e.2.2 + 1)) fun y => pF t F 4 b (y.1 ++ [(3, e.2.1, y.2.1, kK t e.2.2, 0)], (y.1.length : Int), y.2.2)
    else .inr e := rfl
theorem yWr.pre {h h' it d : Nat} {wn wn' : Int} {G G' : xG_} {x : Nat} (q : yWr f S m h' N wn' (it + d) G' x) (hs : lSt f 1 wn wn' it d (S, G, m) (S, G', m)) (hx : xY h G G') (hh : h ≤ h') : yWr f S m h N wn it G x := by
  obtain ⟨d', G2, a1, a2, a3⟩ := q
  exact ⟨d + d', G2, hs.wr a1, hx.tr (a2.mo hh), by omega⟩
/-- what the statements of a level say -/
def yP0 (f n N w : Nat) (S : Nat → Nat × Nat × Nat) (m : Nat × Nat) (B : Nat → Int) (t : tStr) (F : Nat) : Prop := ∀ (G : xG_) (K : pCd) (N0 : List pNd) (r0 : Int) (i it : Nat) (st : List Int) (b : Nat), cYs S G B n t N w K st i → K.length ≤ i → it ≤ i → nBr st = b → b ≤ 4 → st.length ≤ 3 * b + 2 → 4 * (w + 1 - i) + 1 ≤ F → pok (pF t F 0 b (N0, r0, i)) (yWr f S m st.length N 1 it G) (yO f S m B n t N w K st N0 i (2 * (4 - b) + 1) 1 it G)
def yP1 (f n N w : Nat) (S : Nat → Nat × Nat × Nat) (m : Nat × Nat) (B : Nat → Int) (t : tStr) (F : Nat) : Prop := ∀ (G : xG_) (K : pCd) (N0 : List pNd) (r0 : Int) (i it : Nat) (st : List Int) (b : Nat), cYs S G B n t N w K st i → K.length ≤ i → it ≤ i → nBr st = b → b ≤ 4 → st.length ≤ 3 * b → (st = [] ∨ ∃ z x, st = z ++ [x] ∧ cStr x < 1) → 4 * (w + 1 - i) + 3 ≤ F → pok (pF t F 1 b (N0, r0, i)) (yWr f S m st.length N 1 it G) (yR f S m B n t N w K st N0 (N0.filterMap lf) (2 * (4 - b) + 3) i (i + 1) 1 2 1 it G)
def yP2 (f n N w : Nat) (S : Nat → Nat × Nat × Nat) (m : Nat × Nat) (B : Nat → Int) (t : tStr) (F : Nat) : Prop := ∀ (G : xG_) (K : pCd) (N0 : List pNd) (r0 : Int) (i it : Nat) (st : List Int) (b : Nat), cYs S G B n t N w K st i → K.length ≤ i → it ≤ i → nBr st = b → b ≤ 4 → st.length ≤ 3 * b + 1 → (st = [] ∨ ∃ z x, st = z ++ [x] ∧ cStr x < 2) → 4 * (w + 1 - i) + 2 ≤ F → pok (pF t F 2 b (N0, r0, i)) (yWr f S m st.length N 1 it G) (yR f S m B n t N w K st N0 (N0.filterMap lf) (2 * (4 - b) + 2) i (i + 1) 2 1 1 it G)
def yP3 (f n N w : Nat) (S : Nat → Nat × Nat × Nat) (m : Nat × Nat) (B : Nat → Int) (t : tStr) (F : Nat) : Prop := ∀ (G : xG_) (K K0 C A : pCd) (Q : List Int) (N1 : List pNd) (r : Int) (F0 i0 i it : Nat) (st : List Int) (b : Nat), cYs S G B n t N w K (st ++ Q.reverse) i → K ++ Q.map cZ = K0 ++ C → isC N1 F0 r K0.length (2 * (4 - b) + 2) C → N1.filterMap lf = A ++ C.filter lfC → C.length + i0 ≤ i → K0.length ≤ i0 → (∀ x, x ∈ Q → 2 ≤ cStr x) → Q.length ≤ 1 → it ≤ i → nBr st = b → b ≤ 4 → st.length ≤ 3 * b + 1 → (st = [] ∨ ∃ z x, st = z ++ [x] ∧ cStr x < 2) → 4 * (w + 1 - i) + 1 ≤ F → pok (pF t F 3 b (N1, r, i)) (yWr f S m st.length N 0 it G) (yR f S m B n t N w K0 st N1 A (2 * (4 - b) + 2) i0 i 2 1 0 it G)
def yP4 (f n N w : Nat) (S : Nat → Nat × Nat × Nat) (m : Nat × Nat) (B : Nat → Int) (t : tStr) (F : Nat) : Prop := ∀ (G : xG_) (K K0 C A : pCd) (Q : List Int) (N1 : List pNd) (r : Int) (F0 i0 i it : Nat) (st : List Int) (b : Nat), cYs S G B n t N w K (st ++ Q.reverse) i → K ++ Q.map cZ = K0 ++ C → isC N1 F0 r K0.length (2 * (4 - b) + 3) C → N1.filterMap lf = A ++ C.filter lfC → C.length + i0 ≤ i → K0.length ≤ i0 → (∀ x, x ∈ Q → 1 ≤ cStr x) → Q.length ≤ 2 → it ≤ i → nBr st = b → b ≤ 4 → st.length ≤ 3 * b → (st = [] ∨ ∃ z x, st = z ++ [x] ∧ cStr x < 1) → cStr (kK t i) < 2 → 4 * (w + 1 - i) + 1 ≤ F → pok (pF t F 4 b (N1, r, i)) (yWr f S m st.length N 0 it G) (yR f S m B n t N w K0 st N1 A (2 * (4 - b) + 3) i0 i 1 2 0 it G)
theorem lf_sg {N1 N2 : List pNd} {A C D : pCd} {x r y : Int} (hx : 13 < x ∧ x < 256) (h : N2.filterMap lf = N1.filterMap lf ++ D.filter lfC) (h1 : N1.filterMap lf = A ++ C.filter lfC) : (N2 ++ [((3 : Int), r, y, x, (0 : Int))]).filterMap lf = A ++ (C ++ D ++ [(x, 0)]).filter lfC := by
  have e : lfC (x, 0) = false := by
    unfold lfC
    rw [decide_eq_false_iff_not]
    show ¬ x % 256 ≤ 13
    omega
  have e2 : [((3 : Int), r, y, x, (0 : Int))].filterMap lf = [] := rfl
  have e3 : [(x, (0 : Int))].filter lfC = [] := by rw [List.filter_cons_of_neg (by rw [e]; decide)]; rfl
  rw [List.filterMap_append, e2, h, h1, List.filter_append, List.filter_append, e3]
  simp only [List.append_nil, List.append_assoc]
theorem ky_2 {F : Nat} (P0 : yP0 f n N w S m B t F) (P3 : yP3 f n N w S m B t F) : yP2 f n N w S m B t (F + 1) := by
  intro G K N0 r0 i it st b h hK hi hb hb4 hl hbt hF
  show pok (pbind (pF t F 0 b (N0, r0, i)) fun e' => pF t F 3 b e') _ _
  have p0 := P0 G K N0 r0 i it st b h hK hi hb hb4 (by omega) (by omega)
  cases hp : pF t F 0 b (N0, r0, i) with
  | inl x => rw [hp] at p0; exact p0
  | inr e =>
    rw [hp] at p0
    obtain ⟨d, G1, C, F0, a1, a2, a3, a4, a5, a6, a7, aL, M, a8⟩ := p0
    have hN := a3.2.2.1
    have p3 := P3 G1 (K ++ C) K C (N0.filterMap lf) [] e.1 e.2.1 F0 i e.2.2 (it + d) st b (by rw [List.reverse_nil, List.append_nil]; exact a3) (by rw [List.map_nil, List.append_nil]) (by have := a4.mo (M := []) _ _ _ _ _ (2 * (4 - b) + 2) _ (Nat.le_refl _) (by omega); rw [List.append_nil] at this; exact this) aL a5 hK (fun x hx => by cases hx) (by simp) a6 hb hb4 hl hbt (by omega)
    show pok (pF t F 3 b e) _ _
    cases hq : pF t F 3 b e with
    | inl x =>
      have hq' : pF t F 3 b (e.1, e.2.1, e.2.2) = .inl x := hq
      rw [hq'] at p3
      exact p3.pre a1 a2 (Nat.le_refl _)
    | inr e' =>
      have hq' : pF t F 3 b (e.1, e.2.1, e.2.2) = .inr e' := hq
      rw [hq'] at p3
      obtain ⟨d', G2, K2, C2, Q2, F2, b1, b2, b3, b4, b5, b6, b7, b8, b9, b10, b11, bL, M2, b12⟩ := p3
      exact ⟨d + d', G2, K2, C2, Q2, F2, a1.tr b1, a2.tr b2, b3, b4, b5, b6, b7, b8, by omega, b10, by omega, bL, M ++ M2, by rw [b12, a8, List.append_assoc]⟩
theorem ky_1 {F : Nat} (P2 : yP2 f n N w S m B t F) (P4 : yP4 f n N w S m B t F) : yP1 f n N w S m B t (F + 1) := by
  intro G K N0 r0 i it st b h hK hi hb hb4 hl hbt hF
  show pok (pbind (pF t F 2 b (N0, r0, i)) fun e' => pF t F 4 b e') _ _
  have p0 := P2 G K N0 r0 i it st b h hK hi hb hb4 (by omega) (by rcases hbt with q | ⟨z, x, q1, q2⟩; exact .inl q; exact .inr ⟨z, x, q1, by omega⟩) (by omega)
  cases hp : pF t F 2 b (N0, r0, i) with
  | inl x => rw [hp] at p0; exact p0
  | inr e =>
    rw [hp] at p0
    obtain ⟨d, G1, K1, C, Q, F0, a1, a2, a3, a4, a5, a6, a7, a8, a9, a10, a11, aL, M, a12⟩ := p0
    have hN := a3.2.2.1
    have p3 := P4 G1 K1 K C (N0.filterMap lf) Q e.1 e.2.1 F0 i e.2.2 (it + d) st b a3 a4 (by have := a5.mo (M := []) _ _ _ _ _ (2 * (4 - b) + 3) _ (Nat.le_refl _) (by omega); rw [List.append_nil] at this; exact this) aL a6 hK (fun x hx => by have := a7 x hx; omega) (by omega) a9 hb hb4 hl hbt a10 (by omega)
    show pok (pF t F 4 b e) _ _
    cases hq : pF t F 4 b e with
    | inl x =>
      have hq' : pF t F 4 b (e.1, e.2.1, e.2.2) = .inl x := hq
      rw [hq'] at p3
      exact p3.pre a1 a2 (Nat.le_refl _)
    | inr e' =>
      have hq' : pF t F 4 b (e.1, e.2.1, e.2.2) = .inr e' := hq
      rw [hq'] at p3
      obtain ⟨d', G2, K2, C2, Q2, F2, b1, b2, b3, b4, b5, b6, b7, b8, b9, b10, b11, bL, M2, b12⟩ := p3
      exact ⟨d + d', G2, K2, C2, Q2, F2, a1.tr b1, a2.tr b2, b3, b4, b5, b6, b7, b8, by omega, b10, by omega, bL, M ++ M2, by rw [b12, a12, List.append_assoc]⟩
/-- signs of more strength -/
theorem ky_3 {F : Nat} (hf : 100 < f) (hN3 : N ≤ 3000) (hif : ∀ i, i ≤ w → kK t i = 1 → (spl B (kS t i) (kE t i) 10 ↔ kC t i = 348)) (P0 : yP0 f n N w S m B t F) (P3 : yP3 f n N w S m B t F) : yP3 f n N w S m B t (F + 1) := by
  intro G K K0 C A Q N1 r F0 i0 i it st b h hE hC hL hCl hK hQ hQ1 hi hb hb4 hl hbt hF
  rw [pFy_3]
  show pok (if kK t i = 42 ∨ kK t i = 47 ∨ kK t i = 37 then pbind (pF t F 0 b (N1, 0, i + 1)) fun y => pF t F 3 b (y.1 ++ [(3, r, y.2.1, kK t i, 0)], (y.1.length : Int), y.2.2) else .inr (N1, r, i)) _ _
  have hle := congrArg List.length hE
  rw [List.length_append, List.length_append, List.length_map] at hle
  have hiN := h.2.2.1
  by_cases c : kK t i = 42 ∨ kK t i = 47 ∨ kK t i = 37
  · rw [if_pos c]
    have hs2 := cStr_s c
    have c' : 13 < kK t i ∧ kK t i < 256 := by omega
    obtain ⟨G1, a1, a2, a3⟩ := ky_sign (f := f) (m := m) (hh := st.length) hf hif h hi (by omega) (by rw [hs2]; exact hbt) (by rw [hs2]; exact hQ) (by rw [List.length_append, List.length_reverse]; omega) (by omega)
    rw [hE] at a3
    have hlt := h.1.lt h.2.1 (by omega)
    have p0 := P0 G1 (K0 ++ C) N1 0 (i + 1) (it + 1) (st ++ [kK t i]) b a3 (by rw [List.length_append]; omega) (by omega) (by rw [nBr_1, if_neg (by omega)]; omega) hb4 (by rw [len1]; omega) (by omega)
    cases hp : pF t F 0 b (N1, 0, i + 1) with
    | inl x =>
      rw [hp] at p0
      exact p0.pre a1 a2 (by rw [len1]; omega)
    | inr e =>
      rw [hp] at p0
      obtain ⟨d, G2, D, F2, b1, b2, b3, b4, b5, b6, b7, bL, M, b8⟩ := p0
      have hN := b3.2.2.1
      have hC' : isC e.1 (max F0 F2) r K0.length (2 * (4 - b) + 2) C := by rw [b8]; exact hC.mo _ _ _ _ _ _ _ (Nat.le_max_left _ _) (Nat.le_refl _)
      have hD' : isC (e.1 ++ []) (max F0 F2) e.2.1 (K0 ++ C).length (2 * (4 - b) + 2 - 1) D := b4.mo _ _ _ _ _ _ _ (Nat.le_max_right _ _) (by omega)
      rw [List.append_nil, List.length_append] at hD'
      have b3' : cYs S G2 B n t N w (K0 ++ C ++ D) (st ++ [kK t i].reverse) e.2.2 := b3
      have p3 := P3 G2 (K0 ++ C ++ D) K0 (C ++ D ++ [(kK t i, 0)]) A [kK t i] (e.1 ++ [(3, r, e.2.1, kK t i, 0)]) (e.1.length : Int) (max F0 F2 + 1) i0 e.2.2 (it + (1 + d)) st b b3' (by
          simp only [List.append_assoc, List.map_cons, List.map_nil]
          rfl) (isC_new (by omega) (.inr (.inr (.inl ⟨rfl, C, D, hC', hD', rfl⟩)))) (lf_sg c' bL hL) (by simp only [List.length_append, List.length_singleton]; omega) hK (fun x hx => by rw [List.mem_singleton] at hx; rw [hx]; omega) (by simp) (by omega) hb hb4 hl hbt (by omega)
      show pok (pF t F 3 b (e.1 ++ [(3, r, e.2.1, kK t i, 0)], (e.1.length : Int), e.2.2)) _ _
      cases hq : pF t F 3 b (e.1 ++ [(3, r, e.2.1, kK t i, 0)], (e.1.length : Int), e.2.2) with
      | inl x =>
        rw [hq] at p3
        have b2' : xY st.length G1 G2 := b2.mo (by rw [len1]; omega)
        exact p3.pre (a1.tr b1) (a2.tr b2') (Nat.le_refl _)
      | inr e' =>
        rw [hq] at p3
        obtain ⟨d', G3, K2, C2, Q2, F3, c1, c2, c3, c4, c5, c6, c7, c8, c9, c10, c11, cL, M2, c12⟩ := p3
        have b2' : xY st.length G1 G2 := b2.mo (by rw [len1]; omega)
        exact ⟨1 + d + d', G3, K2, C2, Q2, F3, (a1.tr b1).tr c1, (a2.tr b2').tr c2, c3, c4, c5, c6, c7, c8, by omega, c10, by omega, cL, M ++ ([(3, r, e.2.1, kK t i, 0)] ++ M2), by rw [c12, b8]; simp only [List.append_assoc]⟩
  · rw [if_neg c]
    exact ⟨0, G, K, C, Q, F0, .id, .id, h, hE, hC, hCl, hQ, hQ1, hi, by show cStr (kK t i) < 2; exact cStr_1 c, Nat.le_refl _, hL, [], by rw [List.append_nil]⟩
/-- signs of less strength -/
theorem ky_4 {F : Nat} (hf : 100 < f) (hN3 : N ≤ 3000) (hif : ∀ i, i ≤ w → kK t i = 1 → (spl B (kS t i) (kE t i) 10 ↔ kC t i = 348)) (P2 : yP2 f n N w S m B t F) (P4 : yP4 f n N w S m B t F) : yP4 f n N w S m B t (F + 1) := by
  intro G K K0 C A Q N1 r F0 i0 i it st b h hE hC hL hCl hK hQ hQ1 hi hb hb4 hl hbt hk2 hF
  rw [pFy_4]
  show pok (if kK t i = 43 ∨ kK t i = 45 then pbind (pF t F 2 b (N1, 0, i + 1)) fun y => pF t F 4 b (y.1 ++ [(3, r, y.2.1, kK t i, 0)], (y.1.length : Int), y.2.2) else .inr (N1, r, i)) _ _
  have hle := congrArg List.length hE
  rw [List.length_append, List.length_append, List.length_map] at hle
  have hiN := h.2.2.1
  by_cases c : kK t i = 43 ∨ kK t i = 45
  · rw [if_pos c]
    have hs2 := cStr_w c
    have c' : 13 < kK t i ∧ kK t i < 256 := by omega
    obtain ⟨G1, a1, a2, a3⟩ := ky_sign (f := f) (m := m) (hh := st.length) hf hif h hi (by omega) (by rw [hs2]; exact hbt) (by rw [hs2]; exact hQ) (by rw [List.length_append, List.length_reverse]; omega) (by omega)
    rw [hE] at a3
    have hlt := h.1.lt h.2.1 (by omega)
    have p0 := P2 G1 (K0 ++ C) N1 0 (i + 1) (it + 1) (st ++ [kK t i]) b a3 (by rw [List.length_append]; omega) (by omega) (by rw [nBr_1, if_neg (by omega)]; omega) hb4 (by rw [len1]; omega) (.inr ⟨st, kK t i, rfl, by omega⟩) (by omega)
    cases hp : pF t F 2 b (N1, 0, i + 1) with
    | inl x =>
      rw [hp] at p0
      exact p0.pre a1 a2 (by rw [len1]; omega)
    | inr e =>
      rw [hp] at p0
      obtain ⟨d, G2, K2, D, Q2, F2, b1, b2, b3, b4, b5, b6, b7, b8, b9, b10, b11, bL, M, b12⟩ := p0
      have hN := b3.2.2.1
      have hC' : isC e.1 (max F0 F2) r K0.length (2 * (4 - b) + 3) C := by rw [b12]; exact hC.mo _ _ _ _ _ _ _ (Nat.le_max_left _ _) (Nat.le_refl _)
      have hD' : isC (e.1 ++ []) (max F0 F2) e.2.1 (K0 ++ C).length (2 * (4 - b) + 3 - 1) D := b5.mo _ _ _ _ _ _ _ (Nat.le_max_right _ _) (by omega)
      rw [List.append_nil, List.length_append] at hD'
      have b3' : cYs S G2 B n t N w K2 (st ++ (Q2 ++ [kK t i]).reverse) e.2.2 := by
        rw [List.reverse_append, ← List.append_assoc]
        exact b3
      have p3 := P4 G2 K2 K0 (C ++ D ++ [(kK t i, 0)]) A (Q2 ++ [kK t i]) (e.1 ++ [(3, r, e.2.1, kK t i, 0)]) (e.1.length : Int) (max F0 F2 + 1) i0 e.2.2 (it + (1 + d)) st b b3' (by
          rw [List.map_append, ← List.append_assoc, b4]
          simp only [List.append_assoc, List.map_cons, List.map_nil]
          rfl) (isC_new (by omega) (.inr (.inr (.inl ⟨rfl, C, D, hC', hD', rfl⟩)))) (lf_sg c' bL hL) (by simp only [List.length_append, List.length_singleton]; omega) hK (fun x hx => by
          rw [List.mem_append, List.mem_singleton] at hx
          rcases hx with q | q
          · have := b7 x q; omega
          · rw [q]; omega) (by rw [len1]; omega) (by omega) hb hb4 hl hbt b10 (by omega)
      show pok (pF t F 4 b (e.1 ++ [(3, r, e.2.1, kK t i, 0)], (e.1.length : Int), e.2.2)) _ _
      have b2' : xY st.length G1 G2 := b2.mo (by rw [len1]; omega)
      cases hq : pF t F 4 b (e.1 ++ [(3, r, e.2.1, kK t i, 0)], (e.1.length : Int), e.2.2) with
      | inl x =>
        rw [hq] at p3
        exact p3.pre (a1.tr b1) (a2.tr b2') (Nat.le_refl _)
      | inr e' =>
        rw [hq] at p3
        obtain ⟨d', G3, K2, C2, Q2, F3, c1, c2, c3, c4, c5, c6, c7, c8, c9, c10, c11, cL, M2, c12⟩ := p3
        exact ⟨1 + d + d', G3, K2, C2, Q2, F3, (a1.tr b1).tr c1, (a2.tr b2').tr c2, c3, c4, c5, c6, c7, c8, by omega, c10, by omega, cL, M ++ ([(3, r, e.2.1, kK t i, 0)] ++ M2), by rw [c12, b12]; simp only [List.append_assoc]⟩
  · rw [if_neg c]
    exact ⟨0, G, K, C, Q, F0, .id, .id, h, hE, hC, hCl, hQ, hQ1, hi, by show cStr (kK t i) < 1; rw [cStr_0 (cStr_n2 hk2) c]; decide, Nat.le_refl _, hL, [], by rw [List.append_nil]⟩
end
