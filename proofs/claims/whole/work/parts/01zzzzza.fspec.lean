/-! FORMULAS: what a text says -/
/-- nodes, the latest one's number, TOKEN -/
abbrev pFm : Type := List pNd × Int × Nat
def pOf (t : tStr) (b : Nat) (N : List pNd) (i : Nat) : Nat ⊕ pFm :=
  pbind (pOpen t b (i + 1)) fun j =>
  if (kK t i = 10 ∨ kK t i = 11) ∧ kK t j = 2 then
    pbind (pCell t j) fun a => pbind (pNeed t 58 a.2) fun k => pbind (pCell t k) fun c =>
    if c.1 % 6 < a.1 % 6 ∨ c.1 / 6 < a.1 / 6 then .inl (kS t k) else
    pbind (pNeed t 41 c.2) fun j => .inr (N ++ [(if kK t i = 11 then 4 else 5, a.1, c.1, 0, 0)], (N.length : Int), j)
  else
    pbind (pName t j) fun x => pbind (if kK t i = 10 then .inr ((0 : Int), x.2) else pbind (pNeed t 44 x.2) fun k => pNum t 4 k) fun k =>
    pbind (pNeed t 41 k.2) fun j => .inr (N ++ [(kK t i - 4, k.1, 0, 0, x.1)], (N.length : Int), j)
/-- 0 an operand, 1 a FORMULA, 2 what stands between weak signs, 3 strong signs, 4 weak signs; b brackets are open -/
def pF (t : tStr) : Nat → Nat → Nat → pFm → Nat ⊕ pFm
  | 0, _, _, _ => .inl 0
  | F + 1, 0, b, e =>
    if kK t e.2.2 = 2 then pbind (pCell t e.2.2) fun r => .inr (e.1 ++ [(2, r.1, 0, 0, 0)], (e.1.length : Int), r.2)
    else if kK t e.2.2 = 40 then pbind (pOpen t b e.2.2) fun i => pbind (pF t F 1 (b + 1) (e.1, 0, i)) fun e' => pbind (pNeed t 41 e'.2.2) fun i => .inr (e'.1, e'.2.1, i)
    else if kK t e.2.2 = 1 ∧ kC t e.2.2 = 348 then
      pbind (pOpen t b (e.2.2 + 1)) fun i => pbind (pF t F 1 (b + 1) (e.1, 0, i)) fun x => pbind (pNeed t 44 x.2.2) fun i => pbind (pF t F 1 (b + 1) (x.1, 0, i)) fun y =>
      pbind (pNeed t 44 y.2.2) fun i => pbind (pF t F 1 (b + 1) (y.1, 0, i)) fun z => pbind (pNeed t 41 z.2.2) fun i => .inr (z.1 ++ [(10, x.2.1, y.2.1, z.2.1, 0)], (z.1.length : Int), i)
    else if 10 ≤ kK t e.2.2 ∧ kK t e.2.2 ≤ 13 then pOf t b e.1 e.2.2
    else pbind (pVal t e.2.2) fun r => .inr (e.1 ++ [(1, 0, 0, 0, r.1)], (e.1.length : Int), r.2)
  | F + 1, 1, b, e => pbind (pF t F 2 b e) fun e' => pF t F 4 b e'
  | F + 1, 2, b, e => pbind (pF t F 0 b e) fun e' => pF t F 3 b e'
  | F + 1, 3, b, e =>
    if kK t e.2.2 = 42 ∨ kK t e.2.2 = 47 ∨ kK t e.2.2 = 37 then pbind (pF t F 0 b (e.1, 0, e.2.2 + 1)) fun y => pF t F 3 b (y.1 ++ [(3, e.2.1, y.2.1, kK t e.2.2, 0)], (y.1.length : Int), y.2.2)
    else .inr e
  | F + 1, _, b, e =>
    if kK t e.2.2 = 43 ∨ kK t e.2.2 = 45 then pbind (pF t F 2 b (e.1, 0, e.2.2 + 1)) fun y => pF t F 4 b (y.1 ++ [(3, e.2.1, y.2.1, kK t e.2.2, 0)], (y.1.length : Int), y.2.2)
    else .inr e
theorem pbind_in {α β : Type} {x : Nat ⊕ α} {k : α → Nat ⊕ β} {y : β} (h : pbind x k = .inr y) : ∃ a, x = .inr a ∧ k a = .inr y := by
  cases x with
  | inl w => cases h
  | inr a => exact ⟨a, rfl, h⟩
/-- a node's parts lie ahead of it -/
def wNd (N : List pNd) (k : Nat) (y : pNd) : Prop := (y.1 = 1 ∧ vOk y.2.2.2.2 ∨ y.1 = 2 ∧ 0 ≤ y.2.1 ∧ y.2.1 < 72 ∨ y.1 = 3 ∧ (0 ≤ y.2.1 ∧ y.2.1 < k) ∧ (0 ≤ y.2.2.1 ∧ y.2.2.1 < k) ∧ (y.2.2.2.1 = 42 ∨ y.2.2.2.1 = 47 ∨ y.2.2.2.1 = 37 ∨ y.2.2.2.1 = 43 ∨ y.2.2.2.1 = 45) ∨ (y.1 = 4 ∨ y.1 = 5) ∧ (0 ≤ y.2.1 ∧ y.2.1 < 72) ∧ (0 ≤ y.2.2.1 ∧ y.2.2.1 < 72) ∨ (y.1 = 6 ∧ y.2.1 = 0 ∨ 7 ≤ y.1 ∧ y.1 ≤ 9 ∧ 1 ≤ y.2.1 ∧ y.2.1 ≤ 4) ∨ y.1 = 10 ∧ (0 ≤ y.2.1 ∧ y.2.1 < k) ∧ (0 ≤ y.2.2.1 ∧ y.2.2.1 < k) ∧ 0 ≤ y.2.2.2.1 ∧ y.2.2.2.1 < k)
def wFm (N : List pNd) : Prop := ∀ k, k < N.length → wNd N k (N.getD k dNd)
theorem wFm.put {N : List pNd} {y : pNd} (h : wFm N) (hy : wNd N N.length y) : wFm (N ++ [y]) := by
  intro k hk
  rw [List.length_append] at hk
  have hk' : k < N.length + 1 := hk
  rw [getD_1]
  by_cases c : k = N.length
  · rw [if_pos c, c]; exact hy
  · rw [if_neg c]; exact h k (by omega)
theorem pCell_in {t : tStr} {i : Nat} {r : Int × Nat} (h : pCell t i = .inr r) : kK t i = 2 ∧ r = (kW t i, i + 1) ∧ kW t i ≠ -1 := by
  unfold pCell at h
  split at h
  · rename_i c
    cases h
    exact ⟨c.1, rfl, c.2⟩
  · cases h
theorem pOpen_in {t : tStr} {b i j : Nat} (h : pOpen t b i = .inr j) : kK t i = 40 ∧ b ≠ 4 ∧ j = i + 1 := by
  unfold pOpen at h
  split at h
  · rename_i c
    cases h
    exact ⟨c.1, c.2, rfl⟩
  · cases h
theorem pNeed_in {t : tStr} {c : Int} {i j : Nat} (h : pNeed t c i = .inr j) : kK t i = c ∧ j = i + 1 := by
  unfold pNeed at h
  split at h
  · rename_i hc
    cases h
    exact ⟨hc, rfl⟩
  · cases h
theorem pVal_in {t : tStr} {i : Nat} {r : Int × Nat} (h : pVal t i = .inr r) : i < r.2 := by
  unfold pVal at h
  split at h
  · cases h; exact Nat.lt_succ_self i
  · split at h
    · split at h
      · cases h; show i < i + 2; omega
      · cases h
    · split at h
      · cases h; exact Nat.lt_succ_self i
      · cases h
theorem pNum_in {t : tStr} {hi : Int} {i : Nat} {r : Int × Nat} (h : pNum t hi i = .inr r) : r.2 = i + 1 ∧ 1 ≤ r.1 ∧ r.1 ≤ hi := by
  unfold pNum at h
  split at h
  · rename_i c
    cases h
    exact ⟨rfl, c.2⟩
  · cases h
/-- CELLS among the TOKENS -/
def tCk (t : tStr) : Prop := (∀ i, kK t i = 2 → kW t i ≠ -1 → 0 ≤ kW t i ∧ kW t i < 72) ∧ tOk t
theorem pOf_le {t : tStr} (ht : tCk t) {b i : Nat} {N : List pNd} {x : pFm} (h : pOf t b N i = .inr x) (hk : 10 ≤ kK t i ∧ kK t i ≤ 13) (hN : wFm N) : i < x.2.2 ∧ N.length ≤ x.1.length ∧ x.1.length + i ≤ N.length + x.2.2 ∧ wFm x.1 ∧ 0 ≤ x.2.1 ∧ x.2.1 < x.1.length := by
  unfold pOf at h
  obtain ⟨j, h1, h⟩ := pbind_in h
  obtain ⟨a1, a2, a3⟩ := pOpen_in h1
  split at h
  · obtain ⟨a, h2, h⟩ := pbind_in h
    obtain ⟨k, h3, h⟩ := pbind_in h
    obtain ⟨c, h4, h⟩ := pbind_in h
    split at h
    · cases h
    · obtain ⟨m, h5, h⟩ := pbind_in h
      obtain ⟨b1, b2, b3⟩ := pCell_in h2
      obtain ⟨c1, c2, c3⟩ := pCell_in h4
      have d1 := (pNeed_in h3).2
      have d2 := (pNeed_in h5).2
      have e1 : a.2 = j + 1 := by rw [b2]
      have e2 : c.2 = k + 1 := by rw [c2]
      cases h
      simp only [List.length_append, List.length_singleton]
      have g1 := ht.1 _ b1 b3
      have g2 := ht.1 _ c1 c3
      have f1 : a.1 = kW t j := by rw [b2]
      have f2 : c.1 = kW t k := by rw [c2]
      refine ⟨by omega, by omega, by omega, hN.put ?_, by omega, by omega⟩
      refine .inr (.inr (.inr (.inl ⟨?_, ?_, ?_⟩)))
      · show (if kK t i = 11 then (4 : Int) else 5) = 4 ∨ (if kK t i = 11 then (4 : Int) else 5) = 5
        split
        · exact .inl rfl
        · exact .inr rfl
      · show 0 ≤ a.1 ∧ a.1 < 72
        rw [f1]; exact g1
      · show 0 ≤ c.1 ∧ c.1 < 72
        rw [f2]; exact g2
  · obtain ⟨y, h2, h⟩ := pbind_in h
    obtain ⟨k, h3, h⟩ := pbind_in h
    obtain ⟨m, h5, h⟩ := pbind_in h
    have b1 := (pName_le h2).1
    have d2 := (pNeed_in h5).2
    have k2 : y.2 ≤ k.2 ∧ (kK t i = 10 ∧ k.1 = 0 ∨ kK t i ≠ 10 ∧ 1 ≤ k.1 ∧ k.1 ≤ 4) := by
      split at h3
      · rename_i ck
        cases h3
        exact ⟨Nat.le_refl _, .inl ⟨ck, rfl⟩⟩
      · rename_i ck
        obtain ⟨z, h6, h3⟩ := pbind_in h3
        have := (pNeed_in h6).2
        have := pNum_in h3
        exact ⟨by omega, .inr ⟨ck, this.2⟩⟩
    cases h
    simp only [List.length_append, List.length_singleton]
    refine ⟨by omega, by omega, by omega, hN.put ?_, by omega, by omega⟩
    refine .inr (.inr (.inr (.inr (.inl ?_))))
    rcases k2.2 with ⟨g1, g2⟩ | ⟨g1, g2⟩
    · exact .inl ⟨by show kK t i - 4 = 6; omega, g2⟩
    · exact .inr ⟨by show 7 ≤ kK t i - 4; omega, by show kK t i - 4 ≤ 9; omega, g2⟩
section
variable {t : tStr} {F b : Nat} {e : pFm}
theorem pF_0 : pF t (F + 1) 0 b e = if kK t e.2.2 = 2 then pbind (pCell t e.2.2) fun r => .inr (e.1 ++ [(2, r.1, 0, 0, 0)], (e.1.length : Int), r.2)
    else if kK t e.2.2 = 40 then pbind (pOpen t b e.2.2) fun i => pbind (pF t F 1 (b + 1) (e.1, 0, i)) fun e' => pbind (pNeed t 41 e'.2.2) fun i => .inr (e'.1, e'.2.1, i)
    else if kK t e.2.2 = 1 ∧ kC t e.2.2 = 348 then
      pbind (pOpen t b (e.2.2 + 1)) fun i => pbind (pF t F 1 (b + 1) (e.1, 0, i)) fun x => pbind (pNeed t 44 x.2.2) fun i => pbind (pF t F 1 (b + 1) (x.1, 0, i)) fun y =>
      pbind (pNeed t 44 y.2.2) fun i => pbind (pF t F 1 (b + 1) (y.1, 0, i)) fun z => pbind (pNeed t 41 z.2.2) fun i => .inr (z.1 ++ [(10, x.2.1, y.2.1, z.2.1, 0)], (z.1.length : Int), i)
    else if 10 ≤ kK t e.2.2 ∧ kK t e.2.2 ≤ 13 then pOf t b e.1 e.2.2
    else pbind (pVal t e.2.2) fun r => .inr (e.1 ++ [(1, 0, 0, 0, r.1)], (e.1.length : Int), r.2) := rfl
theorem pF_1 : pF t (F + 1) 1 b e = pbind (pF t F 2 b e) fun e' => pF t F 4 b e' := rfl
theorem pF_2 : pF t (F + 1) 2 b e = pbind (pF t F 0 b e) fun e' => pF t F 3 b e' := rfl
theorem pF_3 : pF t (F + 1) 3 b e = if kK t e.2.2 = 42 ∨ kK t e.2.2 = 47 ∨ kK t e.2.2 = 37 then pbind (pF t F 0 b (e.1, 0, e.2.2 + 1)) fun y => pF t F 3 b (y.1 ++ [(3, e.2.1, y.2.1, kK t e.2.2, 0)], (y.1.length : Int), y.2.2)
    else .inr e := rfl
theorem pF_4 : pF t (F + 1) 4 b e = if kK t e.2.2 = 43 ∨ kK t e.2.2 = 45 then pbind (pF t F 2 b (e.1, 0, e.2.2 + 1)) fun y => pF t F 4 b (y.1 ++ [(3, e.2.1, y.2.1, kK t e.2.2, 0)], (y.1.length : Int), y.2.2)
    else .inr e := rfl
end
theorem pF_le {t : tStr} (ht : tCk t) : ∀ (F m b : Nat) (e x : pFm), m ≤ 4 → pF t F m b e = .inr x → wFm e.1 → (3 ≤ m → 0 ≤ e.2.1 ∧ e.2.1 < e.1.length) → e.2.2 ≤ x.2.2 ∧ (m ≤ 2 → e.2.2 < x.2.2) ∧ e.1.length ≤ x.1.length ∧ x.1.length + e.2.2 ≤ e.1.length + x.2.2 ∧ wFm x.1 ∧ 0 ≤ x.2.1 ∧ x.2.1 < x.1.length := by
  intro F
  induction F with
  | zero => intro m b e x _ h; cases h
  | succ F ih =>
    intro m b e x hm h hw hx
    match m, hm with
    | 0, _ =>
      rw [pF_0] at h
      split at h
      · obtain ⟨r, h1, h⟩ := pbind_in h
        obtain ⟨b1, b2, b3⟩ := pCell_in h1
        have e1 : r.2 = e.2.2 + 1 := by rw [b2]
        have g1 := ht.1 _ b1 b3
        have f1 : r.1 = kW t e.2.2 := by rw [b2]
        cases h
        simp only [List.length_append, List.length_singleton]
        refine ⟨by omega, by omega, by omega, by omega, hw.put (.inr (.inl ⟨rfl, ?_⟩)), by omega, by omega⟩
        show 0 ≤ r.1 ∧ r.1 < 72
        rw [f1]; exact g1
      · split at h
        · obtain ⟨j, h1, h⟩ := pbind_in h
          obtain ⟨y, h2, h⟩ := pbind_in h
          obtain ⟨k, h3, h⟩ := pbind_in h
          have a1 := (pOpen_in h1).2.2
          have a3 := (pNeed_in h3).2
          obtain ⟨c1, c2, c3, c4, c5, c6, c7⟩ := ih 1 (b + 1) _ y (by decide) h2 hw (fun q => absurd q (by decide))
          cases h
          simp only at c1 c2 c3 c4 c6 c7
          exact ⟨by show e.2.2 ≤ k; omega, fun _ => by show e.2.2 < k; omega, c3, by show y.1.length + e.2.2 ≤ e.1.length + k; omega, c5, c6, c7⟩
        · split at h
          · obtain ⟨j, h1, h⟩ := pbind_in h
            obtain ⟨y1, h2, h⟩ := pbind_in h
            obtain ⟨k1, h3, h⟩ := pbind_in h
            obtain ⟨y2, h4, h⟩ := pbind_in h
            obtain ⟨k2, h5, h⟩ := pbind_in h
            obtain ⟨y3, h6, h⟩ := pbind_in h
            obtain ⟨k3, h7, h⟩ := pbind_in h
            have a1 := (pOpen_in h1).2.2
            have a2 := (pNeed_in h3).2
            have a3 := (pNeed_in h5).2
            have a4 := (pNeed_in h7).2
            obtain ⟨c1, c2, c3, c4, c5, c6, c7⟩ := ih 1 (b + 1) _ y1 (by decide) h2 hw (fun q => absurd q (by decide))
            obtain ⟨d1, d2, d3, d4, d5, d6, d7⟩ := ih 1 (b + 1) _ y2 (by decide) h4 c5 (fun q => absurd q (by decide))
            obtain ⟨f1, f2, f3, f4, f5, f6, f7⟩ := ih 1 (b + 1) _ y3 (by decide) h6 d5 (fun q => absurd q (by decide))
            simp only at c1 c2 c3 c4 d1 d2 d3 d4 f1 f2 f3 f4
            cases h
            simp only [List.length_append, List.length_singleton]
            refine ⟨by omega, by omega, by omega, by omega, f5.put (.inr (.inr (.inr (.inr (.inr ⟨rfl, ?_, ?_, ?_⟩))))), by omega, by omega⟩
            · show 0 ≤ y1.2.1 ∧ y1.2.1 < _; omega
            · show 0 ≤ y2.2.1 ∧ y2.2.1 < _; omega
            · show 0 ≤ y3.2.1 ∧ y3.2.1 < _; omega
          · split at h
            · rename_i c
              obtain ⟨c1, c2, c3, c4, c5, c6⟩ := pOf_le ht h c hw
              exact ⟨by omega, fun _ => c1, c2, c3, c4, c5, c6⟩
            · obtain ⟨r, h1, h⟩ := pbind_in h
              have := pVal_in h1
              cases h
              simp only [List.length_append, List.length_singleton]
              exact ⟨by omega, by omega, by omega, by omega, hw.put (.inl ⟨rfl, ht.2 _ _ h1⟩), by omega, by omega⟩
    | 1, _ =>
      rw [pF_1] at h
      obtain ⟨y, h1, h⟩ := pbind_in h
      obtain ⟨c1, c2, c3, c4, c5, c6⟩ := ih 2 b e y (by decide) h1 hw (fun q => absurd q (by decide))
      obtain ⟨d1, d2, d3, d4, d5, d6⟩ := ih 4 b y x (by decide) h c5 (fun _ => c6)
      exact ⟨by omega, by omega, by omega, by omega, d5, d6⟩
    | 2, _ =>
      rw [pF_2] at h
      obtain ⟨y, h1, h⟩ := pbind_in h
      obtain ⟨c1, c2, c3, c4, c5, c6⟩ := ih 0 b e y (by decide) h1 hw (fun q => absurd q (by decide))
      obtain ⟨d1, d2, d3, d4, d5, d6⟩ := ih 3 b y x (by decide) h c5 (fun _ => c6)
      exact ⟨by omega, by omega, by omega, by omega, d5, d6⟩
    | 3, _ =>
      rw [pF_3] at h
      have hx0 := hx (by decide)
      split at h
      · rename_i cs
        obtain ⟨y, h1, h⟩ := pbind_in h
        obtain ⟨c1, c2, c3, c4, c5, c6⟩ := ih 0 b _ y (by decide) h1 hw (fun q => absurd q (by decide))
        simp only at c1 c2 c3 c4
        obtain ⟨d1, d2, d3, d4, d5, d6⟩ := ih 3 b _ x (by decide) h (c5.put (.inr (.inr (.inl ⟨rfl, by show 0 ≤ e.2.1 ∧ e.2.1 < _; omega, by show 0 ≤ y.2.1 ∧ y.2.1 < _; omega, by simp only; omega⟩)))) (fun _ => by
          rw [List.length_append, List.length_singleton]
          show 0 ≤ (y.1.length : Int) ∧ (y.1.length : Int) < _
          omega)
        simp only [List.length_append, List.length_singleton] at d1 d2 d3 d4
        exact ⟨by omega, by omega, by omega, by omega, d5, d6⟩
      · cases h
        exact ⟨by omega, by omega, by omega, by omega, hw, hx0⟩
    | 4, _ =>
      rw [pF_4] at h
      have hx0 := hx (by decide)
      split at h
      · rename_i cs
        obtain ⟨y, h1, h⟩ := pbind_in h
        obtain ⟨c1, c2, c3, c4, c5, c6⟩ := ih 2 b _ y (by decide) h1 hw (fun q => absurd q (by decide))
        simp only at c1 c2 c3 c4
        obtain ⟨d1, d2, d3, d4, d5, d6⟩ := ih 4 b _ x (by decide) h (c5.put (.inr (.inr (.inl ⟨rfl, by show 0 ≤ e.2.1 ∧ e.2.1 < _; omega, by show 0 ≤ y.2.1 ∧ y.2.1 < _; omega, by simp only; omega⟩)))) (fun _ => by
          rw [List.length_append, List.length_singleton]
          show 0 ≤ (y.1.length : Int) ∧ (y.1.length : Int) < _
          omega)
        simp only [List.length_append, List.length_singleton] at d1 d2 d3 d4
        exact ⟨by omega, by omega, by omega, by omega, d5, d6⟩
      · cases h
        exact ⟨by omega, by omega, by omega, by omega, hw, hx0⟩
