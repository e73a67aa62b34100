/-! EXPRESSIONS of themselves: what they read and make is bounded -/
theorem pok_i {α : Type} {x : Nat ⊕ α} {P : Nat → Prop} {Q : α → Prop} (h1 : ∀ w, x = .inl w → P w) (h2 : ∀ a, x = .inr a → Q a) : pok x P Q := by
  cases x with
  | inl w => exact h1 w rfl
  | inr a => exact h2 a rfl
theorem pbind_inr {α β : Type} {x : Nat ⊕ α} {k : α → Nat ⊕ β} {b : β} (h : pbind x k = .inr b) : ∃ a, x = .inr a ∧ k a = .inr b := by
  cases x with
  | inl w => cases h
  | inr a => exact ⟨a, rfl, h⟩
theorem pVal_le {t : tStr} {i : Nat} {r : Int × Nat} (h : pVal t i = .inr r) : i < r.2 ∧ r.2 ≤ i + 2 := by
  unfold pVal at h
  repeat' split at h
  all_goals first
    | (cases h; done)
    | (cases h; simp only; omega)
theorem pVar_le {t : tStr} {V : List (Int × Nat)} {i : Nat} {r : Int × List (Int × Nat) × Nat} (h : pVar t V i = .inr r) : r.2.2 = i + 1 ∧ V.length ≤ r.2.1.length ∧ (V.length ≤ 8 → r.2.1.length ≤ 8) := by
  unfold pVar at h
  split at h
  · cases h
  split at h
  · cases h
  split at h
  · split at h
    · cases h
    · cases h
      refine ⟨rfl, ?_, fun q => ?_⟩
      · show _ ≤ (V ++ [_]).length
        rw [List.length_append]; omega
      · show (V ++ [_]).length ≤ 8
        rw [List.length_append]
        show V.length + 1 ≤ 8
        omega
  · cases h
    exact ⟨rfl, Nat.le_refl _, id⟩
theorem pNeed_le {t : tStr} {c : Int} {i j : Nat} (h : pNeed t c i = .inr j) : j = i + 1 ∧ kK t i = c := by
  unfold pNeed at h
  split at h
  · cases h; exact ⟨rfl, by assumption⟩
  · cases h
section
variable (t : tStr) (F b : Nat) (e : pEx)
theorem pX_0 : pX t (F + 1) 0 b e = if kK t e.2.2 = 2 then pbind (pVar t e.1 e.2.2) fun r => .inr (r.2.1, e.2.1 ++ [(2, r.1)], r.2.2)
    else if kK t e.2.2 = 40 then (if b = 4 then .inl (kS t e.2.2) else pbind (pX t F 1 (b + 1) (e.1, e.2.1, e.2.2 + 1)) fun e' => pbind (pNeed t 41 e'.2.2) fun i => .inr (e'.1, e'.2.1, i))
    else pbind (pVal t e.2.2) fun r => .inr (e.1, e.2.1 ++ [(1, r.1)], r.2) := rfl
theorem pX_1 : pX t (F + 1) 1 b e = pbind (pX t F 0 b e) fun e' => pX t F 2 b e' := rfl
theorem pX_2 : pX t (F + 1) 2 b e = pbind (pX t F 3 b e) fun e' => pX t F 4 b e' := rfl
theorem pX_3 : pX t (F + 1) 3 b e = if kK t e.2.2 = 42 ∨ kK t e.2.2 = 47 ∨ kK t e.2.2 = 37 then pbind (pX t F 0 b (e.1, e.2.1, e.2.2 + 1)) fun e' => pX t F 3 b (e'.1, e'.2.1 ++ [(3, kK t e.2.2)], e'.2.2)
    else .inr e := rfl
theorem pX_4 : pX t (F + 1) 4 b e = if kK t e.2.2 = 43 ∨ kK t e.2.2 = 45 then pbind (pX t F 0 b (e.1, e.2.1, e.2.2 + 1)) fun e1 => pbind (pX t F 3 b e1) fun e' => pX t F 4 b (e'.1, e'.2.1 ++ [(3, kK t e.2.2)], e'.2.2)
    else .inr e := rfl
end
theorem len1 {α : Type} (l : List α) (a : α) : (l ++ [a]).length = l.length + 1 := by rw [List.length_append]; rfl
theorem pX_le {t : tStr} : ∀ (F m b : Nat) (e x : pEx), m ≤ 4 → pX t F m b e = .inr x → e.2.2 ≤ x.2.2 ∧ (m ≤ 1 → e.2.2 < x.2.2) ∧ e.2.1.length ≤ x.2.1.length ∧ x.2.1.length + e.2.2 ≤ e.2.1.length + x.2.2 ∧ e.1.length ≤ x.1.length ∧ (e.1.length ≤ 8 → x.1.length ≤ 8) := by
  intro F
  induction F with
  | zero => intro m b e x _ h; cases h
  | succ F ih =>
    intro m b e x hm h
    match m, hm, h with
    | 0, _, h =>
      rw [pX_0] at h
      split at h
      · obtain ⟨r, h1, h2⟩ := pbind_inr h
        have := pVar_le h1
        cases h2
        simp only [len1]
        omega
      · split at h
        · split at h
          · cases h
          · obtain ⟨r, h1, h2⟩ := pbind_inr h
            obtain ⟨j, h3, h4⟩ := pbind_inr h2
            have h5 := ih _ _ _ _ (by omega) h1
            have h6 := pNeed_le h3
            cases h4
            simp only at h5 ⊢
            omega
        · obtain ⟨r, h1, h2⟩ := pbind_inr h
          have := pVal_le h1
          cases h2
          simp only [len1]
          omega
    | 1, _, h =>
      rw [pX_1] at h
      obtain ⟨r, h1, h2⟩ := pbind_inr h
      have h3 := ih _ _ _ _ (by omega) h1
      have h4 := ih _ _ _ _ (by omega) h2
      omega
    | 2, _, h =>
      rw [pX_2] at h
      obtain ⟨r, h1, h2⟩ := pbind_inr h
      have h3 := ih _ _ _ _ (by omega) h1
      have h4 := ih _ _ _ _ (by omega) h2
      omega
    | 3, _, h =>
      rw [pX_3] at h
      split at h
      · obtain ⟨r, h1, h2⟩ := pbind_inr h
        have h3 := ih _ _ _ _ (by omega) h1
        have h4 := ih _ _ _ _ (by omega) h2
        simp only [len1] at h3 h4
        omega
      · cases h; omega
    | 4, _, h =>
      rw [pX_4] at h
      split at h
      · obtain ⟨r, h1, h2⟩ := pbind_inr h
        obtain ⟨s, h5, h6⟩ := pbind_inr h2
        have h3 := ih _ _ _ _ (by omega) h1
        have h4 := ih _ _ _ _ (by omega) h5
        have h7 := ih _ _ _ _ (by omega) h6
        simp only [len1] at h3 h4 h7
        omega
      · cases h; omega
