/-- a handler that begins with a long astore -/
theorem xK_han2 {d : Nat} {X : xj_X} {row : xj_mR} {pc i k : Nat} {lv l2 : xj_L} {rest : List Value} {M1 : xj_M} {Q : xj_R → xj_M → Prop} {t : Nat × Nat × Nat × Nat × Nat} (hX : X.1 = some t) (hc : t.1 ≤ pc ∧ pc < t.2.1 ∧ k = t.2.2.2.2) (hd : decode row.2.2.1 t.2.2.1 = .ok (.astore i, 2)) (hi : i < row.2.2.2.1) (hk : xkp i lv l2) (kt : xW d X row (t.2.2.1 + 2, l2, [], M1) Q) : yxK d X row false pc lv rest Q (.inr k) M1 := by
  refine ⟨rfl, ?_⟩
  unfold xj_hand
  rw [hX]
  simp only
  rw [if_pos hc, hd]
  simp only
  rw [if_pos hi]
  simp only
  have e : (xj_s1 lv i Value.null).tail = l2 := hk
  rw [e]
  exact kt
