/-! WHOLE IS A STATEMENT OF FUNCTIONS: what the law's mirror answers -/
def xpure : Prop := ∀ xs : List Int32, xs.length ≤ 3072 → ∃ (f : Nat) (Mf : xj_M), f2000 xs f ([], 0) = some (1, Mf) ∧ Mf.1.length ≤ 601024 ∧ Mf.2 ≤ 7293034
theorem xgood_of (h : xpure) : xj_good := by
  intro xs hx
  obtain ⟨f, Mf, h1, h2, h3⟩ := h xs hx
  obtain ⟨r, M', ⟨rfl, rfl, -⟩, n0, hn⟩ := k2000 (d := 0) h1
  exact ⟨n0, 260, _, by decide, hn n0 n0 (Nat.le_refl _) (Nat.le_refl _), h2, h3⟩
