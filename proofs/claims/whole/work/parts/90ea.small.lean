/-! WHOLE: small -/
theorem cHs.ss {S : Nat → Nat × Nat × Nat} {G : xG_} {A n : Nat} {H : sHs} (h : cHs S G A H n) : cSs S := by
  obtain ⟨T, lns, hr, tx, kp, mt, pl, rf⟩ := H
  exact h.1.1
