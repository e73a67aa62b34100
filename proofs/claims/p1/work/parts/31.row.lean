theorem xv346 : xchk (346, xt_346) = true := by decide +kernel
theorem xr346 : ∃ row, xj_row 346 = some row ∧ xrok row none xt_346 ∧ xj_tab 346 = none ∧ row.2.2.2.1 = 4 := by
  have h := xv346
  have ht : xj_tab 346 = none := rfl
  unfold xchk at h
  split at h
  · rename_i row hr
    have h2 := xmchk_ok h
    rw [ht] at h2
    exact ⟨row, hr, h2, ht, h2.1.symm⟩
  · cases h
