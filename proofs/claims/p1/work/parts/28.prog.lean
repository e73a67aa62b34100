/-- all of them -/
noncomputable def xTl : List (Nat × xmt) := xc_0 ++ xc_1 ++ xc_2 ++ xc_3 ++ xc_4 ++ xc_5 ++ xc_6
noncomputable def xP : Nat → Option xmt := xfind xTl
theorem xTl_ok : xTl.all xchk = true := by
  unfold xTl
  simp only [List.all_append, xc_0_ok, xc_1_ok, xc_2_ok, xc_3_ok, xc_4_ok, xc_5_ok, xc_6_ok, Bool.and_self]
theorem xP_ok : xpok xP := by
  intro j m h
  have hm := xfind_ok _ _ _ h
  have hc := List.all_eq_true.mp xTl_ok _ hm
  unfold xchk at hc
  split at hc
  · rename_i row hr
    exact ⟨row, hr, xmchk_ok hc⟩
  · cases hc
