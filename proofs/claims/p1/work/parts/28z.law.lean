noncomputable def xtl : List (Nat × xo) := xtl_0 ++ xtl_1 ++ xtl_2 ++ xtl_3 ++ xtl_4 ++ xtl_5 ++ xtl_6 ++ xtl_7 ++ xtl_8 ++ xtl_9 ++ xtl_10 ++ xtl_11 ++ xtl_12 ++ xtl_13 ++ xtl_14 ++ xtl_15 ++ xtl_16 ++ xtl_17 ++ xtl_18
noncomputable def xt_2000 : xmt := (nat_lit 6, nat_lit 8, none, xtl)
theorem xtl_ok : xtl.all (fun r => decide (xo_of xj_lr r.1 = some r.2)) = true := by
  unfold xtl
  simp only [List.all_append, xtl_0_ok, xtl_1_ok, xtl_2_ok, xtl_3_ok, xtl_4_ok, xtl_5_ok, xtl_6_ok, xtl_7_ok, xtl_8_ok, xtl_9_ok, xtl_10_ok, xtl_11_ok, xtl_12_ok, xtl_13_ok, xtl_14_ok, xtl_15_ok, xtl_16_ok, xtl_17_ok, xtl_18_ok, Bool.and_self]
theorem xlaw_ok : xrok xj_lr none xt_2000 := ⟨rfl, (by decide : (6 : Nat) ≤ 18), rfl, fun r hr => of_decide_eq_true (List.all_eq_true.mp xtl_ok r hr)⟩
