/-! THE END -/
theorem i_vc : Claimed_1_1 ∧ Claimed_1_2 := xj_claim (xgood_of (xpure_of gg))
