theorem i_vc : Claimed_1_1 ∧ Claimed_1_2 := xj_claim (fun xs h => by
  obtain ⟨n, d, Mf, h1, h2, h3, h4⟩ := xgood6 xs h
  exact ⟨n, d, Mf, by omega, h2, by omega, by omega⟩)
