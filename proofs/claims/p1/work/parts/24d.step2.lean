section
variable {lv' st' : List xa} {A : xme} {lv : xj_L} {st : List Value} {M : xj_M} {N : xNa} {s a b nx : Nat}
theorem xG8_ok (hs8 : Nat.beq s 8 = false) (h : xG8 s nx lv' st' A = some N) (hl : xlr lv' lv) (hs : xvs st' st) (hA : xmr A M) : ∃ x y r, st = .int y :: .int x :: r ∧ xNr N (.inl (nx, lv, .int (xi2 s x y) :: r, M)) := by
  unfold xG8 at h
  rw [hs8, xif_f] at h
  simp only [xG8n, xw_eq] at h
  split at h
  · rename_i y x r
    obtain ⟨c, h⟩ := xif_some h
    obtain ⟨c1, c2⟩ := xif_and c
    obtain ⟨w, ws, rfl, hw, hws⟩ := xvs_c hs
    obtain ⟨z, zs, rfl, hz, hzs⟩ := xvs_c hws
    obtain ⟨y', rfl, h3, h4⟩ := xv_i hw (xbeq c2)
    obtain ⟨x', rfl, h5, h6⟩ := xv_i hz (xbeq c1)
    exact ⟨x', y', zs, rfl, xNr_go h hl ⟨xr2_ok s h5 h6 h3 h4, hzs⟩ hA⟩
  · cases h
theorem xG8_8 (h : xG8 8 nx lv' st' A = some N) (hl : xlr lv' lv) (hs : xvs st' st) (hA : xmr A M) : ∃ x y r, st = .int y :: .int x :: r ∧ y ≠ 0 ∧ xNr N (.inl (nx, lv, .int (x - x / y * y) :: r, M)) := by
  replace h : xG8r nx lv' st' A = some N := h
  simp only [xG8r, xg_eq] at h
  split at h
  · rename_i y x r
    obtain ⟨c, h⟩ := xif_some h
    obtain ⟨c1, c2⟩ := xif_and c
    obtain ⟨c3, h⟩ := xif_some h
    obtain ⟨c3, c4⟩ := xif_and c3
    obtain ⟨c5, c6⟩ := xif_and c3
    obtain ⟨w, ws, rfl, hw, hws⟩ := xvs_c hs
    obtain ⟨z, zs, rfl, hz, hzs⟩ := xvs_c hws
    obtain ⟨y', rfl, h3, h4⟩ := xv_i hw (xbeq c2)
    obtain ⟨x', rfl, h5, h6⟩ := xv_i hz (xbeq c1)
    have c5 := xcon_eq c5
    have c6 := xcon_eq c6
    have e1 : xa_e x' = x.2.1 := by omega
    have e2 : xa_e y' = y.2.1 := by omega
    rw [← e1, ← e2, xa_d_e, xa_d_e] at h
    refine ⟨x', y', zs, rfl, fun q => ?_, xNr_go h hl ⟨xv_ci _, hzs⟩ hA⟩
    subst q
    rw [xa_0] at e2
    rw [← e2] at c4
    cases c4
  · cases h
theorem xi2l (x : Int32) : xa_E x.toInt64 = xa_e x + 9223372034707292160 := by
  have h1 := xa_e_int x; have h2 := xa_E_int x.toInt64
  rw [Int32.toInt_toInt64] at h2
  omega
theorem xG9_0 (h : xG9 0 nx lv' st' A = some N) (hl : xlr lv' lv) (hs : xvs st' st) (hA : xmr A M) : ∃ x r, st = .int x :: r ∧ xNr N (.inl (nx, lv, .int x.toInt8.toInt32 :: r, M)) := by
  replace h : xG9a 0 nx lv' st' A = some N := h
  simp only [xG9a, xw_eq] at h
  split at h
  · rename_i x r
    obtain ⟨c, h⟩ := xif_some h
    obtain ⟨w, ws, rfl, hw, hws⟩ := xvs_c hs
    obtain ⟨y, rfl, h3, h4⟩ := xv_i hw (xbeq c)
    exact ⟨y, ws, rfl, xNr_go h hl ⟨xnw_ok (k := 1) h3 h4, hws⟩ hA⟩
  · cases h
theorem xi2c (x : Int32) : (x.toUInt32 % 65536).toInt32 = x.toUInt32.toUInt16.toUInt32.toInt32 := by
  have : x.toUInt32 % 65536 = x.toUInt32.toUInt16.toUInt32 := by
    apply UInt32.toNat_inj.mp
    rw [UInt32.toNat_mod]
    simp
  rw [this]
theorem xG9_1 (h : xG9 1 nx lv' st' A = some N) (hl : xlr lv' lv) (hs : xvs st' st) (hA : xmr A M) : ∃ x r, st = .int x :: r ∧ xNr N (.inl (nx, lv, .int (x.toUInt32 % 65536).toInt32 :: r, M)) := by
  replace h : xG9a 1 nx lv' st' A = some N := h
  simp only [xG9a, xw_eq] at h
  split at h
  · rename_i x r
    obtain ⟨c, h⟩ := xif_some h
    obtain ⟨w, ws, rfl, hw, hws⟩ := xvs_c hs
    obtain ⟨y, rfl, h3, h4⟩ := xv_i hw (xbeq c)
    exact ⟨y, ws, rfl, xNr_go h hl ⟨by rw [xi2c]; exact xnw_ok (k := 2) h3 h4, hws⟩ hA⟩
  · cases h
theorem xG9_2 (h : xG9 2 nx lv' st' A = some N) (hl : xlr lv' lv) (hs : xvs st' st) (hA : xmr A M) : ∃ x r, st = .int x :: r ∧ xNr N (.inl (nx, lv, .long x.toInt64 :: r, M)) := by
  replace h : xG9a 2 nx lv' st' A = some N := h
  simp only [xG9a, xw_eq] at h
  split at h
  · rename_i x r
    obtain ⟨c, h⟩ := xif_some h
    obtain ⟨w, ws, rfl, hw, hws⟩ := xvs_c hs
    obtain ⟨y, rfl, h3, h4⟩ := xv_i hw (xbeq c)
    have e := xi2l y
    refine ⟨y, ws, rfl, xNr_go h hl ⟨xv_ml rfl ?_ ?_, hws⟩ hA⟩
    · show x.2.1 + 9223372034707292160 ≤ _; omega
    · show _ ≤ x.2.2 + 9223372034707292160; omega
  · cases h
theorem xG9_l (hs2 : Nat.ble s 2 = false) (hs7 : Nat.beq s 7 = false) (hs6 : Nat.beq s 6 = false) (h : xG9 s nx lv' st' A = some N) (hl : xlr lv' lv) (hs : xvs st' st) (hA : xmr A M) : ∃ x y r, st = .long y :: .long x :: r ∧ xNr N (.inl (nx, lv, .long (xj2 (s - 3) x y) :: r, M)) := by
  unfold xG9 at h
  rw [hs2, xif_f, hs7, xif_f, hs6, xif_f] at h
  simp only [xG9d, xw_eq] at h
  split at h
  · rename_i y x r
    obtain ⟨c, h⟩ := xif_some h
    obtain ⟨c1, c2⟩ := xif_and c
    obtain ⟨w, ws, rfl, hw, hws⟩ := xvs_c hs
    obtain ⟨z, zs, rfl, hz, hzs⟩ := xvs_c hws
    obtain ⟨y', rfl, h3, h4⟩ := xv_l hw (xbeq c2)
    obtain ⟨x', rfl, h5, h6⟩ := xv_l hz (xbeq c1)
    exact ⟨x', y', zs, rfl, xNr_go h hl ⟨xR2_ok _ h5 h6 h3 h4, hzs⟩ hA⟩
  · cases h
theorem xlc_ok {x y v : xa} {u w : Int64} (hx1 : x.2.1 ≤ xa_E u) (hx2 : xa_E u ≤ x.2.2) (hy1 : y.2.1 ≤ xa_E w) (hy2 : xa_E w ≤ y.2.2) (h : xlc x y = some v) : xv v (.int (lg_cmp u w)) := by
  have e1 := xa_E_int u
  have e2 := xa_E_int w
  have p1 : xa_e (1 : Int32) = 2147483649 := by decide
  have p0 : xa_e (0 : Int32) = 2147483648 := by decide
  have pm : xa_e (-1 : Int32) = 2147483647 := by decide
  unfold xlc at h
  cases c1 : Nat.blt x.2.2 y.2.1 with
  | true =>
    rw [c1, xif_t] at h; cases h
    have c1 : x.2.2 < y.2.1 := xblt c1
    have : lg_cmp u w = -1 := by
      unfold lg_cmp
      rw [if_neg (fun q => by have : w.toInt < u.toInt := Int64.lt_iff_toInt_lt.mp q; omega), if_neg (fun q => by subst q; omega)]
    rw [this]
    exact ⟨rfl, by rw [pm]; exact Nat.le_refl _, by rw [pm]; exact Nat.le_refl _⟩
  | false =>
    rw [c1, xif_f] at h
    cases c2 : Nat.blt y.2.2 x.2.1 with
    | true =>
      rw [c2, xif_t] at h; cases h
      have c2 : y.2.2 < x.2.1 := xblt c2
      have : lg_cmp u w = 1 := by
        unfold lg_cmp
        rw [if_pos (Int64.lt_iff_toInt_lt.mpr (by omega))]
      rw [this]
      exact ⟨rfl, by rw [p1]; exact Nat.le_refl _, by rw [p1]; exact Nat.le_refl _⟩
    | false =>
      rw [c2, xif_f] at h
      obtain ⟨c, h⟩ := xif_some h
      cases h
      obtain ⟨d1, d2⟩ := xif_and c
      have d1 := xcon_eq d1
      have d2 := xcon_eq d2
      have n1 : ¬ x.2.2 < y.2.1 := fun q => by have : Nat.blt x.2.2 y.2.1 = true := Nat.ble_eq_true_of_le q; rw [c1] at this; cases this
      have n2 : ¬ y.2.2 < x.2.1 := fun q => by have : Nat.blt y.2.2 x.2.1 = true := Nat.ble_eq_true_of_le q; rw [c2] at this; cases this
      have e : u = w := by
        have : xa_E u = xa_E w := by omega
        rw [← xa_D_E u, this, xa_D_E]
      have : lg_cmp u w = 0 := by
        unfold lg_cmp
        rw [if_neg (fun q => by have : w.toInt < u.toInt := Int64.lt_iff_toInt_lt.mp q; rw [e] at this; omega), if_pos e]
      rw [this]
      exact ⟨rfl, by rw [p0]; exact Nat.le_refl _, by rw [p0]; exact Nat.le_refl _⟩
theorem xG9_6 (h : xG9 6 nx lv' st' A = some N) (hl : xlr lv' lv) (hs : xvs st' st) (hA : xmr A M) : ∃ x y r, st = .long y :: .long x :: r ∧ xNr N (.inl (nx, lv, .int (lg_cmp x y) :: r, M)) := by
  replace h : xG9c nx lv' st' A = some N := h
  simp only [xG9c] at h
  split at h
  · rename_i y x r
    obtain ⟨c, h⟩ := xif_some h
    obtain ⟨c1, c2⟩ := xif_and c
    obtain ⟨w, ws, rfl, hw, hws⟩ := xvs_c hs
    obtain ⟨z, zs, rfl, hz, hzs⟩ := xvs_c hws
    obtain ⟨y', rfl, h3, h4⟩ := xv_l hw (xbeq c2)
    obtain ⟨x', rfl, h5, h6⟩ := xv_l hz (xbeq c1)
    split at h
    · rename_i v hv
      exact ⟨x', y', zs, rfl, xNr_go h hl ⟨xlc_ok h5 h6 h3 h4 hv, hzs⟩ hA⟩
    · cases h
  · cases h
theorem xG9_7 (h : xG9 7 nx lv' st' A = some N) (hl : xlr lv' lv) (hs : xvs st' st) (hA : xmr A M) : ∃ x y r, st = .int y :: .long x :: r ∧ xNr N (.inl (nx, lv, .long (x >>> (y.toInt64 &&& 63)) :: r, M)) := by
  replace h : xG9b nx lv' st' A = some N := h
  simp only [xG9b, xg_eq] at h
  split at h
  · rename_i y x r
    obtain ⟨c, h⟩ := xif_some h
    obtain ⟨c1, c2⟩ := xif_and c
    obtain ⟨w, ws, rfl, hw, hws⟩ := xvs_c hs
    obtain ⟨z, zs, rfl, hz, hzs⟩ := xvs_c hws
    obtain ⟨y', rfl, h3, h4⟩ := xv_i hw (xbeq c2)
    obtain ⟨x', rfl, h5, h6⟩ := xv_l hz (xbeq c1)
    cases d : xif (xcon x) (xcon y) false with
    | true =>
      rw [d, xif_t] at h
      obtain ⟨d1, d2⟩ := xif_and d
      have d1 := xcon_eq d1
      have d2 := xcon_eq d2
      have e1 : xa_E x' = x.2.1 := by omega
      have e2 : xa_e y' = y.2.1 := by omega
      rw [← e1, ← e2, xa_D_E, xa_d_e] at h
      exact ⟨x', y', zs, rfl, xNr_go h hl ⟨xv_cl _, hzs⟩ hA⟩
    | false =>
      rw [d, xif_f] at h
      exact ⟨x', y', zs, rfl, xNr_go h hl ⟨xv_Top, hzs⟩ hA⟩
  · cases h
theorem xG10_0 (h : xG10 0 nx lv' st' A = some N) (hl : xlr lv' lv) (hs : xvs st' st) (hA : xmr A M) : ∃ x r, st = x :: r ∧ x.category = 1 ∧ xNr N (.inl (nx, lv, x :: x :: r, M)) := by
  simp only [xG10] at h
  split at h
  · rename_i x r
    obtain ⟨w, ws, rfl, hw, hws⟩ := xvs_c hs
    cases d : Nat.beq x.1 1 with
    | true => rw [d] at h; cases h
    | false =>
      rw [d, xif_f] at h
      exact ⟨w, ws, rfl, by rw [xv_cat hw, if_neg (xnbeq d)], xNr_go h hl ⟨hw, hw, hws⟩ hA⟩
  · cases h
theorem xG10_1 (h : xG10 1 nx lv' st' A = some N) (hl : xlr lv' lv) (hs : xvs st' st) (hA : xmr A M) : ∃ x y r, st = x :: y :: r ∧ x.category = 1 ∧ y.category = 1 ∧ xNr N (.inl (nx, lv, x :: y :: x :: y :: r, M)) := by
  simp only [xG10] at h
  split at h
  · rename_i x y r
    obtain ⟨w, ws, rfl, hw, hws⟩ := xvs_c hs
    obtain ⟨z, zs, rfl, hz, hzs⟩ := xvs_c hws
    cases d : Nat.beq x.1 1 with
    | true => rw [d] at h; cases h
    | false =>
      rw [d, xif_f] at h
      cases d2 : Nat.beq y.1 1 with
      | true => rw [d2] at h; cases h
      | false =>
        rw [d2, xif_f] at h
        exact ⟨w, z, zs, rfl, by rw [xv_cat hw, if_neg (xnbeq d)], by rw [xv_cat hz, if_neg (xnbeq d2)], xNr_go h hl ⟨hw, hz, hw, hz, hzs⟩ hA⟩
  · cases h
end
