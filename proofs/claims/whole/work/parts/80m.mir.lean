/-! Mirrors (written by mk_mir.py) -/
-- ChangeHouse.cell
def xr_1002 : xj_mR := (11, yX11_cell, cX11_cell, 4, (Option.some Jvm.ClassFile.FieldType.int), 0, false, (6, 20), (1, 1))
set_option maxRecDepth 20000 in
theorem xr_1002_e : xj_row 1002 = some xr_1002 := rfl
def f1002_41   (f : Nat) (x0 : Nat) (M : xj_M) : Option (Int × xj_M) := ((xq_gr 11 1 (x0) M).bind fun v101 => ((xq_gi 4 2 (v101) M).bind fun v103 => (some (xwr ((-1) - (v103)), M))))
theorem k1002_41 {d f : Nat}     {x0 : Nat} {M : xj_M} {R : Int × xj_M}  (h : f1002_41   f x0 M = some R) : xW (d + 10) (some (11, 19, 22, 123, 0), d + 10, none) xr_1002 (41, [(0, xR_ x0)], [], M) (xQi R) := by
  unfold f1002_41 at h
  refine xe_iconst (n := -1) (by decide +kernel) rfl ?_
  refine xe_alr (ins := .aload_n 0) (len := 1) (i := 0) (by decide +kernel) rfl rfl rfl rfl rfl ?_
  obtain ⟨v101, e102, h⟩ := xbnd h
  refine xs_gr (i := 21) (c := 11) (k := 1) (by decide +kernel) (by decide) (by decide +kernel) e102 rfl ?_
  obtain ⟨v103, e104, h⟩ := xbnd h
  refine xs_gi (i := 125) (c := 4) (k := 2) (by decide +kernel) (by decide) (by decide +kernel) e104 rfl ?_
  refine xe_isub (by decide +kernel) rfl ?_
  cases h
  exact xe_ret_i (ty := .int) (by decide +kernel) rfl rfl ⟨rfl, rfl, (xin_wr _)⟩
def f1002_25   (f : Nat) (x0 : Nat) (x1 : Int) (x2 : Int) (M : xj_M) : Option (Int × xj_M) := ((xq_gr 11 0 (x0) M).bind fun v105 => ((xq_pi 8 1 (v105) (0) M).bind fun M107 => (if (x1) = 0 then f1002_41   f (x0) M107 else (if 0 ≤ (x2) then ((xq_gr 11 5 (x0) M107).bind fun v111 => ((xq_gi 11 6 (x0) M107).bind fun v113 => ((xq_ar (v111) (v113) M107).bind fun v115 => ((xq_gr 1 12 (v115) M107).bind fun v117 => ((xq_sb (v117) (x2) (1) M107).bind fun M119 => ((xq_gr 1 13 (v115) M119).bind fun v121 => ((xq_gr 11 1 (x0) M119).bind fun v123 => ((xq_gr 4 6 (v123) M119).bind fun v125 => ((xq_sr (v121) (x2) (v125) M119).bind fun M127 => (some (x2, M127))))))))))) else f1002_41   f (x0) M107))))
theorem k1002_25 {d f : Nat}     {x0 : Nat} {x1 : Int} {x2 : Int} {M : xj_M} {R : Int × xj_M} (hx1 : xin x1) (hx2 : xin x2) (h : f1002_25   f x0 x1 x2 M = some R) : xW (d + 10) (some (11, 19, 22, 123, 0), d + 10, none) xr_1002 (25, [(0, xR_ x0), (1, xI x1), (2, xI x2)], [], M) (xQi R) := by
  unfold f1002_25 at h
  refine xe_alr (ins := .aload_n 0) (len := 1) (i := 0) (by decide +kernel) rfl rfl rfl rfl rfl ?_
  obtain ⟨v105, e106, h⟩ := xbnd h
  refine xs_gr (i := 10) (c := 11) (k := 0) (by decide +kernel) (by decide) (by decide +kernel) e106 rfl ?_
  refine xe_iconst (n := 0) (by decide +kernel) rfl ?_
  obtain ⟨M107, e108, h⟩ := xbnd h
  refine xs_p (i := 107) (c := 8) (k := 1) (by decide +kernel) (by decide +kernel) (by decide +kernel) e108 rfl ?_
  refine xe_ldn (ins := .iload_n 1) (len := 1) (by decide +kernel) rfl rfl rfl rfl ?_
  refine xe_ifeq (off := 7) (t := 41) (by decide +kernel) (by decide) rfl hx1 (fun c109 => ?_) (fun c109 => ?_)
  · rw [if_pos c109] at h
    refine xW_lv2 (l := [(0, xR_ (x0))]) (xsb_of ⟨rfl, trivial⟩ (show [0, 1, 2].Nodup by decide)) ?_
    exact k1002_41    h
  · rw [if_neg c109] at h
    refine xe_ldn (ins := .iload_n 2) (len := 1) (by decide +kernel) rfl rfl rfl rfl ?_
    refine xe_ifge (off := 13) (t := 51) (by decide +kernel) (by decide) rfl hx2 (fun c110 => ?_) (fun c110 => ?_)
    · rw [if_pos c110] at h
      refine xe_alr (ins := .aload_n 0) (len := 1) (i := 0) (by decide +kernel) rfl rfl rfl rfl rfl ?_
      obtain ⟨v111, e112, h⟩ := xbnd h
      refine xs_gr (i := 50) (c := 11) (k := 5) (by decide +kernel) (by decide) (by decide +kernel) e112 rfl ?_
      refine xe_alr (ins := .aload_n 0) (len := 1) (i := 0) (by decide +kernel) rfl rfl rfl rfl rfl ?_
      obtain ⟨v113, e114, h⟩ := xbnd h
      refine xs_gi (i := 132) (c := 11) (k := 6) (by decide +kernel) (by decide) (by decide +kernel) e114 rfl ?_
      obtain ⟨v115, e116, h⟩ := xbnd h
      refine xs_aald (by decide +kernel) (xq_gi_in e114) e116 rfl ?_
      refine xe_asr (ins := .astore_n 3) (len := 1) (i := 3) (by decide +kernel) rfl rfl rfl (by decide) (xk_k (show ¬ (0 : Nat) = 3 by decide) (Or.inl (show ¬ (0 + 1 : Nat) = 3 by decide)) (xk_k (show ¬ (1 : Nat) = 3 by decide) (Or.inl (show ¬ (1 + 1 : Nat) = 3 by decide)) (xk_k (show ¬ (2 : Nat) = 3 by decide) (Or.inr (xI_cat _)) xk_n))) rfl ?_
      refine xe_alr (ins := .aload_n 3) (len := 1) (i := 3) (by decide +kernel) rfl rfl rfl rfl rfl ?_
      obtain ⟨v117, e118, h⟩ := xbnd h
      refine xs_gr (i := 181) (c := 1) (k := 12) (by decide +kernel) (by decide) (by decide +kernel) e118 rfl ?_
      refine xe_ldn (ins := .iload_n 2) (len := 1) (by decide +kernel) rfl rfl rfl rfl ?_
      refine xe_iconst (n := 1) (by decide +kernel) rfl ?_
      obtain ⟨M119, e120, h⟩ := xbnd h
      refine xs_bast (by decide +kernel) hx2 e120 rfl ?_
      refine xe_alr (ins := .aload_n 3) (len := 1) (i := 3) (by decide +kernel) rfl rfl rfl rfl rfl ?_
      obtain ⟨v121, e122, h⟩ := xbnd h
      refine xs_gr (i := 185) (c := 1) (k := 13) (by decide +kernel) (by decide) (by decide +kernel) e122 rfl ?_
      refine xe_ldn (ins := .iload_n 2) (len := 1) (by decide +kernel) rfl rfl rfl rfl ?_
      refine xe_alr (ins := .aload_n 0) (len := 1) (i := 0) (by decide +kernel) rfl rfl rfl rfl rfl ?_
      obtain ⟨v123, e124, h⟩ := xbnd h
      refine xs_gr (i := 21) (c := 11) (k := 1) (by decide +kernel) (by decide) (by decide +kernel) e124 rfl ?_
      obtain ⟨v125, e126, h⟩ := xbnd h
      refine xs_gr (i := 188) (c := 4) (k := 6) (by decide +kernel) (by decide) (by decide +kernel) e126 rfl ?_
      obtain ⟨M127, e128, h⟩ := xbnd h
      refine xs_aast (by decide +kernel) hx2 e128 rfl ?_
      refine xe_ldn (ins := .iload_n 2) (len := 1) (by decide +kernel) rfl rfl rfl rfl ?_
      cases h
      exact xe_ret_i (ty := .int) (by decide +kernel) rfl rfl ⟨rfl, rfl, hx2⟩
    · rw [if_neg c110] at h
      refine xW_lv2 (l := [(0, xR_ (x0))]) (xsb_of ⟨rfl, trivial⟩ (show [0, 1, 2].Nodup by decide)) ?_
      exact k1002_41    h
def f1002  (f : Nat) (a0 : Nat) (M : xj_M) : Option (Int × xj_M) := ((xq_gr 11 0 (a0) M).bind fun v129 => ((xq_is 8 (v129) M).bind fun _ => ((f112  f (v129) M).bind fun M133 => ((xq_gr 11 1 (a0) M133).bind fun v135 => ((xq_is 4 (v135) M133).bind fun _ => ((f33 f (v135) M133).bind fun R139 => xhd R139 0 (f1002_25   f (a0) (0) (-1) R139.2) (fun v140 => f1002_25   f (a0) (1) (v140) R139.2)))))))
theorem k1002 {d f : Nat}   {a0 : Nat} {M : xj_M} {R : Int × xj_M}  (h : f1002  f a0 M = some R) : xT (d + 11) 1002 [xR_ a0] M (xQi R) := by
  refine xT_m xr_1002_e (X := (some (11, 19, 22, 123, 0), d + 10, none)) rfl (xa_1 (xR_cat _) xa_n) (by decide) ?_
  unfold f1002 at h
  refine xe_iconst (n := 1) (by decide +kernel) rfl ?_
  refine xe_isr (ins := .istore_n 1) (len := 1) (i := 1) (by decide +kernel) rfl rfl rfl (by decide) (xk_k (show ¬ (0 : Nat) = 1 by decide) (Or.inr (xR_cat _)) xk_n) rfl ?_
  refine xe_iconst (n := -1) (by decide +kernel) rfl ?_
  refine xe_isr (ins := .istore_n 2) (len := 1) (i := 2) (by decide +kernel) rfl rfl rfl (by decide) (xk_k (show ¬ (1 : Nat) = 2 by decide) (Or.inr (xI_cat _)) (xk_k (show ¬ (0 : Nat) = 2 by decide) (Or.inl (show ¬ (0 + 1 : Nat) = 2 by decide)) xk_n)) rfl ?_
  refine xe_alr (ins := .aload_n 0) (len := 1) (i := 0) (by decide +kernel) rfl rfl rfl rfl rfl ?_
  obtain ⟨v129, e130, h⟩ := xbnd h
  refine xs_gr (i := 10) (c := 11) (k := 0) (by decide +kernel) (by decide) (by decide +kernel) e130 rfl ?_
  obtain ⟨_, e132, h⟩ := xbnd h
  obtain ⟨M133, e131, h⟩ := xbnd h
  refine xs_cv (i := 116) (j := 112) (ar := []) (rest := []) (r2 := xr_112) (by decide +kernel) (by decide +kernel) (by decide +kernel) xr_112_e rfl (by decide) (by decide) e132 ?_
  refine xc_v (k112 (d := d + 2)   e131) rfl ?_
  refine xe_alr (ins := .aload_n 0) (len := 1) (i := 0) (by decide +kernel) rfl rfl rfl rfl rfl ?_
  obtain ⟨v135, e136, h⟩ := xbnd h
  refine xs_gr (i := 21) (c := 11) (k := 1) (by decide +kernel) (by decide) (by decide +kernel) e136 rfl ?_
  obtain ⟨_, e138, h⟩ := xbnd h
  obtain ⟨R139, e137, h⟩ := xbnd h
  refine xs2_cv (kd := 0) (jj := 33) (by decide) (i := 178) (j := 33) (ar := []) (rest := []) (r2 := xr_33) (by decide +kernel) (by decide +kernel) (by decide +kernel) xr_33_e rfl (by decide) (by decide) e138 ?_
  refine xct_i (k33 (d := d + 0)  e137) rfl (fun e1 g141 => ?_) (fun v140 g141 hi142 => ?_)
  · obtain ⟨e2, h⟩ := xhd_l g141 h
    refine xK_han (t := (11, 19, 22, 123, 0)) (i4 := 3) rfl ⟨by decide, by decide, e2⟩ (by decide +kernel) (by decide) (xk_k (show ¬ (2 : Nat) = 3 by decide) (Or.inr (xI_cat _)) (xk_k (show ¬ (1 : Nat) = 3 by decide) (Or.inl (show ¬ (1 + 1 : Nat) = 3 by decide)) (xk_k (show ¬ (0 : Nat) = 3 by decide) (Or.inl (show ¬ (0 + 1 : Nat) = 3 by decide)) xk_n))) ?_
    refine xe_iconst (n := 0) (by decide +kernel) rfl ?_
    refine xe_isr (ins := .istore_n 1) (len := 1) (i := 1) (by decide +kernel) rfl rfl rfl (by decide) (xk_k (show ¬ (2 : Nat) = 1 by decide) (Or.inl (show ¬ (2 + 1 : Nat) = 1 by decide)) (xk_d rfl (xk_k (show ¬ (0 : Nat) = 1 by decide) (Or.inr (xR_cat _)) xk_n))) rfl ?_
    refine xW_lv2 (l := [(0, xR_ (a0)), (1, xI (0)), (2, xI (-1))]) (xsb_of ⟨rfl, rfl, rfl, trivial⟩ (show [1, 2, 0].Nodup by decide)) ?_
    exact k1002_25   (show xin (0) by decide) (show xin (-1) by decide) h
  · rw [xhd_r g141] at h
    refine xe_isr (ins := .istore_n 2) (len := 1) (i := 2) (by decide +kernel) rfl rfl rfl (by decide) (xk_d rfl (xk_k (show ¬ (1 : Nat) = 2 by decide) (Or.inr (xI_cat _)) (xk_k (show ¬ (0 : Nat) = 2 by decide) (Or.inl (show ¬ (0 + 1 : Nat) = 2 by decide)) xk_n))) rfl ?_
    refine xe_goto (off := 6) (nx := 25) (by decide +kernel) (by decide) ?_
    refine xW_lv2 (l := [(0, xR_ (a0)), (1, xI (1)), (2, xI (v140))]) (xsb_of ⟨rfl, rfl, rfl, trivial⟩ (show [2, 1, 0].Nodup by decide)) ?_
    exact k1002_25   (show xin (1) by decide) hi142 h
-- ChangeHouse.query
def xr_1003 : xj_mR := (11, yX11_query, cX11_query, 4, (Option.some Jvm.ClassFile.FieldType.int), 0, false, (7, 148), (1, 1))
set_option maxRecDepth 20000 in
theorem xr_1003_e : xj_row 1003 = some xr_1003 := rfl
def f1003_44   (f : Nat) (x0 : Nat) (x1 : Nat) (x2 : Int) (M : xj_M) : Option (Int × xj_M) := ((xq_gr 11 0 (x0) M).bind fun v101 => ((xq_pi 8 1 (v101) (0) M).bind fun M103 => (if ¬ (x2) = 0 then ((xq_gr 11 1 (x0) M103).bind fun v106 => ((xq_is 4 (v106) M103).bind fun _ => ((f63  f (v106) M103).bind fun R110 => (if (R110.1) = 0 then ((xq_gr 11 1 (x0) R110.2).bind fun v113 => ((xq_gr 4 5 (v113) R110.2).bind fun v115 => ((xq_is 11 (x0) R110.2).bind fun _ => ((f179  f (x0) (v115) (x1) R110.2).bind fun R119 => (some (R119.1, R119.2)))))) else ((xq_gr 11 1 (x0) R110.2).bind fun v121 => ((xq_gi 4 2 (v121) R110.2).bind fun v123 => ((xq_pi 11 9 (x0) (v123) R110.2).bind fun M125 => (some (xwr ((-5000) - (R110.1)), M125))))))))) else ((xq_gr 11 1 (x0) M103).bind fun v127 => ((xq_gi 4 2 (v127) M103).bind fun v129 => (some (xwr ((-1) - (v129)), M103)))))))
theorem k1003_44 {d f : Nat}     {x0 : Nat} {x1 : Nat} {x2 : Int} {M : xj_M} {R : Int × xj_M} (hx2 : xin x2) (h : f1003_44   f x0 x1 x2 M = some R) : xW (d + 11) (some (27, 38, 41, 123, 0), d + 11, none) xr_1003 (44, [(0, xR_ x0), (1, xR_ x1), (2, xI x2)], [], M) (xQi R) := by
  unfold f1003_44 at h
  refine xe_alr (ins := .aload_n 0) (len := 1) (i := 0) (by decide +kernel) rfl rfl rfl rfl rfl ?_
  obtain ⟨v101, e102, h⟩ := xbnd h
  refine xs_gr (i := 10) (c := 11) (k := 0) (by decide +kernel) (by decide) (by decide +kernel) e102 rfl ?_
  refine xe_iconst (n := 0) (by decide +kernel) rfl ?_
  obtain ⟨M103, e104, h⟩ := xbnd h
  refine xs_p (i := 107) (c := 8) (k := 1) (by decide +kernel) (by decide +kernel) (by decide +kernel) e104 rfl ?_
  refine xe_ldn (ins := .iload_n 2) (len := 1) (by decide +kernel) rfl rfl rfl rfl ?_
  refine xe_ifne (off := 13) (t := 66) (by decide +kernel) (by decide) rfl hx2 (fun c105 => ?_) (fun c105 => ?_)
  · rw [if_pos c105] at h
    refine xe_alr (ins := .aload_n 0) (len := 1) (i := 0) (by decide +kernel) rfl rfl rfl rfl rfl ?_
    obtain ⟨v106, e107, h⟩ := xbnd h
    refine xs_gr (i := 21) (c := 11) (k := 1) (by decide +kernel) (by decide) (by decide +kernel) e107 rfl ?_
    obtain ⟨_, e109, h⟩ := xbnd h
    obtain ⟨R110, e108, h⟩ := xbnd h
    refine xs_cv (i := 307) (j := 63) (ar := []) (rest := []) (r2 := xr_63) (by decide +kernel) (by decide +kernel) (by decide +kernel) xr_63_e rfl (by decide) (by decide) e109 ?_
    refine xc_i (k63 (d := d + 6)   e108) rfl (fun hi111 => ?_)
    refine xe_isr (ins := .istore_n 3) (len := 1) (i := 3) (by decide +kernel) rfl rfl rfl (by decide) (xk_k (show ¬ (0 : Nat) = 3 by decide) (Or.inl (show ¬ (0 + 1 : Nat) = 3 by decide)) (xk_k (show ¬ (1 : Nat) = 3 by decide) (Or.inl (show ¬ (1 + 1 : Nat) = 3 by decide)) (xk_k (show ¬ (2 : Nat) = 3 by decide) (Or.inr (xI_cat _)) xk_n))) rfl ?_
    refine xe_ldn (ins := .iload_n 3) (len := 1) (by decide +kernel) rfl rfl rfl rfl ?_
    refine xe_ifeq (off := 20) (t := 95) (by decide +kernel) (by decide) rfl hi111 (fun c112 => ?_) (fun c112 => ?_)
    · rw [if_pos c112] at h
      refine xe_alr (ins := .aload_n 0) (len := 1) (i := 0) (by decide +kernel) rfl rfl rfl rfl rfl ?_
      refine xe_alr (ins := .aload_n 0) (len := 1) (i := 0) (by decide +kernel) rfl rfl rfl rfl rfl ?_
      obtain ⟨v113, e114, h⟩ := xbnd h
      refine xs_gr (i := 21) (c := 11) (k := 1) (by decide +kernel) (by decide) (by decide +kernel) e114 rfl ?_
      obtain ⟨v115, e116, h⟩ := xbnd h
      refine xs_gr (i := 310) (c := 4) (k := 5) (by decide +kernel) (by decide) (by decide +kernel) e116 rfl ?_
      refine xe_alr (ins := .aload_n 1) (len := 1) (i := 1) (by decide +kernel) rfl rfl rfl rfl rfl ?_
      obtain ⟨_, e118, h⟩ := xbnd h
      obtain ⟨R119, e117, h⟩ := xbnd h
      refine xs_cv (i := 314) (j := 179) (ar := [xR_ (x1), xR_ (v115)]) (rest := []) (r2 := xr_179) (by decide +kernel) (by decide +kernel) (by decide +kernel) xr_179_e rfl (by decide) (by decide) e118 ?_
      refine xc_i (k179 (d := d + 5)   e117) rfl (fun hi120 => ?_)
      cases h
      exact xe_ret_i (ty := .int) (by decide +kernel) rfl rfl ⟨rfl, rfl, hi120⟩
    · rw [if_neg c112] at h
      refine xe_alr (ins := .aload_n 0) (len := 1) (i := 0) (by decide +kernel) rfl rfl rfl rfl rfl ?_
      refine xe_alr (ins := .aload_n 0) (len := 1) (i := 0) (by decide +kernel) rfl rfl rfl rfl rfl ?_
      obtain ⟨v121, e122, h⟩ := xbnd h
      refine xs_gr (i := 21) (c := 11) (k := 1) (by decide +kernel) (by decide) (by decide +kernel) e122 rfl ?_
      obtain ⟨v123, e124, h⟩ := xbnd h
      refine xs_gi (i := 125) (c := 4) (k := 2) (by decide +kernel) (by decide) (by decide +kernel) e124 rfl ?_
      obtain ⟨M125, e126, h⟩ := xbnd h
      refine xs_p (i := 54) (c := 11) (k := 9) (by decide +kernel) (by decide +kernel) (by decide +kernel) e126 rfl ?_
      refine xe_sipush (n := -5000) (by decide +kernel) (by decide) rfl ?_
      refine xe_ldn (ins := .iload_n 3) (len := 1) (by decide +kernel) rfl rfl rfl rfl ?_
      refine xe_isub (by decide +kernel) rfl ?_
      cases h
      exact xe_ret_i (ty := .int) (by decide +kernel) rfl rfl ⟨rfl, rfl, (xin_wr _)⟩
  · rw [if_neg c105] at h
    refine xe_iconst (n := -1) (by decide +kernel) rfl ?_
    refine xe_alr (ins := .aload_n 0) (len := 1) (i := 0) (by decide +kernel) rfl rfl rfl rfl rfl ?_
    obtain ⟨v127, e128, h⟩ := xbnd h
    refine xs_gr (i := 21) (c := 11) (k := 1) (by decide +kernel) (by decide) (by decide +kernel) e128 rfl ?_
    obtain ⟨v129, e130, h⟩ := xbnd h
    refine xs_gi (i := 125) (c := 4) (k := 2) (by decide +kernel) (by decide) (by decide +kernel) e130 rfl ?_
    refine xe_isub (by decide +kernel) rfl ?_
    cases h
    exact xe_ret_i (ty := .int) (by decide +kernel) rfl rfl ⟨rfl, rfl, (xin_wr _)⟩
def f1003  (f : Nat) (a0 : Nat) (M : xj_M) : Option (Int × xj_M) := ((xq_pi 11 9 (a0) (-1) M).bind fun M131 => ((xq_gr 11 5 (a0) M131).bind fun v133 => ((xq_gi 11 6 (a0) M131).bind fun v135 => ((xq_ar (v133) (v135) M131).bind fun v137 => ((xq_is 1 (v137) M131).bind fun _ => ((f5  f (v137) M131).bind fun R141 => ((xq_gr 11 0 (a0) R141.2).bind fun v143 => ((xq_is 8 (v143) R141.2).bind fun _ => ((f112  f (v143) R141.2).bind fun M147 => ((xq_gr 11 1 (a0) M147).bind fun v149 => ((xq_gr 2 0 (R141.1) M147).bind fun v151 => ((xq_is 4 (v149) M147).bind fun _ => ((f31 f (v149) (v151) M147).bind fun R155 => xhd R155 0 (f1003_44   f (a0) (R141.1) (0) R155.2) (fun _ => f1003_44   f (a0) (R141.1) (1) R155.2))))))))))))))
theorem k1003 {d f : Nat}   {a0 : Nat} {M : xj_M} {R : Int × xj_M}  (h : f1003  f a0 M = some R) : xT (d + 12) 1003 [xR_ a0] M (xQi R) := by
  refine xT_m xr_1003_e (X := (some (27, 38, 41, 123, 0), d + 11, none)) rfl (xa_1 (xR_cat _) xa_n) (by decide) ?_
  unfold f1003 at h
  refine xe_alr (ins := .aload_n 0) (len := 1) (i := 0) (by decide +kernel) rfl rfl rfl rfl rfl ?_
  refine xe_iconst (n := -1) (by decide +kernel) rfl ?_
  obtain ⟨M131, e132, h⟩ := xbnd h
  refine xs_p (i := 54) (c := 11) (k := 9) (by decide +kernel) (by decide +kernel) (by decide +kernel) e132 rfl ?_
  refine xe_alr (ins := .aload_n 0) (len := 1) (i := 0) (by decide +kernel) rfl rfl rfl rfl rfl ?_
  obtain ⟨v133, e134, h⟩ := xbnd h
  refine xs_gr (i := 50) (c := 11) (k := 5) (by decide +kernel) (by decide) (by decide +kernel) e134 rfl ?_
  refine xe_alr (ins := .aload_n 0) (len := 1) (i := 0) (by decide +kernel) rfl rfl rfl rfl rfl ?_
  obtain ⟨v135, e136, h⟩ := xbnd h
  refine xs_gi (i := 132) (c := 11) (k := 6) (by decide +kernel) (by decide) (by decide +kernel) e136 rfl ?_
  obtain ⟨v137, e138, h⟩ := xbnd h
  refine xs_aald (by decide +kernel) (xq_gi_in e136) e138 rfl ?_
  obtain ⟨_, e140, h⟩ := xbnd h
  obtain ⟨R141, e139, h⟩ := xbnd h
  refine xs_cv (i := 145) (j := 5) (ar := []) (rest := []) (r2 := xr_5) (by decide +kernel) (by decide +kernel) (by decide +kernel) xr_5_e rfl (by decide) (by decide) e140 ?_
  refine xc_r (k5 (d := d + 10)   e139) rfl ?_
  refine xe_asr (ins := .astore_n 1) (len := 1) (i := 1) (by decide +kernel) rfl rfl rfl (by decide) (xk_k (show ¬ (0 : Nat) = 1 by decide) (Or.inr (xR_cat _)) xk_n) rfl ?_
  refine xe_iconst (n := 1) (by decide +kernel) rfl ?_
  refine xe_isr (ins := .istore_n 2) (len := 1) (i := 2) (by decide +kernel) rfl rfl rfl (by decide) (xk_k (show ¬ (1 : Nat) = 2 by decide) (Or.inr (xR_cat _)) (xk_k (show ¬ (0 : Nat) = 2 by decide) (Or.inl (show ¬ (0 + 1 : Nat) = 2 by decide)) xk_n)) rfl ?_
  refine xe_alr (ins := .aload_n 0) (len := 1) (i := 0) (by decide +kernel) rfl rfl rfl rfl rfl ?_
  obtain ⟨v143, e144, h⟩ := xbnd h
  refine xs_gr (i := 10) (c := 11) (k := 0) (by decide +kernel) (by decide) (by decide +kernel) e144 rfl ?_
  obtain ⟨_, e146, h⟩ := xbnd h
  obtain ⟨M147, e145, h⟩ := xbnd h
  refine xs_cv (i := 116) (j := 112) (ar := []) (rest := []) (r2 := xr_112) (by decide +kernel) (by decide +kernel) (by decide +kernel) xr_112_e rfl (by decide) (by decide) e146 ?_
  refine xc_v (k112 (d := d + 3)   e145) rfl ?_
  refine xe_alr (ins := .aload_n 0) (len := 1) (i := 0) (by decide +kernel) rfl rfl rfl rfl rfl ?_
  obtain ⟨v149, e150, h⟩ := xbnd h
  refine xs_gr (i := 21) (c := 11) (k := 1) (by decide +kernel) (by decide) (by decide +kernel) e150 rfl ?_
  refine xe_alr (ins := .aload_n 1) (len := 1) (i := 1) (by decide +kernel) rfl rfl rfl rfl rfl ?_
  obtain ⟨v151, e152, h⟩ := xbnd h
  refine xs_gr (i := 149) (c := 2) (k := 0) (by decide +kernel) (by decide) (by decide +kernel) e152 rfl ?_
  obtain ⟨_, e154, h⟩ := xbnd h
  obtain ⟨R155, e153, h⟩ := xbnd h
  refine xs2_cv (kd := 0) (jj := 31) (by decide) (i := 304) (j := 31) (ar := [xR_ (v151)]) (rest := []) (r2 := xr_31) (by decide +kernel) (by decide +kernel) (by decide +kernel) xr_31_e rfl (by decide) (by decide) e154 ?_
  refine xct_v (k31 (d := d + 0)  e153) rfl (fun e1 g157 => ?_) (fun g157 => ?_)
  · obtain ⟨e2, h⟩ := xhd_l g157 h
    refine xK_han (t := (27, 38, 41, 123, 0)) (i4 := 3) rfl ⟨by decide, by decide, e2⟩ (by decide +kernel) (by decide) (xk_k (show ¬ (2 : Nat) = 3 by decide) (Or.inr (xI_cat _)) (xk_k (show ¬ (1 : Nat) = 3 by decide) (Or.inl (show ¬ (1 + 1 : Nat) = 3 by decide)) (xk_k (show ¬ (0 : Nat) = 3 by decide) (Or.inl (show ¬ (0 + 1 : Nat) = 3 by decide)) xk_n))) ?_
    refine xe_iconst (n := 0) (by decide +kernel) rfl ?_
    refine xe_isr (ins := .istore_n 2) (len := 1) (i := 2) (by decide +kernel) rfl rfl rfl (by decide) (xk_d rfl (xk_k (show ¬ (1 : Nat) = 2 by decide) (Or.inr (xR_cat _)) (xk_k (show ¬ (0 : Nat) = 2 by decide) (Or.inl (show ¬ (0 + 1 : Nat) = 2 by decide)) xk_n))) rfl ?_
    refine xW_lv2 (l := [(0, xR_ (a0)), (1, xR_ (R141.1)), (2, xI (0))]) (xsb_of ⟨rfl, rfl, rfl, trivial⟩ (show [2, 1, 0].Nodup by decide)) ?_
    exact k1003_44   (show xin (0) by decide) h
  · rw [xhd_r g157] at h
    refine xe_goto (off := 6) (nx := 44) (by decide +kernel) (by decide) ?_
    refine xW_lv2 (l := [(0, xR_ (a0)), (1, xR_ (R141.1)), (2, xI (1))]) (xsb_of ⟨rfl, rfl, rfl, trivial⟩ (show [2, 1, 0].Nodup by decide)) ?_
    exact k1003_44   (show xin (1) by decide) h
-- ChangeHouse$Reader.readProgram
def xr_30 : xj_mR := (4, yX4_readProgram, cX4_readProgram, 4, (Option.none : Option Jvm.ClassFile.FieldType), 1, false, (4, 63), (1, 3))
set_option maxRecDepth 20000 in
theorem xr_30_e : xj_row 30 = some xr_30 := rfl
def f30_73  (r8 : Nat → Int → xj_M → Option ((Nat ⊕ Unit) × xj_M)) (f : Nat) (x0 : Nat) (x2 : Int) (M : xj_M) : Option ((Nat ⊕ Unit) × xj_M) := r8 (x0) (xwr ((x2) + (1))) M
theorem k30_73 {d f : Nat}  {r8 : Nat → Int → xj_M → Option ((Nat ⊕ Unit) × xj_M)}  (hr8 : ∀ {x0 : Nat} {x2 : Int} {M : xj_M} {R : (Nat ⊕ Unit) × xj_M}, xin x2 → r8 x0 x2 M = some R → xW (d + 11) (none, d + 11, none) xr_30 (8, [(0, xR_ x0), (2, xI x2)], [], M) (xQtv R)) {x0 : Nat} {x2 : Int} {M : xj_M} {R : (Nat ⊕ Unit) × xj_M} (hx2 : xin x2) (h : f30_73  r8 f x0 x2 M = some R) : xW (d + 11) (none, d + 11, none) xr_30 (73, [(0, xR_ x0), (2, xI x2)], [], M) (xQtv R) := by
  unfold f30_73 at h
  refine xe_iincr (i := 2) (n := 1) (by decide +kernel) (by decide) rfl (xk_k (show ¬ (0 : Nat) = 2 by decide) (Or.inl (show ¬ (0 + 1 : Nat) = 2 by decide)) (xk_d rfl xk_n)) rfl ?_
  refine xe_goto (off := -68) (nx := 8) (by decide +kernel) (by decide) ?_
  refine xW_lv rfl (l := [(0, xR_ (x0)), (2, xI (xwr ((x2) + (1))))]) (xsb_of ⟨rfl, rfl, trivial⟩ (show [2, 0].Nodup by decide)) ?_
  exact hr8 (xin_wr _) h
def f30_79   (f : Nat)  (M : xj_M) : Option ((Nat ⊕ Unit) × xj_M) := (some (.inr (), M))
theorem k30_79 {d f : Nat}      {M : xj_M} {R : (Nat ⊕ Unit) × xj_M}  (h : f30_79   f  M = some R) : xW (d + 11) (none, d + 11, none) xr_30 (79, [], [], M) (xQtv R) := by
  unfold f30_79 at h
  cases h
  exact xe_ret_v (by decide +kernel) rfl ⟨rfl, rfl⟩
def f30_8b  (r8 : Nat → Int → xj_M → Option ((Nat ⊕ Unit) × xj_M)) (f : Nat) (x0 : Nat) (x2 : Int) (M : xj_M) : Option ((Nat ⊕ Unit) × xj_M) := (if (3000) < (x2) then f30_79   f  M else ((xq_gr 4 0 (x0) M).bind fun v102 => ((xq_gr 8 3 (v102) M).bind fun v104 => ((xq_gi 4 1 (x0) M).bind fun v106 => ((xq_ai 3 (v104) (v106) M).bind fun v108 => (if (v108) = 0 then f30_79   f  M else ((xq_gr 4 0 (x0) M).bind fun v111 => ((xq_gr 8 3 (v111) M).bind fun v113 => ((xq_gi 4 1 (x0) M).bind fun v115 => ((xq_ai 3 (v113) (v115) M).bind fun v117 => (if ¬ (v117) = (6) then (if ¬ (v117) = (7) then ((xq_is 4 (x0) M).bind fun _ => ((f43 f (x0) M).bind fun R123 => xth R123 (fun _ => f30_73  r8 f (x0) (x2) R123.2))) else ((xq_is 4 (x0) M).bind fun _ => ((f42 f (x0) M).bind fun R129 => xth R129 (fun _ => f30_73  r8 f (x0) (x2) R129.2)))) else ((xq_is 4 (x0) M).bind fun _ => ((f41 f (x0) M).bind fun R135 => xth R135 (fun _ => f30_73  r8 f (x0) (x2) R135.2))))))))))))))
theorem k30_8b {d f : Nat}  {r8 : Nat → Int → xj_M → Option ((Nat ⊕ Unit) × xj_M)}  (hr8 : ∀ {x0 : Nat} {x2 : Int} {M : xj_M} {R : (Nat ⊕ Unit) × xj_M}, xin x2 → r8 x0 x2 M = some R → xW (d + 11) (none, d + 11, none) xr_30 (8, [(0, xR_ x0), (2, xI x2)], [], M) (xQtv R)) {x0 : Nat} {x2 : Int} {M : xj_M} {R : (Nat ⊕ Unit) × xj_M} (hx2 : xin x2) (h : f30_8b  r8 f x0 x2 M = some R) : xW (d + 11) (none, d + 11, none) xr_30 (8, [(0, xR_ x0), (2, xI x2)], [], M) (xQtv R) := by
  unfold f30_8b at h
  refine xe_ldn (ins := .iload_n 2) (len := 1) (by decide +kernel) rfl rfl rfl rfl ?_
  refine xe_sipush (n := 3000) (by decide +kernel) (by decide) rfl ?_
  refine xe_icmpgt (off := 67) (t := 79) (by decide +kernel) (by decide) rfl hx2 (show xin (3000) by decide) (fun c101 => ?_) (fun c101 => ?_)
  · rw [if_pos c101] at h
    refine xW_lv rfl (l := []) (xsb_of trivial (show [0, 2].Nodup by decide)) ?_
    exact k30_79    h
  · rw [if_neg c101] at h
    refine xe_alr (ins := .aload_n 0) (len := 1) (i := 0) (by decide +kernel) rfl rfl rfl rfl rfl ?_
    obtain ⟨v102, e103, h⟩ := xbnd h
    refine xs_gr (i := 43) (c := 4) (k := 0) (by decide +kernel) (by decide) (by decide +kernel) e103 rfl ?_
    obtain ⟨v104, e105, h⟩ := xbnd h
    refine xs_gr (i := 51) (c := 8) (k := 3) (by decide +kernel) (by decide) (by decide +kernel) e105 rfl ?_
    refine xe_alr (ins := .aload_n 0) (len := 1) (i := 0) (by decide +kernel) rfl rfl rfl rfl rfl ?_
    obtain ⟨v106, e107, h⟩ := xbnd h
    refine xs_gi (i := 54) (c := 4) (k := 1) (by decide +kernel) (by decide) (by decide +kernel) e107 rfl ?_
    obtain ⟨v108, e109, h⟩ := xbnd h
    refine xs_iald rfl (by decide +kernel) (xq_gi_in e107) e109 rfl ?_
    refine xe_ifeq (off := 52) (t := 79) (by decide +kernel) (by decide) rfl (xq_ai_in e109) (fun c110 => ?_) (fun c110 => ?_)
    · rw [if_pos c110] at h
      refine xW_lv rfl (l := []) (xsb_of trivial (show [0, 2].Nodup by decide)) ?_
      exact k30_79    h
    · rw [if_neg c110] at h
      refine xe_alr (ins := .aload_n 0) (len := 1) (i := 0) (by decide +kernel) rfl rfl rfl rfl rfl ?_
      obtain ⟨v111, e112, h⟩ := xbnd h
      refine xs_gr (i := 43) (c := 4) (k := 0) (by decide +kernel) (by decide) (by decide +kernel) e112 rfl ?_
      obtain ⟨v113, e114, h⟩ := xbnd h
      refine xs_gr (i := 51) (c := 8) (k := 3) (by decide +kernel) (by decide) (by decide +kernel) e114 rfl ?_
      refine xe_alr (ins := .aload_n 0) (len := 1) (i := 0) (by decide +kernel) rfl rfl rfl rfl rfl ?_
      obtain ⟨v115, e116, h⟩ := xbnd h
      refine xs_gi (i := 54) (c := 4) (k := 1) (by decide +kernel) (by decide) (by decide +kernel) e116 rfl ?_
      obtain ⟨v117, e118, h⟩ := xbnd h
      refine xs_iald rfl (by decide +kernel) (xq_gi_in e116) e118 rfl ?_
      refine xe_isr (ins := .istore_n 3) (len := 1) (i := 3) (by decide +kernel) rfl rfl rfl (by decide) (xk_k (show ¬ (0 : Nat) = 3 by decide) (Or.inl (show ¬ (0 + 1 : Nat) = 3 by decide)) (xk_k (show ¬ (2 : Nat) = 3 by decide) (Or.inr (xI_cat _)) xk_n)) rfl ?_
      refine xe_ldn (ins := .iload_n 3) (len := 1) (by decide +kernel) rfl rfl rfl rfl ?_
      refine xe_bipush (n := 6) (by decide +kernel) (by decide) rfl ?_
      refine xe_icmpne (off := 10) (t := 56) (by decide +kernel) (by decide) rfl (xq_ai_in e118) (show xin (6) by decide) (fun c119 => ?_) (fun c119 => ?_)
      · rw [if_pos c119] at h
        refine xe_ldn (ins := .iload_n 3) (len := 1) (by decide +kernel) rfl rfl rfl rfl ?_
        refine xe_bipush (n := 7) (by decide +kernel) (by decide) rfl ?_
        refine xe_icmpne (off := 10) (t := 69) (by decide +kernel) (by decide) rfl (xq_ai_in e118) (show xin (7) by decide) (fun c120 => ?_) (fun c120 => ?_)
        · rw [if_pos c120] at h
          refine xe_alr (ins := .aload_n 0) (len := 1) (i := 0) (by decide +kernel) rfl rfl rfl rfl rfl ?_
          obtain ⟨_, e122, h⟩ := xbnd h
          obtain ⟨R123, e121, h⟩ := xbnd h
          refine xs2_cv (kd := 0) (jj := 43) (by decide) (i := 64) (j := 43) (ar := []) (rest := []) (r2 := xr_43) (by decide +kernel) (by decide +kernel) (by decide +kernel) xr_43_e rfl (by decide) (by decide) e122 ?_
          refine xct_v (k43 (d := d + 0)  e121) rfl (fun e1 g125 => ?_) (fun g125 => ?_)
          · rw [xth_l g125] at h; cases h; exact xK_thr rfl ⟨rfl, rfl⟩
          · rw [xth_r g125] at h
            refine xW_lv rfl (l := [(0, xR_ (x0)), (2, xI (x2))]) (xsb_of ⟨rfl, rfl, trivial⟩ (show [3, 0, 2].Nodup by decide)) ?_
            exact k30_73  hr8 hx2 h
        · rw [if_neg c120] at h
          refine xe_alr (ins := .aload_n 0) (len := 1) (i := 0) (by decide +kernel) rfl rfl rfl rfl rfl ?_
          obtain ⟨_, e128, h⟩ := xbnd h
          obtain ⟨R129, e127, h⟩ := xbnd h
          refine xs2_cv (kd := 0) (jj := 42) (by decide) (i := 61) (j := 42) (ar := []) (rest := []) (r2 := xr_42) (by decide +kernel) (by decide +kernel) (by decide +kernel) xr_42_e rfl (by decide) (by decide) e128 ?_
          refine xct_v (k42 (d := d + 3)  e127) rfl (fun e1 g131 => ?_) (fun g131 => ?_)
          · rw [xth_l g131] at h; cases h; exact xK_thr rfl ⟨rfl, rfl⟩
          · rw [xth_r g131] at h
            refine xe_goto (off := 7) (nx := 73) (by decide +kernel) (by decide) ?_
            refine xW_lv rfl (l := [(0, xR_ (x0)), (2, xI (x2))]) (xsb_of ⟨rfl, rfl, trivial⟩ (show [3, 0, 2].Nodup by decide)) ?_
            exact k30_73  hr8 hx2 h
      · rw [if_neg c119] at h
        refine xe_alr (ins := .aload_n 0) (len := 1) (i := 0) (by decide +kernel) rfl rfl rfl rfl rfl ?_
        obtain ⟨_, e134, h⟩ := xbnd h
        obtain ⟨R135, e133, h⟩ := xbnd h
        refine xs2_cv (kd := 0) (jj := 41) (by decide) (i := 58) (j := 41) (ar := []) (rest := []) (r2 := xr_41) (by decide +kernel) (by decide +kernel) (by decide +kernel) xr_41_e rfl (by decide) (by decide) e134 ?_
        refine xct_v (k41 (d := d + 3)  e133) rfl (fun e1 g137 => ?_) (fun g137 => ?_)
        · rw [xth_l g137] at h; cases h; exact xK_thr rfl ⟨rfl, rfl⟩
        · rw [xth_r g137] at h
          refine xe_goto (off := 20) (nx := 73) (by decide +kernel) (by decide) ?_
          refine xW_lv rfl (l := [(0, xR_ (x0)), (2, xI (x2))]) (xsb_of ⟨rfl, rfl, trivial⟩ (show [3, 0, 2].Nodup by decide)) ?_
          exact k30_73  hr8 hx2 h
def f30_8   (f : Nat) : Nat → Nat → Int → xj_M → Option ((Nat ⊕ Unit) × xj_M)
  | 0, _, _, _ => none
  | n + 1, x0, x2, M => f30_8b   (f30_8   f n) f x0 x2 M
theorem k30_8 {d f : Nat}     : ∀ {n : Nat} {x0 : Nat} {x2 : Int} {M : xj_M} {R : (Nat ⊕ Unit) × xj_M}, xin x2 → f30_8   f n x0 x2 M = some R → xW (d + 11) (none, d + 11, none) xr_30 (8, [(0, xR_ x0), (2, xI x2)], [], M) (xQtv R) := by
  intro n
  induction n with
  | zero => intros; rename_i h; cases h
  | succ n ih => intros; rename_i h; exact k30_8b   ih (by assumption) h
def f30  (f : Nat) (a0 : Nat) (a1 : Nat) (M : xj_M) : Option ((Nat ⊕ Unit) × xj_M) := ((xq_is 4 (a0) M).bind fun _ => ((f34  f (a0) (a1) (1) M).bind fun M141 => f30_8   f f (a0) (0) M141))
theorem k30 {d f : Nat}   {a0 : Nat} {a1 : Nat} {M : xj_M} {R : (Nat ⊕ Unit) × xj_M}  (h : f30  f a0 a1 M = some R) : xT (d + 12) 30 [xR_ a0, xR_ a1] M (xQtv R) := by
  refine xT_m xr_30_e (X := (none, d + 11, none)) rfl (xa_1 (xR_cat _) (xa_1 (xR_cat _) xa_n)) (by decide) ?_
  unfold f30 at h
  refine xe_alr (ins := .aload_n 0) (len := 1) (i := 0) (by decide +kernel) rfl rfl rfl rfl rfl ?_
  refine xe_alr (ins := .aload_n 1) (len := 1) (i := 1) (by decide +kernel) rfl rfl rfl rfl rfl ?_
  refine xe_iconst (n := 1) (by decide +kernel) rfl ?_
  obtain ⟨_, e140, h⟩ := xbnd h
  obtain ⟨M141, e139, h⟩ := xbnd h
  refine xs_cv (i := 47) (j := 34) (ar := [xI (1), xR_ (a1)]) (rest := []) (r2 := xr_34) (by decide +kernel) (by decide +kernel) (by decide +kernel) xr_34_e rfl (by decide) (by decide) e140 ?_
  refine xc_v (k34 (d := d + 10)  (show xin (1) by decide) e139) rfl ?_
  refine xe_iconst (n := 0) (by decide +kernel) rfl ?_
  refine xe_isr (ins := .istore_n 2) (len := 1) (i := 2) (by decide +kernel) rfl rfl rfl (by decide) (xk_k (show ¬ (0 : Nat) = 2 by decide) (Or.inl (show ¬ (0 + 1 : Nat) = 2 by decide)) (xk_k (show ¬ (1 : Nat) = 2 by decide) (Or.inr (xR_cat _)) xk_n)) rfl ?_
  refine xW_lv rfl (l := [(0, xR_ (a0)), (2, xI (0))]) (xsb_of ⟨rfl, rfl, trivial⟩ (show [2, 0, 1].Nodup by decide)) ?_
  exact k30_8   (show xin (0) by decide) h
-- ChangeHouse.program
def xr_1000 : xj_mR := (11, yX11_program, cX11_program, 5, (Option.some Jvm.ClassFile.FieldType.int), 0, false, (3, 118), (1, 1))
set_option maxRecDepth 20000 in
theorem xr_1000_e : xj_row 1000 = some xr_1000 := rfl
def f1000_50   (f : Nat) (x0 : Nat) (x1 : Nat) (x2 : Int) (M : xj_M) : Option (Int × xj_M) := ((xq_gr 11 0 (x0) M).bind fun v101 => ((xq_pi 8 1 (v101) (0) M).bind fun M103 => (if ¬ (x2) = 0 then ((xq_gr 11 1 (x0) M103).bind fun v106 => ((xq_is 4 (v106) M103).bind fun _ => ((f62  f (v106) M103).bind fun R110 => (if (R110.1) = 0 then ((xq_gr 11 5 (x0) R110.2).bind fun v113 => ((xq_gi 11 6 (x0) R110.2).bind fun v115 => ((xq_ar (v113) (v115) R110.2).bind fun v117 => ((xq_pr 1 7 (v117) (x1) R110.2).bind fun M119 => ((xq_pi 1 8 (v117) (0) M119).bind fun M121 => ((xq_gi 3 8 (x1) M121).bind fun v123 => (some (v123, M121)))))))) else ((xq_gr 11 1 (x0) R110.2).bind fun v125 => ((xq_gi 4 2 (v125) R110.2).bind fun v127 => ((xq_pi 11 9 (x0) (v127) R110.2).bind fun M129 => (some (xwr ((-5000) - (R110.1)), M129))))))))) else ((xq_gr 11 1 (x0) M103).bind fun v131 => ((xq_gi 4 2 (v131) M103).bind fun v133 => (some (xwr ((-1) - (v133)), M103)))))))
theorem k1000_50 {d f : Nat}     {x0 : Nat} {x1 : Nat} {x2 : Int} {M : xj_M} {R : Int × xj_M} (hx2 : xin x2) (h : f1000_50   f x0 x1 x2 M = some R) : xW (d + 12) (some (36, 44, 47, 123, 0), d + 12, none) xr_1000 (50, [(0, xR_ x0), (1, xR_ x1), (2, xI x2)], [], M) (xQi R) := by
  unfold f1000_50 at h
  refine xe_alr (ins := .aload_n 0) (len := 1) (i := 0) (by decide +kernel) rfl rfl rfl rfl rfl ?_
  obtain ⟨v101, e102, h⟩ := xbnd h
  refine xs_gr (i := 10) (c := 11) (k := 0) (by decide +kernel) (by decide) (by decide +kernel) e102 rfl ?_
  refine xe_iconst (n := 0) (by decide +kernel) rfl ?_
  obtain ⟨M103, e104, h⟩ := xbnd h
  refine xs_p (i := 107) (c := 8) (k := 1) (by decide +kernel) (by decide +kernel) (by decide +kernel) e104 rfl ?_
  refine xe_ldn (ins := .iload_n 2) (len := 1) (by decide +kernel) rfl rfl rfl rfl ?_
  refine xe_ifne (off := 13) (t := 72) (by decide +kernel) (by decide) rfl hx2 (fun c105 => ?_) (fun c105 => ?_)
  · rw [if_pos c105] at h
    refine xe_alr (ins := .aload_n 0) (len := 1) (i := 0) (by decide +kernel) rfl rfl rfl rfl rfl ?_
    obtain ⟨v106, e107, h⟩ := xbnd h
    refine xs_gr (i := 21) (c := 11) (k := 1) (by decide +kernel) (by decide) (by decide +kernel) e107 rfl ?_
    obtain ⟨_, e109, h⟩ := xbnd h
    obtain ⟨R110, e108, h⟩ := xbnd h
    refine xs_cv (i := 128) (j := 62) (ar := []) (rest := []) (r2 := xr_62) (by decide +kernel) (by decide +kernel) (by decide +kernel) xr_62_e rfl (by decide) (by decide) e109 ?_
    refine xc_i (yk62 (d := d + 7)   e108) rfl (fun hi111 => ?_)
    refine xe_isr (ins := .istore_n 3) (len := 1) (i := 3) (by decide +kernel) rfl rfl rfl (by decide) (xk_k (show ¬ (0 : Nat) = 3 by decide) (Or.inl (show ¬ (0 + 1 : Nat) = 3 by decide)) (xk_k (show ¬ (1 : Nat) = 3 by decide) (Or.inl (show ¬ (1 + 1 : Nat) = 3 by decide)) (xk_k (show ¬ (2 : Nat) = 3 by decide) (Or.inr (xI_cat _)) xk_n))) rfl ?_
    refine xe_ldn (ins := .iload_n 3) (len := 1) (by decide +kernel) rfl rfl rfl rfl ?_
    refine xe_ifeq (off := 20) (t := 101) (by decide +kernel) (by decide) rfl hi111 (fun c112 => ?_) (fun c112 => ?_)
    · rw [if_pos c112] at h
      refine xe_alr (ins := .aload_n 0) (len := 1) (i := 0) (by decide +kernel) rfl rfl rfl rfl rfl ?_
      obtain ⟨v113, e114, h⟩ := xbnd h
      refine xs_gr (i := 50) (c := 11) (k := 5) (by decide +kernel) (by decide) (by decide +kernel) e114 rfl ?_
      refine xe_alr (ins := .aload_n 0) (len := 1) (i := 0) (by decide +kernel) rfl rfl rfl rfl rfl ?_
      obtain ⟨v115, e116, h⟩ := xbnd h
      refine xs_gi (i := 132) (c := 11) (k := 6) (by decide +kernel) (by decide) (by decide +kernel) e116 rfl ?_
      obtain ⟨v117, e118, h⟩ := xbnd h
      refine xs_aald (by decide +kernel) (xq_gi_in e116) e118 rfl ?_
      refine xe_asr (ins := .astore 4) (len := 2) (i := 4) (by decide +kernel) rfl rfl rfl (by decide) (xk_k (show ¬ (3 : Nat) = 4 by decide) (Or.inr (xI_cat _)) (xk_k (show ¬ (0 : Nat) = 4 by decide) (Or.inl (show ¬ (0 + 1 : Nat) = 4 by decide)) (xk_k (show ¬ (1 : Nat) = 4 by decide) (Or.inl (show ¬ (1 + 1 : Nat) = 4 by decide)) (xk_k (show ¬ (2 : Nat) = 4 by decide) (Or.inl (show ¬ (2 + 1 : Nat) = 4 by decide)) xk_n)))) rfl ?_
      refine xe_alr (ins := .aload 4) (len := 2) (i := 4) (by decide +kernel) rfl rfl rfl rfl rfl ?_
      refine xe_alr (ins := .aload_n 1) (len := 1) (i := 1) (by decide +kernel) rfl rfl rfl rfl rfl ?_
      obtain ⟨M119, e120, h⟩ := xbnd h
      refine xs_p (i := 135) (c := 1) (k := 7) (by decide +kernel) (by decide +kernel) (by decide +kernel) e120 rfl ?_
      refine xe_alr (ins := .aload 4) (len := 2) (i := 4) (by decide +kernel) rfl rfl rfl rfl rfl ?_
      refine xe_iconst (n := 0) (by decide +kernel) rfl ?_
      obtain ⟨M121, e122, h⟩ := xbnd h
      refine xs_p (i := 139) (c := 1) (k := 8) (by decide +kernel) (by decide +kernel) (by decide +kernel) e122 rfl ?_
      refine xe_alr (ins := .aload_n 1) (len := 1) (i := 1) (by decide +kernel) rfl rfl rfl rfl rfl ?_
      obtain ⟨v123, e124, h⟩ := xbnd h
      refine xs_gi (i := 142) (c := 3) (k := 8) (by decide +kernel) (by decide) (by decide +kernel) e124 rfl ?_
      cases h
      exact xe_ret_i (ty := .int) (by decide +kernel) rfl rfl ⟨rfl, rfl, (xq_gi_in e124)⟩
    · rw [if_neg c112] at h
      refine xe_alr (ins := .aload_n 0) (len := 1) (i := 0) (by decide +kernel) rfl rfl rfl rfl rfl ?_
      refine xe_alr (ins := .aload_n 0) (len := 1) (i := 0) (by decide +kernel) rfl rfl rfl rfl rfl ?_
      obtain ⟨v125, e126, h⟩ := xbnd h
      refine xs_gr (i := 21) (c := 11) (k := 1) (by decide +kernel) (by decide) (by decide +kernel) e126 rfl ?_
      obtain ⟨v127, e128, h⟩ := xbnd h
      refine xs_gi (i := 125) (c := 4) (k := 2) (by decide +kernel) (by decide) (by decide +kernel) e128 rfl ?_
      obtain ⟨M129, e130, h⟩ := xbnd h
      refine xs_p (i := 54) (c := 11) (k := 9) (by decide +kernel) (by decide +kernel) (by decide +kernel) e130 rfl ?_
      refine xe_sipush (n := -5000) (by decide +kernel) (by decide) rfl ?_
      refine xe_ldn (ins := .iload_n 3) (len := 1) (by decide +kernel) rfl rfl rfl rfl ?_
      refine xe_isub (by decide +kernel) rfl ?_
      cases h
      exact xe_ret_i (ty := .int) (by decide +kernel) rfl rfl ⟨rfl, rfl, (xin_wr _)⟩
  · rw [if_neg c105] at h
    refine xe_iconst (n := -1) (by decide +kernel) rfl ?_
    refine xe_alr (ins := .aload_n 0) (len := 1) (i := 0) (by decide +kernel) rfl rfl rfl rfl rfl ?_
    obtain ⟨v131, e132, h⟩ := xbnd h
    refine xs_gr (i := 21) (c := 11) (k := 1) (by decide +kernel) (by decide) (by decide +kernel) e132 rfl ?_
    obtain ⟨v133, e134, h⟩ := xbnd h
    refine xs_gi (i := 125) (c := 4) (k := 2) (by decide +kernel) (by decide) (by decide +kernel) e134 rfl ?_
    refine xe_isub (by decide +kernel) rfl ?_
    cases h
    exact xe_ret_i (ty := .int) (by decide +kernel) rfl rfl ⟨rfl, rfl, (xin_wr _)⟩
def f1000  (f : Nat) (a0 : Nat) (M : xj_M) : Option (Int × xj_M) := ((xq_pi 11 9 (a0) (-1) M).bind fun M135 => ((xq_gi 11 7 (a0) M135).bind fun v137 => ((xq_pi 11 7 (a0) (xwr ((v137) + (1))) M135).bind fun M139 => ((xq_nw 3 M139).bind fun p141 => ((xq_gi 11 7 (a0) p141.2).bind fun v143 => ((f19  f (p141.1) (v143) p141.2).bind fun M146 => ((xq_gr 11 0 (a0) M146).bind fun v148 => ((xq_is 8 (v148) M146).bind fun _ => ((f112  f (v148) M146).bind fun M152 => ((xq_gr 11 1 (a0) M152).bind fun v154 => ((xq_is 4 (v154) M152).bind fun _ => ((f30 f (v154) (p141.1) M152).bind fun R158 => xhd R158 0 (f1000_50   f (a0) (p141.1) (0) R158.2) (fun _ => f1000_50   f (a0) (p141.1) (1) R158.2)))))))))))))
theorem k1000 {d f : Nat}   {a0 : Nat} {M : xj_M} {R : Int × xj_M}  (h : f1000  f a0 M = some R) : xT (d + 13) 1000 [xR_ a0] M (xQi R) := by
  refine xT_m xr_1000_e (X := (some (36, 44, 47, 123, 0), d + 12, none)) rfl (xa_1 (xR_cat _) xa_n) (by decide) ?_
  unfold f1000 at h
  refine xe_alr (ins := .aload_n 0) (len := 1) (i := 0) (by decide +kernel) rfl rfl rfl rfl rfl ?_
  refine xe_iconst (n := -1) (by decide +kernel) rfl ?_
  obtain ⟨M135, e136, h⟩ := xbnd h
  refine xs_p (i := 54) (c := 11) (k := 9) (by decide +kernel) (by decide +kernel) (by decide +kernel) e136 rfl ?_
  refine xe_alr (ins := .aload_n 0) (len := 1) (i := 0) (by decide +kernel) rfl rfl rfl rfl rfl ?_
  refine xe_dupr (by decide +kernel) rfl ?_
  obtain ⟨v137, e138, h⟩ := xbnd h
  refine xs_gi (i := 113) (c := 11) (k := 7) (by decide +kernel) (by decide) (by decide +kernel) e138 rfl ?_
  refine xe_iconst (n := 1) (by decide +kernel) rfl ?_
  refine xe_iadd (by decide +kernel) rfl ?_
  obtain ⟨M139, e140, h⟩ := xbnd h
  refine xs_p (i := 113) (c := 11) (k := 7) (by decide +kernel) (by decide +kernel) (by decide +kernel) e140 rfl ?_
  obtain ⟨p141, e142, h⟩ := xbnd h
  refine xs_nw (i := 79) (ci := 3) (x := p141.1) (M1 := p141.2) (by decide +kernel) (by decide +kernel) e142 rfl ?_
  refine xe_dupr (by decide +kernel) rfl ?_
  refine xe_alr (ins := .aload_n 0) (len := 1) (i := 0) (by decide +kernel) rfl rfl rfl rfl rfl ?_
  obtain ⟨v143, e144, h⟩ := xbnd h
  refine xs_gi (i := 113) (c := 11) (k := 7) (by decide +kernel) (by decide) (by decide +kernel) e144 rfl ?_
  obtain ⟨M146, e145, h⟩ := xbnd h
  refine xs_ci (kd := 1) (by decide) (i := 81) (j := 19) (ar := [xI (v143)]) (rest := [xR_ (p141.1)]) (r2 := xr_19) (by decide +kernel) (by decide +kernel) xr_19_e rfl rfl (by simp only [List.map_cons, List.map_nil, List.sum_cons, List.sum_nil, xR_cat, xI_cat, xZ_cat]; decide) (xq_nw_ne e142) ?_
  refine xc_v (k19 (d := d + 11)  (xq_gi_in e144) e145) rfl ?_
  refine xe_asr (ins := .astore_n 1) (len := 1) (i := 1) (by decide +kernel) rfl rfl rfl (by decide) (xk_k (show ¬ (0 : Nat) = 1 by decide) (Or.inr (xR_cat _)) xk_n) rfl ?_
  refine xe_iconst (n := 1) (by decide +kernel) rfl ?_
  refine xe_isr (ins := .istore_n 2) (len := 1) (i := 2) (by decide +kernel) rfl rfl rfl (by decide) (xk_k (show ¬ (1 : Nat) = 2 by decide) (Or.inr (xR_cat _)) (xk_k (show ¬ (0 : Nat) = 2 by decide) (Or.inl (show ¬ (0 + 1 : Nat) = 2 by decide)) xk_n)) rfl ?_
  refine xe_alr (ins := .aload_n 0) (len := 1) (i := 0) (by decide +kernel) rfl rfl rfl rfl rfl ?_
  obtain ⟨v148, e149, h⟩ := xbnd h
  refine xs_gr (i := 10) (c := 11) (k := 0) (by decide +kernel) (by decide) (by decide +kernel) e149 rfl ?_
  obtain ⟨_, e151, h⟩ := xbnd h
  obtain ⟨M152, e150, h⟩ := xbnd h
  refine xs_cv (i := 116) (j := 112) (ar := []) (rest := []) (r2 := xr_112) (by decide +kernel) (by decide +kernel) (by decide +kernel) xr_112_e rfl (by decide) (by decide) e151 ?_
  refine xc_v (k112 (d := d + 4)   e150) rfl ?_
  refine xe_alr (ins := .aload_n 0) (len := 1) (i := 0) (by decide +kernel) rfl rfl rfl rfl rfl ?_
  obtain ⟨v154, e155, h⟩ := xbnd h
  refine xs_gr (i := 21) (c := 11) (k := 1) (by decide +kernel) (by decide) (by decide +kernel) e155 rfl ?_
  refine xe_alr (ins := .aload_n 1) (len := 1) (i := 1) (by decide +kernel) rfl rfl rfl rfl rfl ?_
  obtain ⟨_, e157, h⟩ := xbnd h
  obtain ⟨R158, e156, h⟩ := xbnd h
  refine xs2_cv (kd := 0) (jj := 30) (by decide) (i := 119) (j := 30) (ar := [xR_ (p141.1)]) (rest := []) (r2 := xr_30) (by decide +kernel) (by decide +kernel) (by decide +kernel) xr_30_e rfl (by decide) (by decide) e157 ?_
  refine xct_v (k30 (d := d + 0)  e156) rfl (fun e1 g160 => ?_) (fun g160 => ?_)
  · obtain ⟨e2, h⟩ := xhd_l g160 h
    refine xK_han (t := (36, 44, 47, 123, 0)) (i4 := 3) rfl ⟨by decide, by decide, e2⟩ (by decide +kernel) (by decide) (xk_k (show ¬ (2 : Nat) = 3 by decide) (Or.inr (xI_cat _)) (xk_k (show ¬ (1 : Nat) = 3 by decide) (Or.inl (show ¬ (1 + 1 : Nat) = 3 by decide)) (xk_k (show ¬ (0 : Nat) = 3 by decide) (Or.inl (show ¬ (0 + 1 : Nat) = 3 by decide)) xk_n))) ?_
    refine xe_iconst (n := 0) (by decide +kernel) rfl ?_
    refine xe_isr (ins := .istore_n 2) (len := 1) (i := 2) (by decide +kernel) rfl rfl rfl (by decide) (xk_d rfl (xk_k (show ¬ (1 : Nat) = 2 by decide) (Or.inr (xR_cat _)) (xk_k (show ¬ (0 : Nat) = 2 by decide) (Or.inl (show ¬ (0 + 1 : Nat) = 2 by decide)) xk_n))) rfl ?_
    refine xW_lv2 (l := [(0, xR_ (a0)), (1, xR_ (p141.1)), (2, xI (0))]) (xsb_of ⟨rfl, rfl, rfl, trivial⟩ (show [2, 1, 0].Nodup by decide)) ?_
    exact k1000_50   (show xin (0) by decide) h
  · rw [xhd_r g160] at h
    refine xe_goto (off := 6) (nx := 50) (by decide +kernel) (by decide) ?_
    refine xW_lv2 (l := [(0, xR_ (a0)), (1, xR_ (p141.1)), (2, xI (1))]) (xsb_of ⟨rfl, rfl, rfl, trivial⟩ (show [2, 1, 0].Nodup by decide)) ?_
    exact k1000_50   (show xin (1) by decide) h
