/-! Mirrors (written by mk_mir.py) -/
-- ChangeHouse$Formula.addRead
def xr_2 : xj_mR := (0, yX0_addRead, cX0_addRead, 2, (Option.none : Option Jvm.ClassFile.FieldType), 1, false, (6, 36), (1, 28))
set_option maxRecDepth 20000 in
theorem xr_2_e : xj_row 2 = some xr_2 := rfl
def f2_36   (f : Nat)  (M : xj_M) : Option (xj_M) := (some M)
theorem k2_36 {d f : Nat}      {M : xj_M} {R : xj_M}  (h : f2_36   f  M = some R) : xW (d + 0) (none, d + 0, none) xr_2 (36, [], [], M) (xQv R) := by
  unfold f2_36 at h
  cases h
  exact xe_ret_v (by decide +kernel) rfl ⟨rfl, rfl⟩
def f2  (f : Nat) (a0 : Nat) (a1 : Int) (M : xj_M) : Option (xj_M) := (if (64) ≤ (a1) then ((xq_gl 0 3 (a0) M).bind fun v102 => ((xq_pl 0 3 (a0) (xor8 (v102) (xshl8 (1) (xwr ((a1) - (64))))) M).bind fun M104 => f2_36   f  M104)) else ((xq_gl 0 2 (a0) M).bind fun v106 => ((xq_pl 0 2 (a0) (xor8 (v106) (xshl8 (1) (a1))) M).bind fun M108 => f2_36   f  M108)))
theorem k2 {d f : Nat}   {a0 : Nat} {a1 : Int} {M : xj_M} {R : xj_M} (ha1 : xin a1) (h : f2  f a0 a1 M = some R) : xT (d + 1) 2 [xR_ a0, xI a1] M (xQv R) := by
  refine xT_m xr_2_e (X := (none, d + 0, none)) rfl (xa_1 (xR_cat _) (xa_1 (xI_cat _) xa_n)) (by decide) ?_
  unfold f2 at h
  refine xe_ldn (ins := .iload_n 1) (len := 1) (by decide +kernel) rfl rfl rfl rfl ?_
  refine xe_bipush (n := 64) (by decide +kernel) (by decide) rfl ?_
  refine xe_icmpge (off := 18) (t := 21) (by decide +kernel) (by decide) rfl ha1 (show xin (64) by decide) (fun c101 => ?_) (fun c101 => ?_)
  · rw [if_pos c101] at h
    refine xe_alr (ins := .aload_n 0) (len := 1) (i := 0) (by decide +kernel) rfl rfl rfl rfl rfl ?_
    refine xe_dupr (by decide +kernel) rfl ?_
    obtain ⟨v102, e103, h⟩ := xbnd h
    refine xs_gl (i := 35) (c := 0) (k := 3) (by decide +kernel) (by decide) (by decide +kernel) e103 rfl ?_
    refine xe_lconst (n := 1) (z := 1) (by decide +kernel) rfl rfl ?_
    refine xe_ldn (ins := .iload_n 1) (len := 1) (by decide +kernel) rfl rfl rfl rfl ?_
    refine xe_bipush (n := 64) (by decide +kernel) (by decide) rfl ?_
    refine xe_isub (by decide +kernel) rfl ?_
    refine xe_lshl (by decide +kernel) rfl ?_
    refine xe_lor (by decide +kernel) rfl ?_
    obtain ⟨M104, e105, h⟩ := xbnd h
    refine xs_p (i := 35) (c := 0) (k := 3) (by decide +kernel) (by decide +kernel) (by decide +kernel) e105 rfl ?_
    refine xW_lv rfl (l := []) (xsb_of trivial (show [0, 1].Nodup by decide)) ?_
    exact k2_36    h
  · rw [if_neg c101] at h
    refine xe_alr (ins := .aload_n 0) (len := 1) (i := 0) (by decide +kernel) rfl rfl rfl rfl rfl ?_
    refine xe_dupr (by decide +kernel) rfl ?_
    obtain ⟨v106, e107, h⟩ := xbnd h
    refine xs_gl (i := 31) (c := 0) (k := 2) (by decide +kernel) (by decide) (by decide +kernel) e107 rfl ?_
    refine xe_lconst (n := 1) (z := 1) (by decide +kernel) rfl rfl ?_
    refine xe_ldn (ins := .iload_n 1) (len := 1) (by decide +kernel) rfl rfl rfl rfl ?_
    refine xe_lshl (by decide +kernel) rfl ?_
    refine xe_lor (by decide +kernel) rfl ?_
    obtain ⟨M108, e109, h⟩ := xbnd h
    refine xs_p (i := 31) (c := 0) (k := 2) (by decide +kernel) (by decide +kernel) (by decide +kernel) e109 rfl ?_
    refine xe_goto (off := 18) (nx := 36) (by decide +kernel) (by decide) ?_
    refine xW_lv rfl (l := []) (xsb_of trivial (show [0, 1].Nodup by decide)) ?_
    exact k2_36    h
-- ChangeHouse$Formula.readsAny
def xr_3 : xj_mR := (0, yX0_readsAny, cX0_readsAny, 5, (Option.some Jvm.ClassFile.FieldType.boolean), 2, false, (7, 79), (1, 28))
set_option maxRecDepth 20000 in
theorem xr_3_e : xj_row 3 = some xr_3 := rfl
def f3_27   (f : Nat) (y0 : Int) (M : xj_M) : Option (Int × xj_M) := (if (y0) = 0 ∨ (y0) = 1 then some (y0, M) else none)
theorem k3_27 {d f : Nat}     {y0 : Int} {M : xj_M} {R : Int × xj_M} (hy0 : xin y0) (h : f3_27   f y0 M = some R) : xW (d + 0) (none, d + 0, none) xr_3 (27, [], [xI y0], M) (xQi R) := by
  unfold f3_27 at h
  by_cases c101 : (y0) = 0 ∨ (y0) = 1
  · rw [if_pos c101] at h; cases h; exact xe_ret_i (ty := .boolean) (by decide +kernel) rfl (xbool c101) ⟨rfl, rfl, hy0⟩
  · rw [if_neg c101] at h; cases h
def f3_22   (f : Nat)  (M : xj_M) : Option (Int × xj_M) := f3_27   f (1) M
theorem k3_22 {d f : Nat}      {M : xj_M} {R : Int × xj_M}  (h : f3_22   f  M = some R) : xW (d + 0) (none, d + 0, none) xr_3 (22, [], [], M) (xQi R) := by
  unfold f3_22 at h
  refine xe_iconst (n := 1) (by decide +kernel) rfl ?_
  refine xe_goto (off := 4) (nx := 27) (by decide +kernel) (by decide) ?_
  refine xW_lv rfl (l := []) (xsb_of trivial (show [].Nodup by decide)) ?_
  exact k3_27   (show xin (1) by decide) h
def f3  (f : Nat) (a0 : Nat) (a1 : Int) (a2 : Int) (M : xj_M) : Option (Int × xj_M) := ((xq_gl 0 2 (a0) M).bind fun v102 => (if ¬ (xand8 (v102) (a1)) = (0) then f3_22   f  M else ((xq_gl 0 3 (a0) M).bind fun v105 => (if (xand8 (v105) (a2)) = (0) then f3_27   f (0) M else f3_22   f  M))))
theorem k3 {d f : Nat}   {a0 : Nat} {a1 : Int} {a2 : Int} {M : xj_M} {R : Int × xj_M} (ha1 : xiN a1) (ha2 : xiN a2) (h : f3  f a0 a1 a2 M = some R) : xT (d + 1) 3 [xR_ a0, xZ a1, xZ a2] M (xQi R) := by
  refine xT_m xr_3_e (X := (none, d + 0, none)) rfl (xa_1 (xR_cat _) (xa_2 (xZ_cat _) (xa_2 (xZ_cat _) xa_n))) (by decide) ?_
  unfold f3 at h
  refine xe_alr (ins := .aload_n 0) (len := 1) (i := 0) (by decide +kernel) rfl rfl rfl rfl rfl ?_
  obtain ⟨v102, e103, h⟩ := xbnd h
  refine xs_gl (i := 31) (c := 0) (k := 2) (by decide +kernel) (by decide) (by decide +kernel) e103 rfl ?_
  refine xe_ldn (ins := .lload_n 1) (len := 1) (by decide +kernel) rfl rfl rfl rfl ?_
  refine xe_land (by decide +kernel) rfl ?_
  refine xe_lconst (n := 0) (z := 0) (by decide +kernel) rfl rfl ?_
  refine xe_lcmp (by decide +kernel) rfl (xiN_of _) (show xiN (0) by decide) ?_
  refine xe_ifne (off := 14) (t := 22) (by decide +kernel) (by decide) rfl (xin_cmp8 _ _) (fun c104 => ?_) (fun c104 => ?_)
  · have c104 := xcmp8_ne.mp c104; rw [if_pos c104] at h
    refine xW_lv rfl (l := []) (xsb_of trivial (show [0, 1, 3].Nodup by decide)) ?_
    exact k3_22    h
  · have c104 := (not_congr xcmp8_ne).mp c104; rw [if_neg c104] at h
    refine xe_alr (ins := .aload_n 0) (len := 1) (i := 0) (by decide +kernel) rfl rfl rfl rfl rfl ?_
    obtain ⟨v105, e106, h⟩ := xbnd h
    refine xs_gl (i := 35) (c := 0) (k := 3) (by decide +kernel) (by decide) (by decide +kernel) e106 rfl ?_
    refine xe_ldn (ins := .lload_n 3) (len := 1) (by decide +kernel) rfl rfl rfl rfl ?_
    refine xe_land (by decide +kernel) rfl ?_
    refine xe_lconst (n := 0) (z := 0) (by decide +kernel) rfl rfl ?_
    refine xe_lcmp (by decide +kernel) rfl (xiN_of _) (show xiN (0) by decide) ?_
    refine xe_ifeq (off := 7) (t := 26) (by decide +kernel) (by decide) rfl (xin_cmp8 _ _) (fun c107 => ?_) (fun c107 => ?_)
    · have c107 := xcmp8_eq.mp c107; rw [if_pos c107] at h
      refine xe_iconst (n := 0) (by decide +kernel) rfl ?_
      refine xW_lv rfl (l := []) (xsb_of trivial (show [0, 1, 3].Nodup by decide)) ?_
      exact k3_27   (show xin (0) by decide) h
    · have c107 := (not_congr xcmp8_eq).mp c107; rw [if_neg c107] at h
      refine xW_lv rfl (l := []) (xsb_of trivial (show [0, 1, 3].Nodup by decide)) ?_
      exact k3_22    h
-- ChangeHouse$Line.<init>
def xr_4 : xj_mR := (1, yX1_init, cX1_init, 2, (Option.none : Option Jvm.ClassFile.FieldType), 1, true, (2, 225), (1, 11))
set_option maxRecDepth 20000 in
theorem xr_4_e : xj_row 4 = some xr_4 := rfl
def f4  (f : Nat) (a0 : Nat) (a1 : Nat) (M : xj_M) : Option (xj_M) := ((xq_nz (a0)).bind fun _ => ((xq_an 2 (520) M).bind fun p102 => ((xq_pr 1 0 (a0) (p102.1) p102.2).bind fun M104 => ((xq_pi 1 3 (a0) (-1) M104).bind fun M106 => ((xq_na 3 (16) M106).bind fun p108 => ((xq_pr 1 5 (a0) (p108.1) p108.2).bind fun M110 => ((xq_na 3 (72) M110).bind fun p112 => ((xq_pr 1 6 (a0) (p112.1) p112.2).bind fun M114 => ((xq_na 3 (400) M114).bind fun p116 => ((xq_pr 1 9 (a0) (p116.1) p116.2).bind fun M118 => ((xq_na 0 (400) M118).bind fun p120 => ((xq_pr 1 10 (a0) (p120.1) p120.2).bind fun M122 => ((xq_na 4 (1600) M122).bind fun p124 => ((xq_pr 1 11 (a0) (p124.1) p124.2).bind fun M126 => ((xq_na 0 (72) M126).bind fun p128 => ((xq_pr 1 12 (a0) (p128.1) p128.2).bind fun M130 => ((xq_an 0 (72) M130).bind fun p132 => ((xq_pr 1 13 (a0) (p132.1) p132.2).bind fun M134 => ((xq_gr 1 0 (a0) M134).bind fun v136 => ((xq_sr (v136) (0) (a1) M134).bind fun M138 => (some M138)))))))))))))))))))))
theorem k4 {d f : Nat}   {a0 : Nat} {a1 : Nat} {M : xj_M} {R : xj_M}  (h : f4  f a0 a1 M = some R) : xT (d + 1) 4 [xR_ a0, xR_ a1] M (xQv R) := by
  refine xT_m xr_4_e (X := (none, d + 0, none)) rfl (xa_1 (xR_cat _) (xa_1 (xR_cat _) xa_n)) (by decide) ?_
  unfold f4 at h
  refine xe_alr (ins := .aload_n 0) (len := 1) (i := 0) (by decide +kernel) rfl rfl rfl rfl rfl ?_
  obtain ⟨_, e101, h⟩ := xbnd h
  refine xe_oi (i := 3) (j := 0) (by decide +kernel) (by decide +kernel) (by rfl) (xq_nz_ne e101) rfl ?_
  refine xe_alr (ins := .aload_n 0) (len := 1) (i := 0) (by decide +kernel) rfl rfl rfl rfl rfl ?_
  refine xe_sipush (n := 520) (by decide +kernel) (by decide) rfl ?_
  obtain ⟨p102, e103, h⟩ := xbnd h
  refine xs_an (i := 9) (ci := 2) (x := p102.1) (M1 := p102.2) (by decide +kernel) (by decide +kernel) (show xin (520) by decide) e103 rfl ?_
  obtain ⟨M104, e105, h⟩ := xbnd h
  refine xs_p (i := 11) (c := 1) (k := 0) (by decide +kernel) (by decide +kernel) (by decide +kernel) e105 rfl ?_
  refine xe_alr (ins := .aload_n 0) (len := 1) (i := 0) (by decide +kernel) rfl rfl rfl rfl rfl ?_
  refine xe_iconst (n := -1) (by decide +kernel) rfl ?_
  obtain ⟨M106, e107, h⟩ := xbnd h
  refine xs_p (i := 17) (c := 1) (k := 3) (by decide +kernel) (by decide +kernel) (by decide +kernel) e107 rfl ?_
  refine xe_alr (ins := .aload_n 0) (len := 1) (i := 0) (by decide +kernel) rfl rfl rfl rfl rfl ?_
  refine xe_bipush (n := 16) (by decide +kernel) (by decide) rfl ?_
  obtain ⟨p108, e109, h⟩ := xbnd h
  refine xs_na (kk := 3) (ty := .int) (x := p108.1) (M1 := p108.2) (by decide +kernel) rfl (show xin (16) by decide) e109 rfl ?_
  obtain ⟨M110, e111, h⟩ := xbnd h
  refine xs_p (i := 21) (c := 1) (k := 5) (by decide +kernel) (by decide +kernel) (by decide +kernel) e111 rfl ?_
  refine xe_alr (ins := .aload_n 0) (len := 1) (i := 0) (by decide +kernel) rfl rfl rfl rfl rfl ?_
  refine xe_bipush (n := 72) (by decide +kernel) (by decide) rfl ?_
  obtain ⟨p112, e113, h⟩ := xbnd h
  refine xs_na (kk := 3) (ty := .int) (x := p112.1) (M1 := p112.2) (by decide +kernel) rfl (show xin (72) by decide) e113 rfl ?_
  obtain ⟨M114, e115, h⟩ := xbnd h
  refine xs_p (i := 25) (c := 1) (k := 6) (by decide +kernel) (by decide +kernel) (by decide +kernel) e115 rfl ?_
  refine xe_alr (ins := .aload_n 0) (len := 1) (i := 0) (by decide +kernel) rfl rfl rfl rfl rfl ?_
  refine xe_sipush (n := 400) (by decide +kernel) (by decide) rfl ?_
  obtain ⟨p116, e117, h⟩ := xbnd h
  refine xs_na (kk := 3) (ty := .int) (x := p116.1) (M1 := p116.2) (by decide +kernel) rfl (show xin (400) by decide) e117 rfl ?_
  obtain ⟨M118, e119, h⟩ := xbnd h
  refine xs_p (i := 28) (c := 1) (k := 9) (by decide +kernel) (by decide +kernel) (by decide +kernel) e119 rfl ?_
  refine xe_alr (ins := .aload_n 0) (len := 1) (i := 0) (by decide +kernel) rfl rfl rfl rfl rfl ?_
  refine xe_sipush (n := 400) (by decide +kernel) (by decide) rfl ?_
  obtain ⟨p120, e121, h⟩ := xbnd h
  refine xs_na (kk := 0) (ty := .boolean) (x := p120.1) (M1 := p120.2) (by decide +kernel) rfl (show xin (400) by decide) e121 rfl ?_
  obtain ⟨M122, e123, h⟩ := xbnd h
  refine xs_p (i := 31) (c := 1) (k := 10) (by decide +kernel) (by decide +kernel) (by decide +kernel) e123 rfl ?_
  refine xe_alr (ins := .aload_n 0) (len := 1) (i := 0) (by decide +kernel) rfl rfl rfl rfl rfl ?_
  refine xe_sipush (n := 1600) (by decide +kernel) (by decide) rfl ?_
  obtain ⟨p124, e125, h⟩ := xbnd h
  refine xs_na (kk := 4) (ty := .long) (x := p124.1) (M1 := p124.2) (by decide +kernel) rfl (show xin (1600) by decide) e125 rfl ?_
  obtain ⟨M126, e127, h⟩ := xbnd h
  refine xs_p (i := 35) (c := 1) (k := 11) (by decide +kernel) (by decide +kernel) (by decide +kernel) e127 rfl ?_
  refine xe_alr (ins := .aload_n 0) (len := 1) (i := 0) (by decide +kernel) rfl rfl rfl rfl rfl ?_
  refine xe_bipush (n := 72) (by decide +kernel) (by decide) rfl ?_
  obtain ⟨p128, e129, h⟩ := xbnd h
  refine xs_na (kk := 0) (ty := .boolean) (x := p128.1) (M1 := p128.2) (by decide +kernel) rfl (show xin (72) by decide) e129 rfl ?_
  obtain ⟨M130, e131, h⟩ := xbnd h
  refine xs_p (i := 39) (c := 1) (k := 12) (by decide +kernel) (by decide +kernel) (by decide +kernel) e131 rfl ?_
  refine xe_alr (ins := .aload_n 0) (len := 1) (i := 0) (by decide +kernel) rfl rfl rfl rfl rfl ?_
  refine xe_bipush (n := 72) (by decide +kernel) (by decide) rfl ?_
  obtain ⟨p132, e133, h⟩ := xbnd h
  refine xs_an (i := 42) (ci := 0) (x := p132.1) (M1 := p132.2) (by decide +kernel) (by decide +kernel) (show xin (72) by decide) e133 rfl ?_
  obtain ⟨M134, e135, h⟩ := xbnd h
  refine xs_p (i := 44) (c := 1) (k := 13) (by decide +kernel) (by decide +kernel) (by decide +kernel) e135 rfl ?_
  refine xe_alr (ins := .aload_n 0) (len := 1) (i := 0) (by decide +kernel) rfl rfl rfl rfl rfl ?_
  obtain ⟨v136, e137, h⟩ := xbnd h
  refine xs_gr (i := 11) (c := 1) (k := 0) (by decide +kernel) (by decide) (by decide +kernel) e137 rfl ?_
  refine xe_iconst (n := 0) (by decide +kernel) rfl ?_
  refine xe_alr (ins := .aload_n 1) (len := 1) (i := 1) (by decide +kernel) rfl rfl rfl rfl rfl ?_
  obtain ⟨M138, e139, h⟩ := xbnd h
  refine xs_aast (by decide +kernel) (show xin (0) by decide) e139 rfl ?_
  cases h
  exact xe_ret_v (by decide +kernel) rfl ⟨rfl, rfl⟩
-- ChangeHouse$Line.present
def xr_5 : xj_mR := (1, yX1_present, cX1_present, 1, (Option.some (Jvm.ClassFile.FieldType.object "ChangeHouse$Moment")), 0, false, (6, 3), (1, 11))
set_option maxRecDepth 20000 in
theorem xr_5_e : xj_row 5 = some xr_5 := rfl
def f5  (f : Nat) (a0 : Nat) (M : xj_M) : Option (Nat × xj_M) := ((xq_gr 1 0 (a0) M).bind fun v101 => ((xq_gi 1 1 (a0) M).bind fun v103 => ((xq_ar (v101) (v103) M).bind fun v105 => (some (v105, M)))))
theorem k5 {d f : Nat}   {a0 : Nat} {M : xj_M} {R : Nat × xj_M}  (h : f5  f a0 M = some R) : xT (d + 1) 5 [xR_ a0] M (yxQr R) := by
  refine xT_m xr_5_e (X := (none, d + 0, none)) rfl (xa_1 (xR_cat _) xa_n) (by decide) ?_
  unfold f5 at h
  refine xe_alr (ins := .aload_n 0) (len := 1) (i := 0) (by decide +kernel) rfl rfl rfl rfl rfl ?_
  obtain ⟨v101, e102, h⟩ := xbnd h
  refine xs_gr (i := 11) (c := 1) (k := 0) (by decide +kernel) (by decide) (by decide +kernel) e102 rfl ?_
  refine xe_alr (ins := .aload_n 0) (len := 1) (i := 0) (by decide +kernel) rfl rfl rfl rfl rfl ?_
  obtain ⟨v103, e104, h⟩ := xbnd h
  refine xs_gi (i := 48) (c := 1) (k := 1) (by decide +kernel) (by decide) (by decide +kernel) e104 rfl ?_
  obtain ⟨v105, e106, h⟩ := xbnd h
  refine xs_aald (by decide +kernel) (xq_gi_in e104) e106 rfl ?_
  cases h
  exact xe_ret_r (by decide +kernel) rfl rfl ⟨rfl, rfl⟩
-- ChangeHouse$Line.isPast
def xr_6 : xj_mR := (1, yX1_isPast, cX1_isPast, 2, (Option.some Jvm.ClassFile.FieldType.boolean), 1, false, (7, 174), (1, 11))
set_option maxRecDepth 20000 in
theorem xr_6_e : xj_row 6 = some xr_6 := rfl
def f6_21   (f : Nat) (y0 : Int) (M : xj_M) : Option (Int × xj_M) := (if (y0) = 0 ∨ (y0) = 1 then some (y0, M) else none)
theorem k6_21 {d f : Nat}     {y0 : Int} {M : xj_M} {R : Int × xj_M} (hy0 : xin y0) (h : f6_21   f y0 M = some R) : xW (d + 0) (none, d + 0, none) xr_6 (21, [], [xI y0], M) (xQi R) := by
  unfold f6_21 at h
  by_cases c101 : (y0) = 0 ∨ (y0) = 1
  · rw [if_pos c101] at h; cases h; exact xe_ret_i (ty := .boolean) (by decide +kernel) rfl (xbool c101) ⟨rfl, rfl, hy0⟩
  · rw [if_neg c101] at h; cases h
def f6_20   (f : Nat)  (M : xj_M) : Option (Int × xj_M) := f6_21   f (0) M
theorem k6_20 {d f : Nat}      {M : xj_M} {R : Int × xj_M}  (h : f6_20   f  M = some R) : xW (d + 0) (none, d + 0, none) xr_6 (20, [], [], M) (xQi R) := by
  unfold f6_20 at h
  refine xe_iconst (n := 0) (by decide +kernel) rfl ?_
  refine xW_lv rfl (l := []) (xsb_of trivial (show [].Nodup by decide)) ?_
  exact k6_21   (show xin (0) by decide) h
def f6  (f : Nat) (a0 : Nat) (a1 : Int) (M : xj_M) : Option (Int × xj_M) := ((xq_gi 1 2 (a0) M).bind fun v102 => (if (a1) < (v102) then f6_20   f  M else ((xq_gi 1 1 (a0) M).bind fun v105 => (if (v105) < (a1) then f6_20   f  M else f6_21   f (1) M))))
theorem k6 {d f : Nat}   {a0 : Nat} {a1 : Int} {M : xj_M} {R : Int × xj_M} (ha1 : xin a1) (h : f6  f a0 a1 M = some R) : xT (d + 1) 6 [xR_ a0, xI a1] M (xQi R) := by
  refine xT_m xr_6_e (X := (none, d + 0, none)) rfl (xa_1 (xR_cat _) (xa_1 (xI_cat _) xa_n)) (by decide) ?_
  unfold f6 at h
  refine xe_ldn (ins := .iload_n 1) (len := 1) (by decide +kernel) rfl rfl rfl rfl ?_
  refine xe_alr (ins := .aload_n 0) (len := 1) (i := 0) (by decide +kernel) rfl rfl rfl rfl rfl ?_
  obtain ⟨v102, e103, h⟩ := xbnd h
  refine xs_gi (i := 51) (c := 1) (k := 2) (by decide +kernel) (by decide) (by decide +kernel) e103 rfl ?_
  refine xe_icmplt (off := 15) (t := 20) (by decide +kernel) (by decide) rfl ha1 (xq_gi_in e103) (fun c104 => ?_) (fun c104 => ?_)
  · rw [if_pos c104] at h
    refine xW_lv rfl (l := []) (xsb_of trivial (show [0, 1].Nodup by decide)) ?_
    exact k6_20    h
  · rw [if_neg c104] at h
    refine xe_ldn (ins := .iload_n 1) (len := 1) (by decide +kernel) rfl rfl rfl rfl ?_
    refine xe_alr (ins := .aload_n 0) (len := 1) (i := 0) (by decide +kernel) rfl rfl rfl rfl rfl ?_
    obtain ⟨v105, e106, h⟩ := xbnd h
    refine xs_gi (i := 48) (c := 1) (k := 1) (by decide +kernel) (by decide) (by decide +kernel) e106 rfl ?_
    refine xe_icmpgt (off := 7) (t := 20) (by decide +kernel) (by decide) rfl ha1 (xq_gi_in e106) (fun c107 => ?_) (fun c107 => ?_)
    · rw [if_pos c107] at h
      refine xW_lv rfl (l := []) (xsb_of trivial (show [0, 1].Nodup by decide)) ?_
      exact k6_20    h
    · rw [if_neg c107] at h
      refine xe_iconst (n := 1) (by decide +kernel) rfl ?_
      refine xe_goto (off := 4) (nx := 21) (by decide +kernel) (by decide) ?_
      refine xW_lv rfl (l := []) (xsb_of trivial (show [0, 1].Nodup by decide)) ?_
      exact k6_21   (show xin (1) by decide) h
-- ChangeHouse$Line.emptyPending
def xr_7 : xj_mR := (1, yX1_emptyPending, cX1_emptyPending, 2, (Option.none : Option Jvm.ClassFile.FieldType), 0, false, (6, 69), (1, 11))
set_option maxRecDepth 20000 in
theorem xr_7_e : xj_row 7 = some xr_7 := rfl
def f7_12b  (r12 : Nat → Int → xj_M → Option (xj_M)) (f : Nat) (x0 : Nat) (x1 : Int) (M : xj_M) : Option (xj_M) := (if (72) ≤ (x1) then (some M) else ((xq_gr 1 12 (x0) M).bind fun v102 => ((xq_sb (v102) (x1) (0) M).bind fun M104 => ((xq_gr 1 13 (x0) M104).bind fun v106 => ((xq_sr (v106) (x1) (0) M104).bind fun M108 => r12 (x0) (xwr ((x1) + (1))) M108)))))
theorem k7_12b {d f : Nat}  {r12 : Nat → Int → xj_M → Option (xj_M)}  (hr12 : ∀ {x0 : Nat} {x1 : Int} {M : xj_M} {R : xj_M}, xin x1 → r12 x0 x1 M = some R → xW (d + 0) (none, d + 0, none) xr_7 (12, [(0, xR_ x0), (1, xI x1)], [], M) (xQv R)) {x0 : Nat} {x1 : Int} {M : xj_M} {R : xj_M} (hx1 : xin x1) (h : f7_12b  r12 f x0 x1 M = some R) : xW (d + 0) (none, d + 0, none) xr_7 (12, [(0, xR_ x0), (1, xI x1)], [], M) (xQv R) := by
  unfold f7_12b at h
  refine xe_ldn (ins := .iload_n 1) (len := 1) (by decide +kernel) rfl rfl rfl rfl ?_
  refine xe_bipush (n := 72) (by decide +kernel) (by decide) rfl ?_
  refine xe_icmpge (off := 23) (t := 38) (by decide +kernel) (by decide) rfl hx1 (show xin (72) by decide) (fun c101 => ?_) (fun c101 => ?_)
  · rw [if_pos c101] at h
    cases h
    exact xe_ret_v (by decide +kernel) rfl ⟨rfl, rfl⟩
  · rw [if_neg c101] at h
    refine xe_alr (ins := .aload_n 0) (len := 1) (i := 0) (by decide +kernel) rfl rfl rfl rfl rfl ?_
    obtain ⟨v102, e103, h⟩ := xbnd h
    refine xs_gr (i := 39) (c := 1) (k := 12) (by decide +kernel) (by decide) (by decide +kernel) e103 rfl ?_
    refine xe_ldn (ins := .iload_n 1) (len := 1) (by decide +kernel) rfl rfl rfl rfl ?_
    refine xe_iconst (n := 0) (by decide +kernel) rfl ?_
    obtain ⟨M104, e105, h⟩ := xbnd h
    refine xs_bast (by decide +kernel) hx1 e105 rfl ?_
    refine xe_alr (ins := .aload_n 0) (len := 1) (i := 0) (by decide +kernel) rfl rfl rfl rfl rfl ?_
    obtain ⟨v106, e107, h⟩ := xbnd h
    refine xs_gr (i := 44) (c := 1) (k := 13) (by decide +kernel) (by decide) (by decide +kernel) e107 rfl ?_
    refine xe_ldn (ins := .iload_n 1) (len := 1) (by decide +kernel) rfl rfl rfl rfl ?_
    refine xe_pure (ins := .aconst_null) (len := 1) (by decide +kernel) rfl rfl rfl ?_
    obtain ⟨M108, e109, h⟩ := xbnd h
    refine xs_aast (by decide +kernel) hx1 e109 rfl ?_
    refine xe_iincr (i := 1) (n := 1) (by decide +kernel) (by decide) rfl (xk_k (show ¬ (0 : Nat) = 1 by decide) (Or.inr (xR_cat _)) (xk_d rfl xk_n)) rfl ?_
    refine xe_goto (off := -23) (nx := 12) (by decide +kernel) (by decide) ?_
    refine xW_lv rfl (l := [(0, xR_ (x0)), (1, xI (xwr ((x1) + (1))))]) (xsb_of ⟨rfl, rfl, trivial⟩ (show [1, 0].Nodup by decide)) ?_
    exact hr12 (xin_wr _) h
def f7_12   (f : Nat) : Nat → Nat → Int → xj_M → Option (xj_M)
  | 0, _, _, _ => none
  | n + 1, x0, x1, M => f7_12b   (f7_12   f n) f x0 x1 M
theorem k7_12 {d f : Nat}     : ∀ {n : Nat} {x0 : Nat} {x1 : Int} {M : xj_M} {R : xj_M}, xin x1 → f7_12   f n x0 x1 M = some R → xW (d + 0) (none, d + 0, none) xr_7 (12, [(0, xR_ x0), (1, xI x1)], [], M) (xQv R) := by
  intro n
  induction n with
  | zero => intros; rename_i h; cases h
  | succ n ih => intros; rename_i h; exact k7_12b   ih (by assumption) h
def f7  (f : Nat) (a0 : Nat) (M : xj_M) : Option (xj_M) := ((xq_pr 1 7 (a0) (0) M).bind fun M110 => ((xq_pi 1 8 (a0) (0) M110).bind fun M112 => f7_12   f f (a0) (0) M112))
theorem k7 {d f : Nat}   {a0 : Nat} {M : xj_M} {R : xj_M}  (h : f7  f a0 M = some R) : xT (d + 1) 7 [xR_ a0] M (xQv R) := by
  refine xT_m xr_7_e (X := (none, d + 0, none)) rfl (xa_1 (xR_cat _) xa_n) (by decide) ?_
  unfold f7 at h
  refine xe_alr (ins := .aload_n 0) (len := 1) (i := 0) (by decide +kernel) rfl rfl rfl rfl rfl ?_
  refine xe_pure (ins := .aconst_null) (len := 1) (by decide +kernel) rfl rfl rfl ?_
  obtain ⟨M110, e111, h⟩ := xbnd h
  refine xs_p (i := 54) (c := 1) (k := 7) (by decide +kernel) (by decide +kernel) (by decide +kernel) e111 rfl ?_
  refine xe_alr (ins := .aload_n 0) (len := 1) (i := 0) (by decide +kernel) rfl rfl rfl rfl rfl ?_
  refine xe_iconst (n := 0) (by decide +kernel) rfl ?_
  obtain ⟨M112, e113, h⟩ := xbnd h
  refine xs_p (i := 58) (c := 1) (k := 8) (by decide +kernel) (by decide +kernel) (by decide +kernel) e113 rfl ?_
  refine xe_iconst (n := 0) (by decide +kernel) rfl ?_
  refine xe_isr (ins := .istore_n 1) (len := 1) (i := 1) (by decide +kernel) rfl rfl rfl (by decide) (xk_k (show ¬ (0 : Nat) = 1 by decide) (Or.inr (xR_cat _)) xk_n) rfl ?_
  refine xW_lv rfl (l := [(0, xR_ (a0)), (1, xI (0))]) (xsb_of ⟨rfl, rfl, trivial⟩ (show [1, 0].Nodup by decide)) ?_
  exact k7_12   (show xin (0) by decide) h
-- ChangeHouse$Line.addChange
def xr_8 : xj_mR := (1, yX1_addChange, cX1_addChange, 6, (Option.none : Option Jvm.ClassFile.FieldType), 5, false, (6, 15), (1, 11))
set_option maxRecDepth 20000 in
theorem xr_8_e : xj_row 8 = some xr_8 := rfl
def f8_58   (f : Nat)  (M : xj_M) : Option (xj_M) := (some M)
theorem k8_58 {d f : Nat}      {M : xj_M} {R : xj_M}  (h : f8_58   f  M = some R) : xW (d + 0) (none, d + 0, none) xr_8 (58, [], [], M) (xQv R) := by
  unfold f8_58 at h
  cases h
  exact xe_ret_v (by decide +kernel) rfl ⟨rfl, rfl⟩
def f8  (f : Nat) (a0 : Nat) (a1 : Int) (a2 : Int) (a3 : Nat) (a4 : Int) (a5 : Int) (M : xj_M) : Option (xj_M) := ((xq_gi 1 8 (a0) M).bind fun v101 => (if (400) ≤ (v101) then f8_58   f  M else ((xq_gr 1 9 (a0) M).bind fun v104 => ((xq_gi 1 8 (a0) M).bind fun v106 => ((xq_si (v104) (v106) (a1) M).bind fun M108 => ((xq_gr 1 10 (a0) M108).bind fun v110 => ((xq_gi 1 8 (a0) M108).bind fun v112 => ((xq_sb (v110) (v112) (a2) M108).bind fun M114 => ((xq_gr 1 11 (a0) M114).bind fun v116 => ((xq_gi 1 8 (a0) M114).bind fun v118 => ((xq_cp (a3) (a4) (v116) (xwr ((4) * (v118))) (a5) M114).bind fun M120 => ((xq_gi 1 8 (a0) M120).bind fun v122 => ((xq_pi 1 8 (a0) (xwr ((v122) + (1))) M120).bind fun M124 => f8_58   f  M124)))))))))))))
theorem k8 {d f : Nat}   {a0 : Nat} {a1 : Int} {a2 : Int} {a3 : Nat} {a4 : Int} {a5 : Int} {M : xj_M} {R : xj_M} (ha1 : xin a1) (ha2 : xin a2) (ha4 : xin a4) (ha5 : xin a5) (h : f8  f a0 a1 a2 a3 a4 a5 M = some R) : xT (d + 1) 8 [xR_ a0, xI a1, xI a2, xR_ a3, xI a4, xI a5] M (xQv R) := by
  refine xT_m xr_8_e (X := (none, d + 0, none)) rfl (xa_1 (xR_cat _) (xa_1 (xI_cat _) (xa_1 (xI_cat _) (xa_1 (xR_cat _) (xa_1 (xI_cat _) (xa_1 (xI_cat _) xa_n)))))) (by decide) ?_
  unfold f8 at h
  refine xe_alr (ins := .aload_n 0) (len := 1) (i := 0) (by decide +kernel) rfl rfl rfl rfl rfl ?_
  obtain ⟨v101, e102, h⟩ := xbnd h
  refine xs_gi (i := 58) (c := 1) (k := 8) (by decide +kernel) (by decide) (by decide +kernel) e102 rfl ?_
  refine xe_sipush (n := 400) (by decide +kernel) (by decide) rfl ?_
  refine xe_icmpge (off := 51) (t := 58) (by decide +kernel) (by decide) rfl (xq_gi_in e102) (show xin (400) by decide) (fun c103 => ?_) (fun c103 => ?_)
  · rw [if_pos c103] at h
    refine xW_lv rfl (l := []) (xsb_of trivial (show [0, 1, 2, 3, 4, 5].Nodup by decide)) ?_
    exact k8_58    h
  · rw [if_neg c103] at h
    refine xe_alr (ins := .aload_n 0) (len := 1) (i := 0) (by decide +kernel) rfl rfl rfl rfl rfl ?_
    obtain ⟨v104, e105, h⟩ := xbnd h
    refine xs_gr (i := 28) (c := 1) (k := 9) (by decide +kernel) (by decide) (by decide +kernel) e105 rfl ?_
    refine xe_alr (ins := .aload_n 0) (len := 1) (i := 0) (by decide +kernel) rfl rfl rfl rfl rfl ?_
    obtain ⟨v106, e107, h⟩ := xbnd h
    refine xs_gi (i := 58) (c := 1) (k := 8) (by decide +kernel) (by decide) (by decide +kernel) e107 rfl ?_
    refine xe_ldn (ins := .iload_n 1) (len := 1) (by decide +kernel) rfl rfl rfl rfl ?_
    obtain ⟨M108, e109, h⟩ := xbnd h
    refine xs_iast (by decide +kernel) (xq_gi_in e107) e109 rfl ?_
    refine xe_alr (ins := .aload_n 0) (len := 1) (i := 0) (by decide +kernel) rfl rfl rfl rfl rfl ?_
    obtain ⟨v110, e111, h⟩ := xbnd h
    refine xs_gr (i := 31) (c := 1) (k := 10) (by decide +kernel) (by decide) (by decide +kernel) e111 rfl ?_
    refine xe_alr (ins := .aload_n 0) (len := 1) (i := 0) (by decide +kernel) rfl rfl rfl rfl rfl ?_
    obtain ⟨v112, e113, h⟩ := xbnd h
    refine xs_gi (i := 58) (c := 1) (k := 8) (by decide +kernel) (by decide) (by decide +kernel) e113 rfl ?_
    refine xe_ldn (ins := .iload_n 2) (len := 1) (by decide +kernel) rfl rfl rfl rfl ?_
    obtain ⟨M114, e115, h⟩ := xbnd h
    refine xs_bast (by decide +kernel) (xq_gi_in e113) e115 rfl ?_
    refine xe_alr (ins := .aload_n 3) (len := 1) (i := 3) (by decide +kernel) rfl rfl rfl rfl rfl ?_
    refine xe_ldn (ins := .iload 4) (len := 2) (by decide +kernel) rfl rfl rfl rfl ?_
    refine xe_alr (ins := .aload_n 0) (len := 1) (i := 0) (by decide +kernel) rfl rfl rfl rfl rfl ?_
    obtain ⟨v116, e117, h⟩ := xbnd h
    refine xs_gr (i := 35) (c := 1) (k := 11) (by decide +kernel) (by decide) (by decide +kernel) e117 rfl ?_
    refine xe_iconst (n := 4) (by decide +kernel) rfl ?_
    refine xe_alr (ins := .aload_n 0) (len := 1) (i := 0) (by decide +kernel) rfl rfl rfl rfl rfl ?_
    obtain ⟨v118, e119, h⟩ := xbnd h
    refine xs_gi (i := 58) (c := 1) (k := 8) (by decide +kernel) (by decide) (by decide +kernel) e119 rfl ?_
    refine xe_imul (by decide +kernel) rfl ?_
    refine xe_ldn (ins := .iload 5) (len := 2) (by decide +kernel) rfl rfl rfl rfl ?_
    obtain ⟨M120, e121, h⟩ := xbnd h
    refine xs_cp (i := 61) (j := 0) (by decide +kernel) (by decide +kernel) ha4 (xin_wr _) ha5 (by rfl) e121 rfl ?_
    refine xe_alr (ins := .aload_n 0) (len := 1) (i := 0) (by decide +kernel) rfl rfl rfl rfl rfl ?_
    refine xe_dupr (by decide +kernel) rfl ?_
    obtain ⟨v122, e123, h⟩ := xbnd h
    refine xs_gi (i := 58) (c := 1) (k := 8) (by decide +kernel) (by decide) (by decide +kernel) e123 rfl ?_
    refine xe_iconst (n := 1) (by decide +kernel) rfl ?_
    refine xe_iadd (by decide +kernel) rfl ?_
    obtain ⟨M124, e125, h⟩ := xbnd h
    refine xs_p (i := 58) (c := 1) (k := 8) (by decide +kernel) (by decide +kernel) (by decide +kernel) e125 rfl ?_
    refine xW_lv rfl (l := []) (xsb_of trivial (show [0, 1, 2, 3, 4, 5].Nodup by decide)) ?_
    exact k8_58    h
-- ChangeHouse$Line.countWorked
def xr_10 : xj_mR := (1, yX1_countWorked, cX1_countWorked, 4, (Option.none : Option Jvm.ClassFile.FieldType), 2, false, (7, 122), (1, 11))
set_option maxRecDepth 20000 in
theorem xr_10_e : xj_row 10 = some xr_10 := rfl
def f10_27  (r2 : Nat → Int → Int → Int → xj_M → Option (xj_M)) (f : Nat) (x0 : Nat) (x1 : Int) (x2 : Int) (x3 : Int) (y0 : Int) (y1 : Int) (y2 : Nat) (M : xj_M) : Option (xj_M) := ((xq_si (y2) (y1) (xwr ((y0) + (xand (xshr (x1) (x3)) (1)))) M).bind fun M101 => r2 (x0) (x1) (x2) (xwr ((x3) + (1))) M101)
theorem k10_27 {d f : Nat}  {r2 : Nat → Int → Int → Int → xj_M → Option (xj_M)}  (hr2 : ∀ {x0 : Nat} {x1 : Int} {x2 : Int} {x3 : Int} {M : xj_M} {R : xj_M}, xin x1 → xin x2 → xin x3 → r2 x0 x1 x2 x3 M = some R → xW (d + 0) (none, d + 0, none) xr_10 (2, [(0, xR_ x0), (1, xI x1), (2, xI x2), (3, xI x3)], [], M) (xQv R)) {x0 : Nat} {x1 : Int} {x2 : Int} {x3 : Int} {y0 : Int} {y1 : Int} {y2 : Nat} {M : xj_M} {R : xj_M} (hx1 : xin x1) (hx2 : xin x2) (hx3 : xin x3) (hy0 : xin y0) (hy1 : xin y1) (h : f10_27  r2 f x0 x1 x2 x3 y0 y1 y2 M = some R) : xW (d + 0) (none, d + 0, none) xr_10 (27, [(0, xR_ x0), (1, xI x1), (2, xI x2), (3, xI x3)], [xI y0, xI y1, xR_ y2], M) (xQv R) := by
  unfold f10_27 at h
  refine xe_ldn (ins := .iload_n 1) (len := 1) (by decide +kernel) rfl rfl rfl rfl ?_
  refine xe_ldn (ins := .iload_n 3) (len := 1) (by decide +kernel) rfl rfl rfl rfl ?_
  refine xe_ishr (by decide +kernel) rfl ?_
  refine xe_iconst (n := 1) (by decide +kernel) rfl ?_
  refine xe_iand (by decide +kernel) rfl ?_
  refine xe_iadd (by decide +kernel) rfl ?_
  obtain ⟨M101, e102, h⟩ := xbnd h
  refine xs_iast (by decide +kernel) hy1 e102 rfl ?_
  refine xe_iincr (i := 3) (n := 1) (by decide +kernel) (by decide) rfl (xk_k (show ¬ (0 : Nat) = 3 by decide) (Or.inl (show ¬ (0 + 1 : Nat) = 3 by decide)) (xk_k (show ¬ (1 : Nat) = 3 by decide) (Or.inl (show ¬ (1 + 1 : Nat) = 3 by decide)) (xk_k (show ¬ (2 : Nat) = 3 by decide) (Or.inr (xI_cat _)) (xk_d rfl xk_n)))) rfl ?_
  refine xe_goto (off := -35) (nx := 2) (by decide +kernel) (by decide) ?_
  refine xW_lv rfl (l := [(0, xR_ (x0)), (1, xI (x1)), (2, xI (x2)), (3, xI (xwr ((x3) + (1))))]) (xsb_of ⟨rfl, rfl, rfl, rfl, trivial⟩ (show [3, 0, 1, 2].Nodup by decide)) ?_
  exact hr2 hx1 hx2 (xin_wr _) h
def f10_2b  (r2 : Nat → Int → Int → Int → xj_M → Option (xj_M)) (f : Nat) (x0 : Nat) (x1 : Int) (x2 : Int) (x3 : Int) (M : xj_M) : Option (xj_M) := (if (16) ≤ (x3) then (some M) else ((xq_gr 1 5 (x0) M).bind fun v104 => (if (x2) = 0 then ((xq_gr 1 5 (x0) M).bind fun v107 => ((xq_ai 3 (v107) (x3) M).bind fun v109 => f10_27  r2 f (x0) (x1) (x2) (x3) (v109) (x3) (v104) M)) else f10_27  r2 f (x0) (x1) (x2) (x3) (0) (x3) (v104) M)))
theorem k10_2b {d f : Nat}  {r2 : Nat → Int → Int → Int → xj_M → Option (xj_M)}  (hr2 : ∀ {x0 : Nat} {x1 : Int} {x2 : Int} {x3 : Int} {M : xj_M} {R : xj_M}, xin x1 → xin x2 → xin x3 → r2 x0 x1 x2 x3 M = some R → xW (d + 0) (none, d + 0, none) xr_10 (2, [(0, xR_ x0), (1, xI x1), (2, xI x2), (3, xI x3)], [], M) (xQv R)) {x0 : Nat} {x1 : Int} {x2 : Int} {x3 : Int} {M : xj_M} {R : xj_M} (hx1 : xin x1) (hx2 : xin x2) (hx3 : xin x3) (h : f10_2b  r2 f x0 x1 x2 x3 M = some R) : xW (d + 0) (none, d + 0, none) xr_10 (2, [(0, xR_ x0), (1, xI x1), (2, xI x2), (3, xI x3)], [], M) (xQv R) := by
  unfold f10_2b at h
  refine xe_ldn (ins := .iload_n 3) (len := 1) (by decide +kernel) rfl rfl rfl rfl ?_
  refine xe_bipush (n := 16) (by decide +kernel) (by decide) rfl ?_
  refine xe_icmpge (off := 35) (t := 40) (by decide +kernel) (by decide) rfl hx3 (show xin (16) by decide) (fun c103 => ?_) (fun c103 => ?_)
  · rw [if_pos c103] at h
    cases h
    exact xe_ret_v (by decide +kernel) rfl ⟨rfl, rfl⟩
  · rw [if_neg c103] at h
    refine xe_alr (ins := .aload_n 0) (len := 1) (i := 0) (by decide +kernel) rfl rfl rfl rfl rfl ?_
    obtain ⟨v104, e105, h⟩ := xbnd h
    refine xs_gr (i := 21) (c := 1) (k := 5) (by decide +kernel) (by decide) (by decide +kernel) e105 rfl ?_
    refine xe_ldn (ins := .iload_n 3) (len := 1) (by decide +kernel) rfl rfl rfl rfl ?_
    refine xe_ldn (ins := .iload_n 2) (len := 1) (by decide +kernel) rfl rfl rfl rfl ?_
    refine xe_ifeq (off := 7) (t := 21) (by decide +kernel) (by decide) rfl hx2 (fun c106 => ?_) (fun c106 => ?_)
    · rw [if_pos c106] at h
      refine xe_alr (ins := .aload_n 0) (len := 1) (i := 0) (by decide +kernel) rfl rfl rfl rfl rfl ?_
      obtain ⟨v107, e108, h⟩ := xbnd h
      refine xs_gr (i := 21) (c := 1) (k := 5) (by decide +kernel) (by decide) (by decide +kernel) e108 rfl ?_
      refine xe_ldn (ins := .iload_n 3) (len := 1) (by decide +kernel) rfl rfl rfl rfl ?_
      obtain ⟨v109, e110, h⟩ := xbnd h
      refine xs_iald rfl (by decide +kernel) hx3 e110 rfl ?_
      refine xW_lv rfl (l := [(0, xR_ (x0)), (1, xI (x1)), (2, xI (x2)), (3, xI (x3))]) (xsb_of ⟨rfl, rfl, rfl, rfl, trivial⟩ (show [0, 1, 2, 3].Nodup by decide)) ?_
      exact k10_27  hr2 hx1 hx2 hx3 (xq_ai_in e110) hx3 h
    · rw [if_neg c106] at h
      refine xe_iconst (n := 0) (by decide +kernel) rfl ?_
      refine xe_goto (off := 9) (nx := 27) (by decide +kernel) (by decide) ?_
      refine xW_lv rfl (l := [(0, xR_ (x0)), (1, xI (x1)), (2, xI (x2)), (3, xI (x3))]) (xsb_of ⟨rfl, rfl, rfl, rfl, trivial⟩ (show [0, 1, 2, 3].Nodup by decide)) ?_
      exact k10_27  hr2 hx1 hx2 hx3 (show xin (0) by decide) hx3 h
def f10_2   (f : Nat) : Nat → Nat → Int → Int → Int → xj_M → Option (xj_M)
  | 0, _, _, _, _, _ => none
  | n + 1, x0, x1, x2, x3, M => f10_2b   (f10_2   f n) f x0 x1 x2 x3 M
theorem k10_2 {d f : Nat}     : ∀ {n : Nat} {x0 : Nat} {x1 : Int} {x2 : Int} {x3 : Int} {M : xj_M} {R : xj_M}, xin x1 → xin x2 → xin x3 → f10_2   f n x0 x1 x2 x3 M = some R → xW (d + 0) (none, d + 0, none) xr_10 (2, [(0, xR_ x0), (1, xI x1), (2, xI x2), (3, xI x3)], [], M) (xQv R) := by
  intro n
  induction n with
  | zero => intros; rename_i h; cases h
  | succ n ih => intros; rename_i h; exact k10_2b   ih (by assumption) (by assumption) (by assumption) h
def f10  (f : Nat) (a0 : Nat) (a1 : Int) (a2 : Int) (M : xj_M) : Option (xj_M) := f10_2   f f (a0) (a1) (a2) (0) M
theorem k10 {d f : Nat}   {a0 : Nat} {a1 : Int} {a2 : Int} {M : xj_M} {R : xj_M} (ha1 : xin a1) (ha2 : xin a2) (h : f10  f a0 a1 a2 M = some R) : xT (d + 1) 10 [xR_ a0, xI a1, xI a2] M (xQv R) := by
  refine xT_m xr_10_e (X := (none, d + 0, none)) rfl (xa_1 (xR_cat _) (xa_1 (xI_cat _) (xa_1 (xI_cat _) xa_n))) (by decide) ?_
  unfold f10 at h
  refine xe_iconst (n := 0) (by decide +kernel) rfl ?_
  refine xe_isr (ins := .istore_n 3) (len := 1) (i := 3) (by decide +kernel) rfl rfl rfl (by decide) (xk_k (show ¬ (0 : Nat) = 3 by decide) (Or.inl (show ¬ (0 + 1 : Nat) = 3 by decide)) (xk_k (show ¬ (1 : Nat) = 3 by decide) (Or.inl (show ¬ (1 + 1 : Nat) = 3 by decide)) (xk_k (show ¬ (2 : Nat) = 3 by decide) (Or.inr (xI_cat _)) xk_n))) rfl ?_
  refine xW_lv rfl (l := [(0, xR_ (a0)), (1, xI (a1)), (2, xI (a2)), (3, xI (0))]) (xsb_of ⟨rfl, rfl, rfl, rfl, trivial⟩ (show [3, 0, 1, 2].Nodup by decide)) ?_
  exact k10_2   ha1 ha2 (show xin (0) by decide) h
-- ChangeHouse$Line.append
def xr_11 : xj_mR := (1, yX1_append, cX1_append, 7, (Option.none : Option Jvm.ClassFile.FieldType), 1, false, (7, 126), (1, 11))
set_option maxRecDepth 20000 in
theorem xr_11_e : xj_row 11 = some xr_11 := rfl
def f11_124   (f : Nat) (x0 : Nat) (x5 : Int) (M : xj_M) : Option (xj_M) := ((xq_pi 1 2 (x0) (x5) M).bind fun M101 => (some M101))
theorem k11_124 {d f : Nat}     {x0 : Nat} {x5 : Int} {M : xj_M} {R : xj_M} (hx5 : xin x5) (h : f11_124   f x0 x5 M = some R) : xW (d + 0) (none, d + 0, none) xr_11 (124, [(0, xR_ x0), (5, xI x5)], [], M) (xQv R) := by
  unfold f11_124 at h
  refine xe_alr (ins := .aload_n 0) (len := 1) (i := 0) (by decide +kernel) rfl rfl rfl rfl rfl ?_
  refine xe_ldn (ins := .iload 5) (len := 2) (by decide +kernel) rfl rfl rfl rfl ?_
  obtain ⟨M101, e102, h⟩ := xbnd h
  refine xs_p (i := 51) (c := 1) (k := 2) (by decide +kernel) (by decide +kernel) (by decide +kernel) e102 rfl ?_
  cases h
  exact xe_ret_v (by decide +kernel) rfl ⟨rfl, rfl⟩
def f11_39b  (r39 : Nat → Int → Int → Int → Int → Int → xj_M → Option (xj_M)) (f : Nat) (x0 : Nat) (x2 : Int) (x3 : Int) (x4 : Int) (x5 : Int) (x6 : Int) (M : xj_M) : Option (xj_M) := ((xq_gi 1 2 (x0) M).bind fun v103 => (if (x6) ≤ (v103) then f11_124   f (x0) (x5) M else ((xq_gr 1 0 (x0) M).bind fun v106 => ((xq_ar (v106) (x6) M).bind fun v108 => ((xq_gi 2 4 (v108) M).bind fun v110 => ((xq_gr 1 0 (x0) M).bind fun v112 => ((xq_ar (v112) (x6) M).bind fun v114 => ((xq_gi 2 5 (v114) M).bind fun v116 => ((xq_gr 1 0 (x0) M).bind fun v118 => ((xq_ar (v118) (x6) M).bind fun v120 => ((xq_gi 2 6 (v120) M).bind fun v122 => (if (8000) < (xwr ((x2) + (v110))) then f11_124   f (x0) (x5) M else (if (100) < (xwr ((x3) + (v116))) then f11_124   f (x0) (x5) M else (if (xwr ((x4) + (v122))) ≤ (7) then r39 (x0) (xwr ((x2) + (v110))) (xwr ((x3) + (v116))) (xwr ((x4) + (v122))) (xwr ((x6) - (1))) (xwr ((x6) + (-1))) M else f11_124   f (x0) (x5) M))))))))))))))
theorem k11_39b {d f : Nat}  {r39 : Nat → Int → Int → Int → Int → Int → xj_M → Option (xj_M)}  (hr39 : ∀ {x0 : Nat} {x2 : Int} {x3 : Int} {x4 : Int} {x5 : Int} {x6 : Int} {M : xj_M} {R : xj_M}, xin x2 → xin x3 → xin x4 → xin x5 → xin x6 → r39 x0 x2 x3 x4 x5 x6 M = some R → xW (d + 0) (none, d + 0, none) xr_11 (39, [(0, xR_ x0), (2, xI x2), (3, xI x3), (4, xI x4), (5, xI x5), (6, xI x6)], [], M) (xQv R)) {x0 : Nat} {x2 : Int} {x3 : Int} {x4 : Int} {x5 : Int} {x6 : Int} {M : xj_M} {R : xj_M} (hx2 : xin x2) (hx3 : xin x3) (hx4 : xin x4) (hx5 : xin x5) (hx6 : xin x6) (h : f11_39b  r39 f x0 x2 x3 x4 x5 x6 M = some R) : xW (d + 0) (none, d + 0, none) xr_11 (39, [(0, xR_ x0), (2, xI x2), (3, xI x3), (4, xI x4), (5, xI x5), (6, xI x6)], [], M) (xQv R) := by
  unfold f11_39b at h
  refine xe_ldn (ins := .iload 6) (len := 2) (by decide +kernel) rfl rfl rfl rfl ?_
  refine xe_alr (ins := .aload_n 0) (len := 1) (i := 0) (by decide +kernel) rfl rfl rfl rfl rfl ?_
  obtain ⟨v103, e104, h⟩ := xbnd h
  refine xs_gi (i := 51) (c := 1) (k := 2) (by decide +kernel) (by decide) (by decide +kernel) e104 rfl ?_
  refine xe_icmple (off := 79) (t := 124) (by decide +kernel) (by decide) rfl hx6 (xq_gi_in e104) (fun c105 => ?_) (fun c105 => ?_)
  · rw [if_pos c105] at h
    refine xW_lv rfl (l := [(0, xR_ (x0)), (5, xI (x5))]) (xsb_of ⟨rfl, rfl, trivial⟩ (show [0, 2, 3, 4, 5, 6].Nodup by decide)) ?_
    exact k11_124   hx5 h
  · rw [if_neg c105] at h
    refine xe_ldn (ins := .iload_n 2) (len := 1) (by decide +kernel) rfl rfl rfl rfl ?_
    refine xe_alr (ins := .aload_n 0) (len := 1) (i := 0) (by decide +kernel) rfl rfl rfl rfl rfl ?_
    obtain ⟨v106, e107, h⟩ := xbnd h
    refine xs_gr (i := 11) (c := 1) (k := 0) (by decide +kernel) (by decide) (by decide +kernel) e107 rfl ?_
    refine xe_ldn (ins := .iload 6) (len := 2) (by decide +kernel) rfl rfl rfl rfl ?_
    obtain ⟨v108, e109, h⟩ := xbnd h
    refine xs_aald (by decide +kernel) hx6 e109 rfl ?_
    obtain ⟨v110, e111, h⟩ := xbnd h
    refine xs_gi (i := 87) (c := 2) (k := 4) (by decide +kernel) (by decide) (by decide +kernel) e111 rfl ?_
    refine xe_iadd (by decide +kernel) rfl ?_
    refine xe_isr (ins := .istore_n 2) (len := 1) (i := 2) (by decide +kernel) rfl rfl rfl (by decide) (xk_k (show ¬ (0 : Nat) = 2 by decide) (Or.inl (show ¬ (0 + 1 : Nat) = 2 by decide)) (xk_d rfl (xk_k (show ¬ (3 : Nat) = 2 by decide) (Or.inl (show ¬ (3 + 1 : Nat) = 2 by decide)) (xk_k (show ¬ (4 : Nat) = 2 by decide) (Or.inl (show ¬ (4 + 1 : Nat) = 2 by decide)) (xk_k (show ¬ (5 : Nat) = 2 by decide) (Or.inl (show ¬ (5 + 1 : Nat) = 2 by decide)) (xk_k (show ¬ (6 : Nat) = 2 by decide) (Or.inl (show ¬ (6 + 1 : Nat) = 2 by decide)) xk_n)))))) rfl ?_
    refine xe_ldn (ins := .iload_n 3) (len := 1) (by decide +kernel) rfl rfl rfl rfl ?_
    refine xe_alr (ins := .aload_n 0) (len := 1) (i := 0) (by decide +kernel) rfl rfl rfl rfl rfl ?_
    obtain ⟨v112, e113, h⟩ := xbnd h
    refine xs_gr (i := 11) (c := 1) (k := 0) (by decide +kernel) (by decide) (by decide +kernel) e113 rfl ?_
    refine xe_ldn (ins := .iload 6) (len := 2) (by decide +kernel) rfl rfl rfl rfl ?_
    obtain ⟨v114, e115, h⟩ := xbnd h
    refine xs_aald (by decide +kernel) hx6 e115 rfl ?_
    obtain ⟨v116, e117, h⟩ := xbnd h
    refine xs_gi (i := 90) (c := 2) (k := 5) (by decide +kernel) (by decide) (by decide +kernel) e117 rfl ?_
    refine xe_iadd (by decide +kernel) rfl ?_
    refine xe_isr (ins := .istore_n 3) (len := 1) (i := 3) (by decide +kernel) rfl rfl rfl (by decide) (xk_k (show ¬ (2 : Nat) = 3 by decide) (Or.inr (xI_cat _)) (xk_k (show ¬ (0 : Nat) = 3 by decide) (Or.inl (show ¬ (0 + 1 : Nat) = 3 by decide)) (xk_d rfl (xk_k (show ¬ (4 : Nat) = 3 by decide) (Or.inl (show ¬ (4 + 1 : Nat) = 3 by decide)) (xk_k (show ¬ (5 : Nat) = 3 by decide) (Or.inl (show ¬ (5 + 1 : Nat) = 3 by decide)) (xk_k (show ¬ (6 : Nat) = 3 by decide) (Or.inl (show ¬ (6 + 1 : Nat) = 3 by decide)) xk_n)))))) rfl ?_
    refine xe_ldn (ins := .iload 4) (len := 2) (by decide +kernel) rfl rfl rfl rfl ?_
    refine xe_alr (ins := .aload_n 0) (len := 1) (i := 0) (by decide +kernel) rfl rfl rfl rfl rfl ?_
    obtain ⟨v118, e119, h⟩ := xbnd h
    refine xs_gr (i := 11) (c := 1) (k := 0) (by decide +kernel) (by decide) (by decide +kernel) e119 rfl ?_
    refine xe_ldn (ins := .iload 6) (len := 2) (by decide +kernel) rfl rfl rfl rfl ?_
    obtain ⟨v120, e121, h⟩ := xbnd h
    refine xs_aald (by decide +kernel) hx6 e121 rfl ?_
    obtain ⟨v122, e123, h⟩ := xbnd h
    refine xs_gi (i := 93) (c := 2) (k := 6) (by decide +kernel) (by decide) (by decide +kernel) e123 rfl ?_
    refine xe_iadd (by decide +kernel) rfl ?_
    refine xe_isr (ins := .istore 4) (len := 2) (i := 4) (by decide +kernel) rfl rfl rfl (by decide) (xk_k (show ¬ (3 : Nat) = 4 by decide) (Or.inr (xI_cat _)) (xk_k (show ¬ (2 : Nat) = 4 by decide) (Or.inl (show ¬ (2 + 1 : Nat) = 4 by decide)) (xk_k (show ¬ (0 : Nat) = 4 by decide) (Or.inl (show ¬ (0 + 1 : Nat) = 4 by decide)) (xk_d rfl (xk_k (show ¬ (5 : Nat) = 4 by decide) (Or.inl (show ¬ (5 + 1 : Nat) = 4 by decide)) (xk_k (show ¬ (6 : Nat) = 4 by decide) (Or.inl (show ¬ (6 + 1 : Nat) = 4 by decide)) xk_n)))))) rfl ?_
    refine xe_ldn (ins := .iload_n 2) (len := 1) (by decide +kernel) rfl rfl rfl rfl ?_
    refine xe_sipush (n := 8000) (by decide +kernel) (by decide) rfl ?_
    refine xe_icmpgt (off := 31) (t := 124) (by decide +kernel) (by decide) rfl (xin_wr _) (show xin (8000) by decide) (fun c124 => ?_) (fun c124 => ?_)
    · rw [if_pos c124] at h
      refine xW_lv rfl (l := [(0, xR_ (x0)), (5, xI (x5))]) (xsb_of ⟨rfl, rfl, trivial⟩ (show [4, 3, 2, 0, 5, 6].Nodup by decide)) ?_
      exact k11_124   hx5 h
    · rw [if_neg c124] at h
      refine xe_ldn (ins := .iload_n 3) (len := 1) (by decide +kernel) rfl rfl rfl rfl ?_
      refine xe_bipush (n := 100) (by decide +kernel) (by decide) rfl ?_
      refine xe_icmpgt (off := 25) (t := 124) (by decide +kernel) (by decide) rfl (xin_wr _) (show xin (100) by decide) (fun c125 => ?_) (fun c125 => ?_)
      · rw [if_pos c125] at h
        refine xW_lv rfl (l := [(0, xR_ (x0)), (5, xI (x5))]) (xsb_of ⟨rfl, rfl, trivial⟩ (show [4, 3, 2, 0, 5, 6].Nodup by decide)) ?_
        exact k11_124   hx5 h
      · rw [if_neg c125] at h
        refine xe_ldn (ins := .iload 4) (len := 2) (by decide +kernel) rfl rfl rfl rfl ?_
        refine xe_bipush (n := 7) (by decide +kernel) (by decide) rfl ?_
        refine xe_icmple (off := 6) (t := 112) (by decide +kernel) (by decide) rfl (xin_wr _) (show xin (7) by decide) (fun c126 => ?_) (fun c126 => ?_)
        · rw [if_pos c126] at h
          refine xe_ldn (ins := .iload 6) (len := 2) (by decide +kernel) rfl rfl rfl rfl ?_
          refine xe_iconst (n := 1) (by decide +kernel) rfl ?_
          refine xe_isub (by decide +kernel) rfl ?_
          refine xe_isr (ins := .istore 5) (len := 2) (i := 5) (by decide +kernel) rfl rfl rfl (by decide) (xk_k (show ¬ (4 : Nat) = 5 by decide) (Or.inr (xI_cat _)) (xk_k (show ¬ (3 : Nat) = 5 by decide) (Or.inl (show ¬ (3 + 1 : Nat) = 5 by decide)) (xk_k (show ¬ (2 : Nat) = 5 by decide) (Or.inl (show ¬ (2 + 1 : Nat) = 5 by decide)) (xk_k (show ¬ (0 : Nat) = 5 by decide) (Or.inl (show ¬ (0 + 1 : Nat) = 5 by decide)) (xk_d rfl (xk_k (show ¬ (6 : Nat) = 5 by decide) (Or.inl (show ¬ (6 + 1 : Nat) = 5 by decide)) xk_n)))))) rfl ?_
          refine xe_iincr (i := 6) (n := -1) (by decide +kernel) (by decide) rfl (xk_k (show ¬ (5 : Nat) = 6 by decide) (Or.inr (xI_cat _)) (xk_k (show ¬ (4 : Nat) = 6 by decide) (Or.inl (show ¬ (4 + 1 : Nat) = 6 by decide)) (xk_k (show ¬ (3 : Nat) = 6 by decide) (Or.inl (show ¬ (3 + 1 : Nat) = 6 by decide)) (xk_k (show ¬ (2 : Nat) = 6 by decide) (Or.inl (show ¬ (2 + 1 : Nat) = 6 by decide)) (xk_k (show ¬ (0 : Nat) = 6 by decide) (Or.inl (show ¬ (0 + 1 : Nat) = 6 by decide)) (xk_d rfl xk_n)))))) rfl ?_
          refine xe_goto (off := -82) (nx := 39) (by decide +kernel) (by decide) ?_
          refine xW_lv rfl (l := [(0, xR_ (x0)), (2, xI (xwr ((x2) + (v110)))), (3, xI (xwr ((x3) + (v116)))), (4, xI (xwr ((x4) + (v122)))), (5, xI (xwr ((x6) - (1)))), (6, xI (xwr ((x6) + (-1))))]) (xsb_of ⟨rfl, rfl, rfl, rfl, rfl, rfl, trivial⟩ (show [6, 5, 4, 3, 2, 0].Nodup by decide)) ?_
          exact hr39 (xin_wr _) (xin_wr _) (xin_wr _) (xin_wr _) (xin_wr _) h
        · rw [if_neg c126] at h
          refine xe_goto (off := 15) (nx := 124) (by decide +kernel) (by decide) ?_
          refine xW_lv rfl (l := [(0, xR_ (x0)), (5, xI (x5))]) (xsb_of ⟨rfl, rfl, trivial⟩ (show [4, 3, 2, 0, 5, 6].Nodup by decide)) ?_
          exact k11_124   hx5 h
def f11_39   (f : Nat) : Nat → Nat → Int → Int → Int → Int → Int → xj_M → Option (xj_M)
  | 0, _, _, _, _, _, _, _ => none
  | n + 1, x0, x2, x3, x4, x5, x6, M => f11_39b   (f11_39   f n) f x0 x2 x3 x4 x5 x6 M
theorem k11_39 {d f : Nat}     : ∀ {n : Nat} {x0 : Nat} {x2 : Int} {x3 : Int} {x4 : Int} {x5 : Int} {x6 : Int} {M : xj_M} {R : xj_M}, xin x2 → xin x3 → xin x4 → xin x5 → xin x6 → f11_39   f n x0 x2 x3 x4 x5 x6 M = some R → xW (d + 0) (none, d + 0, none) xr_11 (39, [(0, xR_ x0), (2, xI x2), (3, xI x3), (4, xI x4), (5, xI x5), (6, xI x6)], [], M) (xQv R) := by
  intro n
  induction n with
  | zero => intros; rename_i h; cases h
  | succ n ih => intros; rename_i h; exact k11_39b   ih (by assumption) (by assumption) (by assumption) (by assumption) (by assumption) h
def f11  (f : Nat) (a0 : Nat) (a1 : Nat) (M : xj_M) : Option (xj_M) := ((xq_gi 1 1 (a0) M).bind fun v127 => ((xq_pi 1 1 (a0) (xwr ((v127) + (1))) M).bind fun M129 => ((xq_gr 1 0 (a0) M129).bind fun v131 => ((xq_gi 1 1 (a0) M129).bind fun v133 => ((xq_sr (v131) (v133) (a1) M129).bind fun M135 => ((xq_gi 1 1 (a0) M135).bind fun v137 => ((xq_gi 1 1 (a0) M135).bind fun v139 => f11_39   f f (a0) (0) (0) (0) (v137) (v139) M135)))))))
theorem k11 {d f : Nat}   {a0 : Nat} {a1 : Nat} {M : xj_M} {R : xj_M}  (h : f11  f a0 a1 M = some R) : xT (d + 1) 11 [xR_ a0, xR_ a1] M (xQv R) := by
  refine xT_m xr_11_e (X := (none, d + 0, none)) rfl (xa_1 (xR_cat _) (xa_1 (xR_cat _) xa_n)) (by decide) ?_
  unfold f11 at h
  refine xe_alr (ins := .aload_n 0) (len := 1) (i := 0) (by decide +kernel) rfl rfl rfl rfl rfl ?_
  refine xe_dupr (by decide +kernel) rfl ?_
  obtain ⟨v127, e128, h⟩ := xbnd h
  refine xs_gi (i := 48) (c := 1) (k := 1) (by decide +kernel) (by decide) (by decide +kernel) e128 rfl ?_
  refine xe_iconst (n := 1) (by decide +kernel) rfl ?_
  refine xe_iadd (by decide +kernel) rfl ?_
  obtain ⟨M129, e130, h⟩ := xbnd h
  refine xs_p (i := 48) (c := 1) (k := 1) (by decide +kernel) (by decide +kernel) (by decide +kernel) e130 rfl ?_
  refine xe_alr (ins := .aload_n 0) (len := 1) (i := 0) (by decide +kernel) rfl rfl rfl rfl rfl ?_
  obtain ⟨v131, e132, h⟩ := xbnd h
  refine xs_gr (i := 11) (c := 1) (k := 0) (by decide +kernel) (by decide) (by decide +kernel) e132 rfl ?_
  refine xe_alr (ins := .aload_n 0) (len := 1) (i := 0) (by decide +kernel) rfl rfl rfl rfl rfl ?_
  obtain ⟨v133, e134, h⟩ := xbnd h
  refine xs_gi (i := 48) (c := 1) (k := 1) (by decide +kernel) (by decide) (by decide +kernel) e134 rfl ?_
  refine xe_alr (ins := .aload_n 1) (len := 1) (i := 1) (by decide +kernel) rfl rfl rfl rfl rfl ?_
  obtain ⟨M135, e136, h⟩ := xbnd h
  refine xs_aast (by decide +kernel) (xq_gi_in e134) e136 rfl ?_
  refine xe_iconst (n := 0) (by decide +kernel) rfl ?_
  refine xe_isr (ins := .istore_n 2) (len := 1) (i := 2) (by decide +kernel) rfl rfl rfl (by decide) (xk_k (show ¬ (0 : Nat) = 2 by decide) (Or.inl (show ¬ (0 + 1 : Nat) = 2 by decide)) (xk_k (show ¬ (1 : Nat) = 2 by decide) (Or.inr (xR_cat _)) xk_n)) rfl ?_
  refine xe_iconst (n := 0) (by decide +kernel) rfl ?_
  refine xe_isr (ins := .istore_n 3) (len := 1) (i := 3) (by decide +kernel) rfl rfl rfl (by decide) (xk_k (show ¬ (2 : Nat) = 3 by decide) (Or.inr (xI_cat _)) (xk_k (show ¬ (0 : Nat) = 3 by decide) (Or.inl (show ¬ (0 + 1 : Nat) = 3 by decide)) (xk_k (show ¬ (1 : Nat) = 3 by decide) (Or.inl (show ¬ (1 + 1 : Nat) = 3 by decide)) xk_n))) rfl ?_
  refine xe_iconst (n := 0) (by decide +kernel) rfl ?_
  refine xe_isr (ins := .istore 4) (len := 2) (i := 4) (by decide +kernel) rfl rfl rfl (by decide) (xk_k (show ¬ (3 : Nat) = 4 by decide) (Or.inr (xI_cat _)) (xk_k (show ¬ (2 : Nat) = 4 by decide) (Or.inl (show ¬ (2 + 1 : Nat) = 4 by decide)) (xk_k (show ¬ (0 : Nat) = 4 by decide) (Or.inl (show ¬ (0 + 1 : Nat) = 4 by decide)) (xk_k (show ¬ (1 : Nat) = 4 by decide) (Or.inl (show ¬ (1 + 1 : Nat) = 4 by decide)) xk_n)))) rfl ?_
  refine xe_alr (ins := .aload_n 0) (len := 1) (i := 0) (by decide +kernel) rfl rfl rfl rfl rfl ?_
  obtain ⟨v137, e138, h⟩ := xbnd h
  refine xs_gi (i := 48) (c := 1) (k := 1) (by decide +kernel) (by decide) (by decide +kernel) e138 rfl ?_
  refine xe_isr (ins := .istore 5) (len := 2) (i := 5) (by decide +kernel) rfl rfl rfl (by decide) (xk_k (show ¬ (4 : Nat) = 5 by decide) (Or.inr (xI_cat _)) (xk_k (show ¬ (3 : Nat) = 5 by decide) (Or.inl (show ¬ (3 + 1 : Nat) = 5 by decide)) (xk_k (show ¬ (2 : Nat) = 5 by decide) (Or.inl (show ¬ (2 + 1 : Nat) = 5 by decide)) (xk_k (show ¬ (0 : Nat) = 5 by decide) (Or.inl (show ¬ (0 + 1 : Nat) = 5 by decide)) (xk_k (show ¬ (1 : Nat) = 5 by decide) (Or.inl (show ¬ (1 + 1 : Nat) = 5 by decide)) xk_n))))) rfl ?_
  refine xe_alr (ins := .aload_n 0) (len := 1) (i := 0) (by decide +kernel) rfl rfl rfl rfl rfl ?_
  obtain ⟨v139, e140, h⟩ := xbnd h
  refine xs_gi (i := 48) (c := 1) (k := 1) (by decide +kernel) (by decide) (by decide +kernel) e140 rfl ?_
  refine xe_isr (ins := .istore 6) (len := 2) (i := 6) (by decide +kernel) rfl rfl rfl (by decide) (xk_k (show ¬ (5 : Nat) = 6 by decide) (Or.inr (xI_cat _)) (xk_k (show ¬ (4 : Nat) = 6 by decide) (Or.inl (show ¬ (4 + 1 : Nat) = 6 by decide)) (xk_k (show ¬ (3 : Nat) = 6 by decide) (Or.inl (show ¬ (3 + 1 : Nat) = 6 by decide)) (xk_k (show ¬ (2 : Nat) = 6 by decide) (Or.inl (show ¬ (2 + 1 : Nat) = 6 by decide)) (xk_k (show ¬ (0 : Nat) = 6 by decide) (Or.inl (show ¬ (0 + 1 : Nat) = 6 by decide)) (xk_k (show ¬ (1 : Nat) = 6 by decide) (Or.inl (show ¬ (1 + 1 : Nat) = 6 by decide)) xk_n)))))) rfl ?_
  refine xW_lv rfl (l := [(0, xR_ (a0)), (2, xI (0)), (3, xI (0)), (4, xI (0)), (5, xI (v137)), (6, xI (v139))]) (xsb_of ⟨rfl, rfl, rfl, rfl, rfl, rfl, trivial⟩ (show [6, 5, 4, 3, 2, 0, 1].Nodup by decide)) ?_
  exact k11_39   (show xin (0) by decide) (show xin (0) by decide) (show xin (0) by decide) (xq_gi_in e138) (xq_gi_in e140) h
-- ChangeHouse$Moment.<init>
def xr_14 : xj_mR := (2, yX2_init, cX2_init, 3, (Option.none : Option Jvm.ClassFile.FieldType), 2, true, (2, 174), (1, 8))
set_option maxRecDepth 20000 in
theorem xr_14_e : xj_row 14 = some xr_14 := rfl
def f14  (f : Nat) (a0 : Nat) (a1 : Nat) (a2 : Nat) (M : xj_M) : Option (xj_M) := ((xq_nz (a0)).bind fun _ => ((xq_pr 2 0 (a0) (a1) M).bind fun M102 => ((xq_pr 2 1 (a0) (a2) M102).bind fun M104 => (some M104))))
theorem k14 {d f : Nat}   {a0 : Nat} {a1 : Nat} {a2 : Nat} {M : xj_M} {R : xj_M}  (h : f14  f a0 a1 a2 M = some R) : xT (d + 1) 14 [xR_ a0, xR_ a1, xR_ a2] M (xQv R) := by
  refine xT_m xr_14_e (X := (none, d + 0, none)) rfl (xa_1 (xR_cat _) (xa_1 (xR_cat _) (xa_1 (xR_cat _) xa_n))) (by decide) ?_
  unfold f14 at h
  refine xe_alr (ins := .aload_n 0) (len := 1) (i := 0) (by decide +kernel) rfl rfl rfl rfl rfl ?_
  obtain ⟨_, e101, h⟩ := xbnd h
  refine xe_oi (i := 3) (j := 0) (by decide +kernel) (by decide +kernel) (by rfl) (xq_nz_ne e101) rfl ?_
  refine xe_alr (ins := .aload_n 0) (len := 1) (i := 0) (by decide +kernel) rfl rfl rfl rfl rfl ?_
  refine xe_alr (ins := .aload_n 1) (len := 1) (i := 1) (by decide +kernel) rfl rfl rfl rfl rfl ?_
  obtain ⟨M102, e103, h⟩ := xbnd h
  refine xs_p (i := 9) (c := 2) (k := 0) (by decide +kernel) (by decide +kernel) (by decide +kernel) e103 rfl ?_
  refine xe_alr (ins := .aload_n 0) (len := 1) (i := 0) (by decide +kernel) rfl rfl rfl rfl rfl ?_
  refine xe_alr (ins := .aload_n 2) (len := 1) (i := 2) (by decide +kernel) rfl rfl rfl rfl rfl ?_
  obtain ⟨M104, e105, h⟩ := xbnd h
  refine xs_p (i := 15) (c := 2) (k := 1) (by decide +kernel) (by decide +kernel) (by decide +kernel) e105 rfl ?_
  cases h
  exact xe_ret_v (by decide +kernel) rfl ⟨rfl, rfl⟩
-- ChangeHouse$Moment.has
def xr_15 : xj_mR := (2, yX2_has, cX2_has, 4, (Option.some Jvm.ClassFile.FieldType.boolean), 3, false, (8, 22), (1, 8))
set_option maxRecDepth 20000 in
theorem xr_15_e : xj_row 15 = some xr_15 := rfl
def f15_54   (f : Nat) (y0 : Int) (M : xj_M) : Option (Int × xj_M) := (if (y0) = 0 ∨ (y0) = 1 then some (y0, M) else none)
theorem k15_54 {d f : Nat}     {y0 : Int} {M : xj_M} {R : Int × xj_M} (hy0 : xin y0) (h : f15_54   f y0 M = some R) : xW (d + 0) (none, d + 0, none) xr_15 (54, [], [xI y0], M) (xQi R) := by
  unfold f15_54 at h
  by_cases c101 : (y0) = 0 ∨ (y0) = 1
  · rw [if_pos c101] at h; cases h; exact xe_ret_i (ty := .boolean) (by decide +kernel) rfl (xbool c101) ⟨rfl, rfl, hy0⟩
  · rw [if_neg c101] at h; cases h
def f15_53   (f : Nat)  (M : xj_M) : Option (Int × xj_M) := f15_54   f (0) M
theorem k15_53 {d f : Nat}      {M : xj_M} {R : Int × xj_M}  (h : f15_53   f  M = some R) : xW (d + 0) (none, d + 0, none) xr_15 (53, [], [], M) (xQi R) := by
  unfold f15_53 at h
  refine xe_iconst (n := 0) (by decide +kernel) rfl ?_
  refine xW_lv rfl (l := []) (xsb_of trivial (show [].Nodup by decide)) ?_
  exact k15_54   (show xin (0) by decide) h
def f15  (f : Nat) (a0 : Nat) (a1 : Int) (a2 : Int) (a3 : Int) (M : xj_M) : Option (Int × xj_M) := (if (a1) < 0 then f15_53   f  M else ((xq_gr 2 0 (a0) M).bind fun v103 => ((xq_gi 3 1 (v103) M).bind fun v105 => (if (v105) ≤ (a1) then f15_53   f  M else (if (a2) < 0 then f15_53   f  M else ((xq_gr 2 1 (a0) M).bind fun v109 => ((xq_ar (v109) (a1) M).bind fun v111 => ((xq_gi 5 1 (v111) M).bind fun v113 => (if (v113) ≤ (a2) then f15_53   f  M else (if (a3) < 0 then f15_53   f  M else ((xq_gr 2 0 (a0) M).bind fun v117 => ((xq_gr 3 3 (v117) M).bind fun v119 => ((xq_ai 3 (v119) (a1) M).bind fun v121 => (if (v121) ≤ (a3) then f15_53   f  M else f15_54   f (1) M))))))))))))))
theorem k15 {d f : Nat}   {a0 : Nat} {a1 : Int} {a2 : Int} {a3 : Int} {M : xj_M} {R : Int × xj_M} (ha1 : xin a1) (ha2 : xin a2) (ha3 : xin a3) (h : f15  f a0 a1 a2 a3 M = some R) : xT (d + 1) 15 [xR_ a0, xI a1, xI a2, xI a3] M (xQi R) := by
  refine xT_m xr_15_e (X := (none, d + 0, none)) rfl (xa_1 (xR_cat _) (xa_1 (xI_cat _) (xa_1 (xI_cat _) (xa_1 (xI_cat _) xa_n)))) (by decide) ?_
  unfold f15 at h
  refine xe_ldn (ins := .iload_n 1) (len := 1) (by decide +kernel) rfl rfl rfl rfl ?_
  refine xe_iflt (off := 52) (t := 53) (by decide +kernel) (by decide) rfl ha1 (fun c102 => ?_) (fun c102 => ?_)
  · rw [if_pos c102] at h
    refine xW_lv rfl (l := []) (xsb_of trivial (show [0, 1, 2, 3].Nodup by decide)) ?_
    exact k15_53    h
  · rw [if_neg c102] at h
    refine xe_ldn (ins := .iload_n 1) (len := 1) (by decide +kernel) rfl rfl rfl rfl ?_
    refine xe_alr (ins := .aload_n 0) (len := 1) (i := 0) (by decide +kernel) rfl rfl rfl rfl rfl ?_
    obtain ⟨v103, e104, h⟩ := xbnd h
    refine xs_gr (i := 9) (c := 2) (k := 0) (by decide +kernel) (by decide) (by decide +kernel) e104 rfl ?_
    obtain ⟨v105, e106, h⟩ := xbnd h
    refine xs_gi (i := 19) (c := 3) (k := 1) (by decide +kernel) (by decide) (by decide +kernel) e106 rfl ?_
    refine xe_icmpge (off := 41) (t := 53) (by decide +kernel) (by decide) rfl ha1 (xq_gi_in e106) (fun c107 => ?_) (fun c107 => ?_)
    · rw [if_pos c107] at h
      refine xW_lv rfl (l := []) (xsb_of trivial (show [0, 1, 2, 3].Nodup by decide)) ?_
      exact k15_53    h
    · rw [if_neg c107] at h
      refine xe_ldn (ins := .iload_n 2) (len := 1) (by decide +kernel) rfl rfl rfl rfl ?_
      refine xe_iflt (off := 37) (t := 53) (by decide +kernel) (by decide) rfl ha2 (fun c108 => ?_) (fun c108 => ?_)
      · rw [if_pos c108] at h
        refine xW_lv rfl (l := []) (xsb_of trivial (show [0, 1, 2, 3].Nodup by decide)) ?_
        exact k15_53    h
      · rw [if_neg c108] at h
        refine xe_ldn (ins := .iload_n 2) (len := 1) (by decide +kernel) rfl rfl rfl rfl ?_
        refine xe_alr (ins := .aload_n 0) (len := 1) (i := 0) (by decide +kernel) rfl rfl rfl rfl rfl ?_
        obtain ⟨v109, e110, h⟩ := xbnd h
        refine xs_gr (i := 15) (c := 2) (k := 1) (by decide +kernel) (by decide) (by decide +kernel) e110 rfl ?_
        refine xe_ldn (ins := .iload_n 1) (len := 1) (by decide +kernel) rfl rfl rfl rfl ?_
        obtain ⟨v111, e112, h⟩ := xbnd h
        refine xs_aald (by decide +kernel) ha1 e112 rfl ?_
        obtain ⟨v113, e114, h⟩ := xbnd h
        refine xs_gi (i := 25) (c := 5) (k := 1) (by decide +kernel) (by decide) (by decide +kernel) e114 rfl ?_
        refine xe_icmpge (off := 24) (t := 53) (by decide +kernel) (by decide) rfl ha2 (xq_gi_in e114) (fun c115 => ?_) (fun c115 => ?_)
        · rw [if_pos c115] at h
          refine xW_lv rfl (l := []) (xsb_of trivial (show [0, 1, 2, 3].Nodup by decide)) ?_
          exact k15_53    h
        · rw [if_neg c115] at h
          refine xe_ldn (ins := .iload_n 3) (len := 1) (by decide +kernel) rfl rfl rfl rfl ?_
          refine xe_iflt (off := 20) (t := 53) (by decide +kernel) (by decide) rfl ha3 (fun c116 => ?_) (fun c116 => ?_)
          · rw [if_pos c116] at h
            refine xW_lv rfl (l := []) (xsb_of trivial (show [0, 1, 2, 3].Nodup by decide)) ?_
            exact k15_53    h
          · rw [if_neg c116] at h
            refine xe_ldn (ins := .iload_n 3) (len := 1) (by decide +kernel) rfl rfl rfl rfl ?_
            refine xe_alr (ins := .aload_n 0) (len := 1) (i := 0) (by decide +kernel) rfl rfl rfl rfl rfl ?_
            obtain ⟨v117, e118, h⟩ := xbnd h
            refine xs_gr (i := 9) (c := 2) (k := 0) (by decide +kernel) (by decide) (by decide +kernel) e118 rfl ?_
            obtain ⟨v119, e120, h⟩ := xbnd h
            refine xs_gr (i := 30) (c := 3) (k := 3) (by decide +kernel) (by decide) (by decide +kernel) e120 rfl ?_
            refine xe_ldn (ins := .iload_n 1) (len := 1) (by decide +kernel) rfl rfl rfl rfl ?_
            obtain ⟨v121, e122, h⟩ := xbnd h
            refine xs_iald rfl (by decide +kernel) ha1 e122 rfl ?_
            refine xe_icmpge (off := 7) (t := 53) (by decide +kernel) (by decide) rfl ha3 (xq_ai_in e122) (fun c123 => ?_) (fun c123 => ?_)
            · rw [if_pos c123] at h
              refine xW_lv rfl (l := []) (xsb_of trivial (show [0, 1, 2, 3].Nodup by decide)) ?_
              exact k15_53    h
            · rw [if_neg c123] at h
              refine xe_iconst (n := 1) (by decide +kernel) rfl ?_
              refine xe_goto (off := 4) (nx := 54) (by decide +kernel) (by decide) ?_
              refine xW_lv rfl (l := []) (xsb_of trivial (show [0, 1, 2, 3].Nodup by decide)) ?_
              exact k15_54   (show xin (1) by decide) h
-- ChangeHouse$Moment.rowsOfAll
def xr_16 : xj_mR := (2, yX2_rowsOfAll, cX2_rowsOfAll, 3, (Option.some Jvm.ClassFile.FieldType.int), 0, false, (7, 134), (1, 8))
set_option maxRecDepth 20000 in
theorem xr_16_e : xj_row 16 = some xr_16 := rfl
def f16_4b  (r4 : Nat → Int → Int → xj_M → Option (Int × xj_M)) (f : Nat) (x0 : Nat) (x1 : Int) (x2 : Int) (M : xj_M) : Option (Int × xj_M) := ((xq_gr 2 0 (x0) M).bind fun v101 => ((xq_gi 3 1 (v101) M).bind fun v103 => (if (v103) ≤ (x2) then (some (x1, M)) else ((xq_gr 2 1 (x0) M).bind fun v106 => ((xq_ar (v106) (x2) M).bind fun v108 => ((xq_gi 5 1 (v108) M).bind fun v110 => r4 (x0) (xwr ((x1) + (v110))) (xwr ((x2) + (1))) M))))))
theorem k16_4b {d f : Nat}  {r4 : Nat → Int → Int → xj_M → Option (Int × xj_M)}  (hr4 : ∀ {x0 : Nat} {x1 : Int} {x2 : Int} {M : xj_M} {R : Int × xj_M}, xin x1 → xin x2 → r4 x0 x1 x2 M = some R → xW (d + 0) (none, d + 0, none) xr_16 (4, [(0, xR_ x0), (1, xI x1), (2, xI x2)], [], M) (xQi R)) {x0 : Nat} {x1 : Int} {x2 : Int} {M : xj_M} {R : Int × xj_M} (hx1 : xin x1) (hx2 : xin x2) (h : f16_4b  r4 f x0 x1 x2 M = some R) : xW (d + 0) (none, d + 0, none) xr_16 (4, [(0, xR_ x0), (1, xI x1), (2, xI x2)], [], M) (xQi R) := by
  unfold f16_4b at h
  refine xe_ldn (ins := .iload_n 2) (len := 1) (by decide +kernel) rfl rfl rfl rfl ?_
  refine xe_alr (ins := .aload_n 0) (len := 1) (i := 0) (by decide +kernel) rfl rfl rfl rfl rfl ?_
  obtain ⟨v101, e102, h⟩ := xbnd h
  refine xs_gr (i := 9) (c := 2) (k := 0) (by decide +kernel) (by decide) (by decide +kernel) e102 rfl ?_
  obtain ⟨v103, e104, h⟩ := xbnd h
  refine xs_gi (i := 19) (c := 3) (k := 1) (by decide +kernel) (by decide) (by decide +kernel) e104 rfl ?_
  refine xe_icmpge (off := 21) (t := 33) (by decide +kernel) (by decide) rfl hx2 (xq_gi_in e104) (fun c105 => ?_) (fun c105 => ?_)
  · rw [if_pos c105] at h
    refine xe_ldn (ins := .iload_n 1) (len := 1) (by decide +kernel) rfl rfl rfl rfl ?_
    cases h
    exact xe_ret_i (ty := .int) (by decide +kernel) rfl rfl ⟨rfl, rfl, hx1⟩
  · rw [if_neg c105] at h
    refine xe_ldn (ins := .iload_n 1) (len := 1) (by decide +kernel) rfl rfl rfl rfl ?_
    refine xe_alr (ins := .aload_n 0) (len := 1) (i := 0) (by decide +kernel) rfl rfl rfl rfl rfl ?_
    obtain ⟨v106, e107, h⟩ := xbnd h
    refine xs_gr (i := 15) (c := 2) (k := 1) (by decide +kernel) (by decide) (by decide +kernel) e107 rfl ?_
    refine xe_ldn (ins := .iload_n 2) (len := 1) (by decide +kernel) rfl rfl rfl rfl ?_
    obtain ⟨v108, e109, h⟩ := xbnd h
    refine xs_aald (by decide +kernel) hx2 e109 rfl ?_
    obtain ⟨v110, e111, h⟩ := xbnd h
    refine xs_gi (i := 25) (c := 5) (k := 1) (by decide +kernel) (by decide) (by decide +kernel) e111 rfl ?_
    refine xe_iadd (by decide +kernel) rfl ?_
    refine xe_isr (ins := .istore_n 1) (len := 1) (i := 1) (by decide +kernel) rfl rfl rfl (by decide) (xk_k (show ¬ (0 : Nat) = 1 by decide) (Or.inr (xR_cat _)) (xk_d rfl (xk_k (show ¬ (2 : Nat) = 1 by decide) (Or.inl (show ¬ (2 + 1 : Nat) = 1 by decide)) xk_n))) rfl ?_
    refine xe_iincr (i := 2) (n := 1) (by decide +kernel) (by decide) rfl (xk_k (show ¬ (1 : Nat) = 2 by decide) (Or.inr (xI_cat _)) (xk_k (show ¬ (0 : Nat) = 2 by decide) (Or.inl (show ¬ (0 + 1 : Nat) = 2 by decide)) (xk_d rfl xk_n))) rfl ?_
    refine xe_goto (off := -26) (nx := 4) (by decide +kernel) (by decide) ?_
    refine xW_lv rfl (l := [(0, xR_ (x0)), (1, xI (xwr ((x1) + (v110)))), (2, xI (xwr ((x2) + (1))))]) (xsb_of ⟨rfl, rfl, rfl, trivial⟩ (show [2, 1, 0].Nodup by decide)) ?_
    exact hr4 (xin_wr _) (xin_wr _) h
def f16_4   (f : Nat) : Nat → Nat → Int → Int → xj_M → Option (Int × xj_M)
  | 0, _, _, _, _ => none
  | n + 1, x0, x1, x2, M => f16_4b   (f16_4   f n) f x0 x1 x2 M
theorem k16_4 {d f : Nat}     : ∀ {n : Nat} {x0 : Nat} {x1 : Int} {x2 : Int} {M : xj_M} {R : Int × xj_M}, xin x1 → xin x2 → f16_4   f n x0 x1 x2 M = some R → xW (d + 0) (none, d + 0, none) xr_16 (4, [(0, xR_ x0), (1, xI x1), (2, xI x2)], [], M) (xQi R) := by
  intro n
  induction n with
  | zero => intros; rename_i h; cases h
  | succ n ih => intros; rename_i h; exact k16_4b   ih (by assumption) (by assumption) h
def f16  (f : Nat) (a0 : Nat) (M : xj_M) : Option (Int × xj_M) := f16_4   f f (a0) (0) (0) M
theorem k16 {d f : Nat}   {a0 : Nat} {M : xj_M} {R : Int × xj_M}  (h : f16  f a0 M = some R) : xT (d + 1) 16 [xR_ a0] M (xQi R) := by
  refine xT_m xr_16_e (X := (none, d + 0, none)) rfl (xa_1 (xR_cat _) xa_n) (by decide) ?_
  unfold f16 at h
  refine xe_iconst (n := 0) (by decide +kernel) rfl ?_
  refine xe_isr (ins := .istore_n 1) (len := 1) (i := 1) (by decide +kernel) rfl rfl rfl (by decide) (xk_k (show ¬ (0 : Nat) = 1 by decide) (Or.inr (xR_cat _)) xk_n) rfl ?_
  refine xe_iconst (n := 0) (by decide +kernel) rfl ?_
  refine xe_isr (ins := .istore_n 2) (len := 1) (i := 2) (by decide +kernel) rfl rfl rfl (by decide) (xk_k (show ¬ (1 : Nat) = 2 by decide) (Or.inr (xI_cat _)) (xk_k (show ¬ (0 : Nat) = 2 by decide) (Or.inl (show ¬ (0 + 1 : Nat) = 2 by decide)) xk_n)) rfl ?_
  refine xW_lv rfl (l := [(0, xR_ (a0)), (1, xI (0)), (2, xI (0))]) (xsb_of ⟨rfl, rfl, rfl, trivial⟩ (show [2, 1, 0].Nodup by decide)) ?_
  exact k16_4   (show xin (0) by decide) (show xin (0) by decide) h
-- ChangeHouse$Program.<init>
def xr_19 : xj_mR := (3, yX3_init, cX3_init, 2, (Option.none : Option Jvm.ClassFile.FieldType), 1, true, (2, 93), (1, 9))
set_option maxRecDepth 20000 in
theorem xr_19_e : xj_row 19 = some xr_19 := rfl
def f19  (f : Nat) (a0 : Nat) (a1 : Int) (M : xj_M) : Option (xj_M) := ((xq_nz (a0)).bind fun _ => ((xq_na 4 (16) M).bind fun p102 => ((xq_pr 3 2 (a0) (p102.1) p102.2).bind fun M104 => ((xq_na 3 (16) M104).bind fun p106 => ((xq_pr 3 3 (a0) (p106.1) p106.2).bind fun M108 => ((xq_na 3 (16) M108).bind fun p110 => ((xq_pr 3 4 (a0) (p110.1) p110.2).bind fun M112 => ((xq_na 0 (16) M112).bind fun p114 => ((xq_pr 3 5 (a0) (p114.1) p114.2).bind fun M116 => ((xq_na 0 (16) M116).bind fun p118 => ((xq_pr 3 6 (a0) (p118.1) p118.2).bind fun M120 => ((xq_na 0 (16) M120).bind fun p122 => ((xq_pr 3 7 (a0) (p122.1) p122.2).bind fun M124 => ((xq_an 6 (24) M124).bind fun p126 => ((xq_pr 3 9 (a0) (p126.1) p126.2).bind fun M128 => ((xq_na 3 (16) M128).bind fun p130 => ((xq_pr 3 10 (a0) (p130.1) p130.2).bind fun M132 => ((xq_na 3 (16) M132).bind fun p134 => ((xq_pr 3 11 (a0) (p134.1) p134.2).bind fun M136 => ((xq_na 3 (16) M136).bind fun p138 => ((xq_pr 3 13 (a0) (p138.1) p138.2).bind fun M140 => ((xq_pi 3 0 (a0) (a1) M140).bind fun M142 => (some M142)))))))))))))))))))))))
theorem k19 {d f : Nat}   {a0 : Nat} {a1 : Int} {M : xj_M} {R : xj_M} (ha1 : xin a1) (h : f19  f a0 a1 M = some R) : xT (d + 1) 19 [xR_ a0, xI a1] M (xQv R) := by
  refine xT_m xr_19_e (X := (none, d + 0, none)) rfl (xa_1 (xR_cat _) (xa_1 (xI_cat _) xa_n)) (by decide) ?_
  unfold f19 at h
  refine xe_alr (ins := .aload_n 0) (len := 1) (i := 0) (by decide +kernel) rfl rfl rfl rfl rfl ?_
  obtain ⟨_, e101, h⟩ := xbnd h
  refine xe_oi (i := 3) (j := 0) (by decide +kernel) (by decide +kernel) (by rfl) (xq_nz_ne e101) rfl ?_
  refine xe_alr (ins := .aload_n 0) (len := 1) (i := 0) (by decide +kernel) rfl rfl rfl rfl rfl ?_
  refine xe_bipush (n := 16) (by decide +kernel) (by decide) rfl ?_
  obtain ⟨p102, e103, h⟩ := xbnd h
  refine xs_na (kk := 4) (ty := .long) (x := p102.1) (M1 := p102.2) (by decide +kernel) rfl (show xin (16) by decide) e103 rfl ?_
  obtain ⟨M104, e105, h⟩ := xbnd h
  refine xs_p (i := 9) (c := 3) (k := 2) (by decide +kernel) (by decide +kernel) (by decide +kernel) e105 rfl ?_
  refine xe_alr (ins := .aload_n 0) (len := 1) (i := 0) (by decide +kernel) rfl rfl rfl rfl rfl ?_
  refine xe_bipush (n := 16) (by decide +kernel) (by decide) rfl ?_
  obtain ⟨p106, e107, h⟩ := xbnd h
  refine xs_na (kk := 3) (ty := .int) (x := p106.1) (M1 := p106.2) (by decide +kernel) rfl (show xin (16) by decide) e107 rfl ?_
  obtain ⟨M108, e109, h⟩ := xbnd h
  refine xs_p (i := 15) (c := 3) (k := 3) (by decide +kernel) (by decide +kernel) (by decide +kernel) e109 rfl ?_
  refine xe_alr (ins := .aload_n 0) (len := 1) (i := 0) (by decide +kernel) rfl rfl rfl rfl rfl ?_
  refine xe_bipush (n := 16) (by decide +kernel) (by decide) rfl ?_
  obtain ⟨p110, e111, h⟩ := xbnd h
  refine xs_na (kk := 3) (ty := .int) (x := p110.1) (M1 := p110.2) (by decide +kernel) rfl (show xin (16) by decide) e111 rfl ?_
  obtain ⟨M112, e113, h⟩ := xbnd h
  refine xs_p (i := 19) (c := 3) (k := 4) (by decide +kernel) (by decide +kernel) (by decide +kernel) e113 rfl ?_
  refine xe_alr (ins := .aload_n 0) (len := 1) (i := 0) (by decide +kernel) rfl rfl rfl rfl rfl ?_
  refine xe_bipush (n := 16) (by decide +kernel) (by decide) rfl ?_
  obtain ⟨p114, e115, h⟩ := xbnd h
  refine xs_na (kk := 0) (ty := .boolean) (x := p114.1) (M1 := p114.2) (by decide +kernel) rfl (show xin (16) by decide) e115 rfl ?_
  obtain ⟨M116, e117, h⟩ := xbnd h
  refine xs_p (i := 22) (c := 3) (k := 5) (by decide +kernel) (by decide +kernel) (by decide +kernel) e117 rfl ?_
  refine xe_alr (ins := .aload_n 0) (len := 1) (i := 0) (by decide +kernel) rfl rfl rfl rfl rfl ?_
  refine xe_bipush (n := 16) (by decide +kernel) (by decide) rfl ?_
  obtain ⟨p118, e119, h⟩ := xbnd h
  refine xs_na (kk := 0) (ty := .boolean) (x := p118.1) (M1 := p118.2) (by decide +kernel) rfl (show xin (16) by decide) e119 rfl ?_
  obtain ⟨M120, e121, h⟩ := xbnd h
  refine xs_p (i := 26) (c := 3) (k := 6) (by decide +kernel) (by decide +kernel) (by decide +kernel) e121 rfl ?_
  refine xe_alr (ins := .aload_n 0) (len := 1) (i := 0) (by decide +kernel) rfl rfl rfl rfl rfl ?_
  refine xe_bipush (n := 16) (by decide +kernel) (by decide) rfl ?_
  obtain ⟨p122, e123, h⟩ := xbnd h
  refine xs_na (kk := 0) (ty := .boolean) (x := p122.1) (M1 := p122.2) (by decide +kernel) rfl (show xin (16) by decide) e123 rfl ?_
  obtain ⟨M124, e125, h⟩ := xbnd h
  refine xs_p (i := 29) (c := 3) (k := 7) (by decide +kernel) (by decide +kernel) (by decide +kernel) e125 rfl ?_
  refine xe_alr (ins := .aload_n 0) (len := 1) (i := 0) (by decide +kernel) rfl rfl rfl rfl rfl ?_
  refine xe_bipush (n := 24) (by decide +kernel) (by decide) rfl ?_
  obtain ⟨p126, e127, h⟩ := xbnd h
  refine xs_an (i := 32) (ci := 6) (x := p126.1) (M1 := p126.2) (by decide +kernel) (by decide +kernel) (show xin (24) by decide) e127 rfl ?_
  obtain ⟨M128, e129, h⟩ := xbnd h
  refine xs_p (i := 34) (c := 3) (k := 9) (by decide +kernel) (by decide +kernel) (by decide +kernel) e129 rfl ?_
  refine xe_alr (ins := .aload_n 0) (len := 1) (i := 0) (by decide +kernel) rfl rfl rfl rfl rfl ?_
  refine xe_bipush (n := 16) (by decide +kernel) (by decide) rfl ?_
  obtain ⟨p130, e131, h⟩ := xbnd h
  refine xs_na (kk := 3) (ty := .int) (x := p130.1) (M1 := p130.2) (by decide +kernel) rfl (show xin (16) by decide) e131 rfl ?_
  obtain ⟨M132, e133, h⟩ := xbnd h
  refine xs_p (i := 38) (c := 3) (k := 10) (by decide +kernel) (by decide +kernel) (by decide +kernel) e133 rfl ?_
  refine xe_alr (ins := .aload_n 0) (len := 1) (i := 0) (by decide +kernel) rfl rfl rfl rfl rfl ?_
  refine xe_bipush (n := 16) (by decide +kernel) (by decide) rfl ?_
  obtain ⟨p134, e135, h⟩ := xbnd h
  refine xs_na (kk := 3) (ty := .int) (x := p134.1) (M1 := p134.2) (by decide +kernel) rfl (show xin (16) by decide) e135 rfl ?_
  obtain ⟨M136, e137, h⟩ := xbnd h
  refine xs_p (i := 41) (c := 3) (k := 11) (by decide +kernel) (by decide +kernel) (by decide +kernel) e137 rfl ?_
  refine xe_alr (ins := .aload_n 0) (len := 1) (i := 0) (by decide +kernel) rfl rfl rfl rfl rfl ?_
  refine xe_bipush (n := 16) (by decide +kernel) (by decide) rfl ?_
  obtain ⟨p138, e139, h⟩ := xbnd h
  refine xs_na (kk := 3) (ty := .int) (x := p138.1) (M1 := p138.2) (by decide +kernel) rfl (show xin (16) by decide) e139 rfl ?_
  obtain ⟨M140, e141, h⟩ := xbnd h
  refine xs_p (i := 44) (c := 3) (k := 13) (by decide +kernel) (by decide +kernel) (by decide +kernel) e141 rfl ?_
  refine xe_alr (ins := .aload_n 0) (len := 1) (i := 0) (by decide +kernel) rfl rfl rfl rfl rfl ?_
  refine xe_ldn (ins := .iload_n 1) (len := 1) (by decide +kernel) rfl rfl rfl rfl ?_
  obtain ⟨M142, e143, h⟩ := xbnd h
  refine xs_p (i := 47) (c := 3) (k := 0) (by decide +kernel) (by decide +kernel) (by decide +kernel) e143 rfl ?_
  cases h
  exact xe_ret_v (by decide +kernel) rfl ⟨rfl, rfl⟩
-- ChangeHouse$Program.find
def xr_20 : xj_mR := (3, yX3_find, cX3_find, 4, (Option.some Jvm.ClassFile.FieldType.int), 1, false, (4, 158), (1, 9))
set_option maxRecDepth 20000 in
theorem xr_20_e : xj_row 20 = some xr_20 := rfl
def f20_2b  (r2 : Nat → Int → Int → xj_M → Option (Int × xj_M)) (f : Nat) (x0 : Nat) (x1 : Int) (x3 : Int) (M : xj_M) : Option (Int × xj_M) := ((xq_gi 3 1 (x0) M).bind fun v101 => (if (v101) ≤ (x3) then (some (-1, M)) else ((xq_gr 3 2 (x0) M).bind fun v104 => ((xq_al (v104) (x3) M).bind fun v106 => (if ¬ (v106) = (x1) then r2 (x0) (x1) (xwr ((x3) + (1))) M else (some (x3, M)))))))
theorem k20_2b {d f : Nat}  {r2 : Nat → Int → Int → xj_M → Option (Int × xj_M)}  (hr2 : ∀ {x0 : Nat} {x1 : Int} {x3 : Int} {M : xj_M} {R : Int × xj_M}, xiN x1 → xin x3 → r2 x0 x1 x3 M = some R → xW (d + 0) (none, d + 0, none) xr_20 (2, [(0, xR_ x0), (1, xZ x1), (3, xI x3)], [], M) (xQi R)) {x0 : Nat} {x1 : Int} {x3 : Int} {M : xj_M} {R : Int × xj_M} (hx1 : xiN x1) (hx3 : xin x3) (h : f20_2b  r2 f x0 x1 x3 M = some R) : xW (d + 0) (none, d + 0, none) xr_20 (2, [(0, xR_ x0), (1, xZ x1), (3, xI x3)], [], M) (xQi R) := by
  unfold f20_2b at h
  refine xe_ldn (ins := .iload_n 3) (len := 1) (by decide +kernel) rfl rfl rfl rfl ?_
  refine xe_alr (ins := .aload_n 0) (len := 1) (i := 0) (by decide +kernel) rfl rfl rfl rfl rfl ?_
  obtain ⟨v101, e102, h⟩ := xbnd h
  refine xs_gi (i := 51) (c := 3) (k := 1) (by decide +kernel) (by decide) (by decide +kernel) e102 rfl ?_
  refine xe_icmpge (off := 22) (t := 29) (by decide +kernel) (by decide) rfl hx3 (xq_gi_in e102) (fun c103 => ?_) (fun c103 => ?_)
  · rw [if_pos c103] at h
    refine xe_iconst (n := -1) (by decide +kernel) rfl ?_
    cases h
    exact xe_ret_i (ty := .int) (by decide +kernel) rfl rfl ⟨rfl, rfl, (show xin (-1) by decide)⟩
  · rw [if_neg c103] at h
    refine xe_alr (ins := .aload_n 0) (len := 1) (i := 0) (by decide +kernel) rfl rfl rfl rfl rfl ?_
    obtain ⟨v104, e105, h⟩ := xbnd h
    refine xs_gr (i := 9) (c := 3) (k := 2) (by decide +kernel) (by decide) (by decide +kernel) e105 rfl ?_
    refine xe_ldn (ins := .iload_n 3) (len := 1) (by decide +kernel) rfl rfl rfl rfl ?_
    obtain ⟨v106, e107, h⟩ := xbnd h
    refine xs_lald (by decide +kernel) hx3 e107 rfl ?_
    refine xe_ldn (ins := .lload_n 1) (len := 1) (by decide +kernel) rfl rfl rfl rfl ?_
    refine xe_lcmp (by decide +kernel) rfl (xq_al_in e107) hx1 ?_
    refine xe_ifne (off := 5) (t := 23) (by decide +kernel) (by decide) rfl (xin_cmp8 _ _) (fun c108 => ?_) (fun c108 => ?_)
    · have c108 := xcmp8_ne.mp c108; rw [if_pos c108] at h
      refine xe_iincr (i := 3) (n := 1) (by decide +kernel) (by decide) rfl (xk_k (show ¬ (0 : Nat) = 3 by decide) (Or.inl (show ¬ (0 + 1 : Nat) = 3 by decide)) (xk_k (show ¬ (1 : Nat) = 3 by decide) (Or.inl (show ¬ (1 + 1 : Nat) = 3 by decide)) (xk_d rfl xk_n))) rfl ?_
      refine xe_goto (off := -24) (nx := 2) (by decide +kernel) (by decide) ?_
      refine xW_lv rfl (l := [(0, xR_ (x0)), (1, xZ (x1)), (3, xI (xwr ((x3) + (1))))]) (xsb_of ⟨rfl, rfl, rfl, trivial⟩ (show [3, 0, 1].Nodup by decide)) ?_
      exact hr2 hx1 (xin_wr _) h
    · have c108 := (not_congr xcmp8_ne).mp c108; rw [if_neg c108] at h
      refine xe_ldn (ins := .iload_n 3) (len := 1) (by decide +kernel) rfl rfl rfl rfl ?_
      cases h
      exact xe_ret_i (ty := .int) (by decide +kernel) rfl rfl ⟨rfl, rfl, hx3⟩
def f20_2   (f : Nat) : Nat → Nat → Int → Int → xj_M → Option (Int × xj_M)
  | 0, _, _, _, _ => none
  | n + 1, x0, x1, x3, M => f20_2b   (f20_2   f n) f x0 x1 x3 M
theorem k20_2 {d f : Nat}     : ∀ {n : Nat} {x0 : Nat} {x1 : Int} {x3 : Int} {M : xj_M} {R : Int × xj_M}, xiN x1 → xin x3 → f20_2   f n x0 x1 x3 M = some R → xW (d + 0) (none, d + 0, none) xr_20 (2, [(0, xR_ x0), (1, xZ x1), (3, xI x3)], [], M) (xQi R) := by
  intro n
  induction n with
  | zero => intros; rename_i h; cases h
  | succ n ih => intros; rename_i h; exact k20_2b   ih (by assumption) (by assumption) h
def f20  (f : Nat) (a0 : Nat) (a1 : Int) (M : xj_M) : Option (Int × xj_M) := f20_2   f f (a0) (a1) (0) M
theorem k20 {d f : Nat}   {a0 : Nat} {a1 : Int} {M : xj_M} {R : Int × xj_M} (ha1 : xiN a1) (h : f20  f a0 a1 M = some R) : xT (d + 1) 20 [xR_ a0, xZ a1] M (xQi R) := by
  refine xT_m xr_20_e (X := (none, d + 0, none)) rfl (xa_1 (xR_cat _) (xa_2 (xZ_cat _) xa_n)) (by decide) ?_
  unfold f20 at h
  refine xe_iconst (n := 0) (by decide +kernel) rfl ?_
  refine xe_isr (ins := .istore_n 3) (len := 1) (i := 3) (by decide +kernel) rfl rfl rfl (by decide) (xk_k (show ¬ (0 : Nat) = 3 by decide) (Or.inl (show ¬ (0 + 1 : Nat) = 3 by decide)) (xk_k (show ¬ (1 : Nat) = 3 by decide) (Or.inl (show ¬ (1 + 1 : Nat) = 3 by decide)) xk_n)) rfl ?_
  refine xW_lv rfl (l := [(0, xR_ (a0)), (1, xZ (a1)), (3, xI (0))]) (xsb_of ⟨rfl, rfl, rfl, trivial⟩ (show [3, 0, 1].Nodup by decide)) ?_
  exact k20_2   ha1 (show xin (0) by decide) h
-- ChangeHouse$Program.like
def xr_21 : xj_mR := (3, yX3_like, cX3_like, 4, (Option.some Jvm.ClassFile.FieldType.int), 2, false, (6, 81), (1, 9))
set_option maxRecDepth 20000 in
theorem xr_21_e : xj_row 21 = some xr_21 := rfl
def f21_36   (f : Nat) (y0 : Int) (M : xj_M) : Option (Int × xj_M) := (some (y0, M))
theorem k21_36 {d f : Nat}     {y0 : Int} {M : xj_M} {R : Int × xj_M} (hy0 : xin y0) (h : f21_36   f y0 M = some R) : xW (d + 1) (none, d + 1, none) xr_21 (36, [], [xI y0], M) (xQi R) := by
  unfold f21_36 at h
  cases h
  exact xe_ret_i (ty := .int) (by decide +kernel) rfl rfl ⟨rfl, rfl, hy0⟩
def f21_35   (f : Nat)  (M : xj_M) : Option (Int × xj_M) := f21_36   f (-1) M
theorem k21_35 {d f : Nat}      {M : xj_M} {R : Int × xj_M}  (h : f21_35   f  M = some R) : xW (d + 1) (none, d + 1, none) xr_21 (35, [], [], M) (xQi R) := by
  unfold f21_35 at h
  refine xe_iconst (n := -1) (by decide +kernel) rfl ?_
  refine xW_lv rfl (l := []) (xsb_of trivial (show [].Nodup by decide)) ?_
  exact k21_36   (show xin (-1) by decide) h
def f21  (f : Nat) (a0 : Nat) (a1 : Nat) (a2 : Int) (M : xj_M) : Option (Int × xj_M) := ((xq_gr 3 2 (a1) M).bind fun v101 => ((xq_al (v101) (a2) M).bind fun v103 => ((xq_is 3 (a0) M).bind fun _ => ((f20  f (a0) (v103) M).bind fun R107 => (if (R107.1) = (-1) then f21_35   f  R107.2 else ((xq_gr 3 3 (a0) R107.2).bind fun v110 => ((xq_ai 3 (v110) (R107.1) R107.2).bind fun v112 => ((xq_gr 3 3 (a1) R107.2).bind fun v114 => ((xq_ai 3 (v114) (a2) R107.2).bind fun v116 => (if ¬ (v112) = (v116) then f21_35   f  R107.2 else f21_36   f (R107.1) R107.2))))))))))
theorem k21 {d f : Nat}   {a0 : Nat} {a1 : Nat} {a2 : Int} {M : xj_M} {R : Int × xj_M} (ha2 : xin a2) (h : f21  f a0 a1 a2 M = some R) : xT (d + 2) 21 [xR_ a0, xR_ a1, xI a2] M (xQi R) := by
  refine xT_m xr_21_e (X := (none, d + 1, none)) rfl (xa_1 (xR_cat _) (xa_1 (xR_cat _) (xa_1 (xI_cat _) xa_n))) (by decide) ?_
  unfold f21 at h
  refine xe_alr (ins := .aload_n 0) (len := 1) (i := 0) (by decide +kernel) rfl rfl rfl rfl rfl ?_
  refine xe_alr (ins := .aload_n 1) (len := 1) (i := 1) (by decide +kernel) rfl rfl rfl rfl rfl ?_
  obtain ⟨v101, e102, h⟩ := xbnd h
  refine xs_gr (i := 9) (c := 3) (k := 2) (by decide +kernel) (by decide) (by decide +kernel) e102 rfl ?_
  refine xe_ldn (ins := .iload_n 2) (len := 1) (by decide +kernel) rfl rfl rfl rfl ?_
  obtain ⟨v103, e104, h⟩ := xbnd h
  refine xs_lald (by decide +kernel) ha2 e104 rfl ?_
  obtain ⟨_, e106, h⟩ := xbnd h
  obtain ⟨R107, e105, h⟩ := xbnd h
  refine xs_cv (i := 54) (j := 20) (ar := [xZ (v103)]) (rest := []) (r2 := xr_20) (by decide +kernel) (by decide +kernel) (by decide +kernel) xr_20_e rfl (by decide) (by decide) e106 ?_
  refine xc_i (k20 (d := d + 0)  (xq_al_in e104) e105) rfl (fun hi108 => ?_)
  refine xe_isr (ins := .istore_n 3) (len := 1) (i := 3) (by decide +kernel) rfl rfl rfl (by decide) (xk_k (show ¬ (0 : Nat) = 3 by decide) (Or.inl (show ¬ (0 + 1 : Nat) = 3 by decide)) (xk_k (show ¬ (1 : Nat) = 3 by decide) (Or.inl (show ¬ (1 + 1 : Nat) = 3 by decide)) (xk_k (show ¬ (2 : Nat) = 3 by decide) (Or.inr (xI_cat _)) xk_n))) rfl ?_
  refine xe_ldn (ins := .iload_n 3) (len := 1) (by decide +kernel) rfl rfl rfl rfl ?_
  refine xe_iconst (n := -1) (by decide +kernel) rfl ?_
  refine xe_icmpeq (off := 22) (t := 35) (by decide +kernel) (by decide) rfl hi108 (show xin (-1) by decide) (fun c109 => ?_) (fun c109 => ?_)
  · rw [if_pos c109] at h
    refine xW_lv rfl (l := []) (xsb_of trivial (show [3, 0, 1, 2].Nodup by decide)) ?_
    exact k21_35    h
  · rw [if_neg c109] at h
    refine xe_alr (ins := .aload_n 0) (len := 1) (i := 0) (by decide +kernel) rfl rfl rfl rfl rfl ?_
    obtain ⟨v110, e111, h⟩ := xbnd h
    refine xs_gr (i := 15) (c := 3) (k := 3) (by decide +kernel) (by decide) (by decide +kernel) e111 rfl ?_
    refine xe_ldn (ins := .iload_n 3) (len := 1) (by decide +kernel) rfl rfl rfl rfl ?_
    obtain ⟨v112, e113, h⟩ := xbnd h
    refine xs_iald rfl (by decide +kernel) hi108 e113 rfl ?_
    refine xe_alr (ins := .aload_n 1) (len := 1) (i := 1) (by decide +kernel) rfl rfl rfl rfl rfl ?_
    obtain ⟨v114, e115, h⟩ := xbnd h
    refine xs_gr (i := 15) (c := 3) (k := 3) (by decide +kernel) (by decide) (by decide +kernel) e115 rfl ?_
    refine xe_ldn (ins := .iload_n 2) (len := 1) (by decide +kernel) rfl rfl rfl rfl ?_
    obtain ⟨v116, e117, h⟩ := xbnd h
    refine xs_iald rfl (by decide +kernel) ha2 e117 rfl ?_
    refine xe_icmpne (off := 7) (t := 35) (by decide +kernel) (by decide) rfl (xq_ai_in e113) (xq_ai_in e117) (fun c118 => ?_) (fun c118 => ?_)
    · rw [if_pos c118] at h
      refine xW_lv rfl (l := []) (xsb_of trivial (show [3, 0, 1, 2].Nodup by decide)) ?_
      exact k21_35    h
    · rw [if_neg c118] at h
      refine xe_ldn (ins := .iload_n 3) (len := 1) (by decide +kernel) rfl rfl rfl rfl ?_
      refine xe_goto (off := 4) (nx := 36) (by decide +kernel) (by decide) ?_
      refine xW_lv rfl (l := []) (xsb_of trivial (show [3, 0, 1, 2].Nodup by decide)) ?_
      exact k21_36   hi108 h
-- ChangeHouse$Program.inputLike
def xr_22 : xj_mR := (3, yX3_inputLike, cX3_inputLike, 4, (Option.some Jvm.ClassFile.FieldType.int), 2, false, (7, 220), (1, 9))
set_option maxRecDepth 20000 in
theorem xr_22_e : xj_row 22 = some xr_22 := rfl
def f22_26   (f : Nat) (y0 : Int) (M : xj_M) : Option (Int × xj_M) := (some (y0, M))
theorem k22_26 {d f : Nat}     {y0 : Int} {M : xj_M} {R : Int × xj_M} (hy0 : xin y0) (h : f22_26   f y0 M = some R) : xW (d + 2) (none, d + 2, none) xr_22 (26, [], [xI y0], M) (xQi R) := by
  unfold f22_26 at h
  cases h
  exact xe_ret_i (ty := .int) (by decide +kernel) rfl rfl ⟨rfl, rfl, hy0⟩
def f22_25   (f : Nat)  (M : xj_M) : Option (Int × xj_M) := f22_26   f (-1) M
theorem k22_25 {d f : Nat}      {M : xj_M} {R : Int × xj_M}  (h : f22_25   f  M = some R) : xW (d + 2) (none, d + 2, none) xr_22 (25, [], [], M) (xQi R) := by
  unfold f22_25 at h
  refine xe_iconst (n := -1) (by decide +kernel) rfl ?_
  refine xW_lv rfl (l := []) (xsb_of trivial (show [].Nodup by decide)) ?_
  exact k22_26   (show xin (-1) by decide) h
def f22  (f : Nat) (a0 : Nat) (a1 : Nat) (a2 : Int) (M : xj_M) : Option (Int × xj_M) := ((xq_is 3 (a0) M).bind fun _ => ((f21  f (a0) (a1) (a2) M).bind fun R103 => (if (R103.1) = (-1) then f22_25   f  R103.2 else ((xq_gr 3 5 (a0) R103.2).bind fun v106 => ((xq_ab (v106) (R103.1) R103.2).bind fun v108 => (if (v108) = 0 then f22_25   f  R103.2 else f22_26   f (R103.1) R103.2))))))
theorem k22 {d f : Nat}   {a0 : Nat} {a1 : Nat} {a2 : Int} {M : xj_M} {R : Int × xj_M} (ha2 : xin a2) (h : f22  f a0 a1 a2 M = some R) : xT (d + 3) 22 [xR_ a0, xR_ a1, xI a2] M (xQi R) := by
  refine xT_m xr_22_e (X := (none, d + 2, none)) rfl (xa_1 (xR_cat _) (xa_1 (xR_cat _) (xa_1 (xI_cat _) xa_n))) (by decide) ?_
  unfold f22 at h
  refine xe_alr (ins := .aload_n 0) (len := 1) (i := 0) (by decide +kernel) rfl rfl rfl rfl rfl ?_
  refine xe_alr (ins := .aload_n 1) (len := 1) (i := 1) (by decide +kernel) rfl rfl rfl rfl rfl ?_
  refine xe_ldn (ins := .iload_n 2) (len := 1) (by decide +kernel) rfl rfl rfl rfl ?_
  obtain ⟨_, e102, h⟩ := xbnd h
  obtain ⟨R103, e101, h⟩ := xbnd h
  refine xs_cv (i := 58) (j := 21) (ar := [xI (a2), xR_ (a1)]) (rest := []) (r2 := xr_21) (by decide +kernel) (by decide +kernel) (by decide +kernel) xr_21_e rfl (by decide) (by decide) e102 ?_
  refine xc_i (k21 (d := d + 0)  ha2 e101) rfl (fun hi104 => ?_)
  refine xe_isr (ins := .istore_n 3) (len := 1) (i := 3) (by decide +kernel) rfl rfl rfl (by decide) (xk_k (show ¬ (0 : Nat) = 3 by decide) (Or.inl (show ¬ (0 + 1 : Nat) = 3 by decide)) (xk_k (show ¬ (1 : Nat) = 3 by decide) (Or.inl (show ¬ (1 + 1 : Nat) = 3 by decide)) (xk_k (show ¬ (2 : Nat) = 3 by decide) (Or.inr (xI_cat _)) xk_n))) rfl ?_
  refine xe_ldn (ins := .iload_n 3) (len := 1) (by decide +kernel) rfl rfl rfl rfl ?_
  refine xe_iconst (n := -1) (by decide +kernel) rfl ?_
  refine xe_icmpeq (off := 16) (t := 25) (by decide +kernel) (by decide) rfl hi104 (show xin (-1) by decide) (fun c105 => ?_) (fun c105 => ?_)
  · rw [if_pos c105] at h
    refine xW_lv rfl (l := []) (xsb_of trivial (show [3, 0, 1, 2].Nodup by decide)) ?_
    exact k22_25    h
  · rw [if_neg c105] at h
    refine xe_alr (ins := .aload_n 0) (len := 1) (i := 0) (by decide +kernel) rfl rfl rfl rfl rfl ?_
    obtain ⟨v106, e107, h⟩ := xbnd h
    refine xs_gr (i := 22) (c := 3) (k := 5) (by decide +kernel) (by decide) (by decide +kernel) e107 rfl ?_
    refine xe_ldn (ins := .iload_n 3) (len := 1) (by decide +kernel) rfl rfl rfl rfl ?_
    obtain ⟨v108, e109, h⟩ := xbnd h
    refine xs_bald (by decide +kernel) hi104 e109 rfl ?_
    refine xe_ifeq (off := 7) (t := 25) (by decide +kernel) (by decide) rfl (xq_ab_in e109) (fun c110 => ?_) (fun c110 => ?_)
    · rw [if_pos c110] at h
      refine xW_lv rfl (l := []) (xsb_of trivial (show [3, 0, 1, 2].Nodup by decide)) ?_
      exact k22_25    h
    · rw [if_neg c110] at h
      refine xe_ldn (ins := .iload_n 3) (len := 1) (by decide +kernel) rfl rfl rfl rfl ?_
      refine xe_goto (off := 4) (nx := 26) (by decide +kernel) (by decide) ?_
      refine xW_lv rfl (l := []) (xsb_of trivial (show [3, 0, 1, 2].Nodup by decide)) ?_
      exact k22_26   hi104 h
-- ChangeHouse$Program.tellWidth
def xr_23 : xj_mR := (3, yX3_tellWidth, cX3_tellWidth, 3, (Option.none : Option Jvm.ClassFile.FieldType), 2, false, (4, 174), (1, 9))
set_option maxRecDepth 20000 in
theorem xr_23_e : xj_row 23 = some xr_23 := rfl
def f23_16   (f : Nat)  (M : xj_M) : Option (xj_M) := (some M)
theorem k23_16 {d f : Nat}      {M : xj_M} {R : xj_M}  (h : f23_16   f  M = some R) : xW (d + 0) (none, d + 0, none) xr_23 (16, [], [], M) (xQv R) := by
  unfold f23_16 at h
  cases h
  exact xe_ret_v (by decide +kernel) rfl ⟨rfl, rfl⟩
def f23  (f : Nat) (a0 : Nat) (a1 : Int) (a2 : Int) (M : xj_M) : Option (xj_M) := ((xq_gr 3 3 (a0) M).bind fun v101 => ((xq_ai 3 (v101) (a1) M).bind fun v103 => (if ¬ (v103) = 0 then f23_16   f  M else ((xq_gr 3 3 (a0) M).bind fun v106 => ((xq_si (v106) (a1) (a2) M).bind fun M108 => f23_16   f  M108)))))
theorem k23 {d f : Nat}   {a0 : Nat} {a1 : Int} {a2 : Int} {M : xj_M} {R : xj_M} (ha1 : xin a1) (ha2 : xin a2) (h : f23  f a0 a1 a2 M = some R) : xT (d + 1) 23 [xR_ a0, xI a1, xI a2] M (xQv R) := by
  refine xT_m xr_23_e (X := (none, d + 0, none)) rfl (xa_1 (xR_cat _) (xa_1 (xI_cat _) (xa_1 (xI_cat _) xa_n))) (by decide) ?_
  unfold f23 at h
  refine xe_alr (ins := .aload_n 0) (len := 1) (i := 0) (by decide +kernel) rfl rfl rfl rfl rfl ?_
  obtain ⟨v101, e102, h⟩ := xbnd h
  refine xs_gr (i := 15) (c := 3) (k := 3) (by decide +kernel) (by decide) (by decide +kernel) e102 rfl ?_
  refine xe_ldn (ins := .iload_n 1) (len := 1) (by decide +kernel) rfl rfl rfl rfl ?_
  obtain ⟨v103, e104, h⟩ := xbnd h
  refine xs_iald rfl (by decide +kernel) ha1 e104 rfl ?_
  refine xe_ifne (off := 10) (t := 16) (by decide +kernel) (by decide) rfl (xq_ai_in e104) (fun c105 => ?_) (fun c105 => ?_)
  · rw [if_pos c105] at h
    refine xW_lv rfl (l := []) (xsb_of trivial (show [0, 1, 2].Nodup by decide)) ?_
    exact k23_16    h
  · rw [if_neg c105] at h
    refine xe_alr (ins := .aload_n 0) (len := 1) (i := 0) (by decide +kernel) rfl rfl rfl rfl rfl ?_
    obtain ⟨v106, e107, h⟩ := xbnd h
    refine xs_gr (i := 15) (c := 3) (k := 3) (by decide +kernel) (by decide) (by decide +kernel) e107 rfl ?_
    refine xe_ldn (ins := .iload_n 1) (len := 1) (by decide +kernel) rfl rfl rfl rfl ?_
    refine xe_ldn (ins := .iload_n 2) (len := 1) (by decide +kernel) rfl rfl rfl rfl ?_
    obtain ⟨M108, e109, h⟩ := xbnd h
    refine xs_iast (by decide +kernel) ha1 e109 rfl ?_
    refine xW_lv rfl (l := []) (xsb_of trivial (show [0, 1, 2].Nodup by decide)) ?_
    exact k23_16    h
-- ChangeHouse$Program.membersOf
def xr_26 : xj_mR := (3, yX3_membersOf, cX3_membersOf, 4, (Option.some Jvm.ClassFile.FieldType.int), 1, false, (5, 227), (1, 9))
set_option maxRecDepth 20000 in
theorem xr_26_e : xj_row 26 = some xr_26 := rfl
def f26_30  (r4 : Nat → Int → Int → Int → xj_M → Option (Int × xj_M)) (f : Nat) (x0 : Nat) (x1 : Int) (x3 : Int) (y0 : Int) (y1 : Int) (M : xj_M) : Option (Int × xj_M) := r4 (x0) (x1) (xor_ (y1) (y0)) (xwr ((x3) + (1))) M
theorem k26_30 {d f : Nat}  {r4 : Nat → Int → Int → Int → xj_M → Option (Int × xj_M)}  (hr4 : ∀ {x0 : Nat} {x1 : Int} {x2 : Int} {x3 : Int} {M : xj_M} {R : Int × xj_M}, xin x1 → xin x2 → xin x3 → r4 x0 x1 x2 x3 M = some R → xW (d + 0) (none, d + 0, none) xr_26 (4, [(0, xR_ x0), (1, xI x1), (2, xI x2), (3, xI x3)], [], M) (xQi R)) {x0 : Nat} {x1 : Int} {x3 : Int} {y0 : Int} {y1 : Int} {M : xj_M} {R : Int × xj_M} (hx1 : xin x1) (hx3 : xin x3) (hy0 : xin y0) (hy1 : xin y1) (h : f26_30  r4 f x0 x1 x3 y0 y1 M = some R) : xW (d + 0) (none, d + 0, none) xr_26 (30, [(0, xR_ x0), (1, xI x1), (3, xI x3)], [xI y0, xI y1], M) (xQi R) := by
  unfold f26_30 at h
  refine xe_ior (by decide +kernel) rfl ?_
  refine xe_isr (ins := .istore_n 2) (len := 1) (i := 2) (by decide +kernel) rfl rfl rfl (by decide) (xk_k (show ¬ (0 : Nat) = 2 by decide) (Or.inl (show ¬ (0 + 1 : Nat) = 2 by decide)) (xk_k (show ¬ (1 : Nat) = 2 by decide) (Or.inr (xI_cat _)) (xk_k (show ¬ (3 : Nat) = 2 by decide) (Or.inl (show ¬ (3 + 1 : Nat) = 2 by decide)) xk_n))) rfl ?_
  refine xe_iincr (i := 3) (n := 1) (by decide +kernel) (by decide) rfl (xk_k (show ¬ (2 : Nat) = 3 by decide) (Or.inr (xI_cat _)) (xk_k (show ¬ (0 : Nat) = 3 by decide) (Or.inl (show ¬ (0 + 1 : Nat) = 3 by decide)) (xk_k (show ¬ (1 : Nat) = 3 by decide) (Or.inl (show ¬ (1 + 1 : Nat) = 3 by decide)) (xk_d rfl xk_n)))) rfl ?_
  refine xe_goto (off := -31) (nx := 4) (by decide +kernel) (by decide) ?_
  refine xW_lv rfl (l := [(0, xR_ (x0)), (1, xI (x1)), (2, xI (xor_ (y1) (y0))), (3, xI (xwr ((x3) + (1))))]) (xsb_of ⟨rfl, rfl, rfl, rfl, trivial⟩ (show [3, 2, 0, 1].Nodup by decide)) ?_
  exact hr4 hx1 (xin_of _) (xin_wr _) h
def f26_4b  (r4 : Nat → Int → Int → Int → xj_M → Option (Int × xj_M)) (f : Nat) (x0 : Nat) (x1 : Int) (x2 : Int) (x3 : Int) (M : xj_M) : Option (Int × xj_M) := ((xq_gi 3 1 (x0) M).bind fun v101 => (if (v101) ≤ (x3) then (some (x2, M)) else ((xq_gr 3 10 (x0) M).bind fun v104 => ((xq_ai 3 (v104) (x3) M).bind fun v106 => (if ¬ (v106) = (x1) then f26_30  r4 f (x0) (x1) (x3) (0) (x2) M else f26_30  r4 f (x0) (x1) (x3) (xshl (1) (x3)) (x2) M)))))
theorem k26_4b {d f : Nat}  {r4 : Nat → Int → Int → Int → xj_M → Option (Int × xj_M)}  (hr4 : ∀ {x0 : Nat} {x1 : Int} {x2 : Int} {x3 : Int} {M : xj_M} {R : Int × xj_M}, xin x1 → xin x2 → xin x3 → r4 x0 x1 x2 x3 M = some R → xW (d + 0) (none, d + 0, none) xr_26 (4, [(0, xR_ x0), (1, xI x1), (2, xI x2), (3, xI x3)], [], M) (xQi R)) {x0 : Nat} {x1 : Int} {x2 : Int} {x3 : Int} {M : xj_M} {R : Int × xj_M} (hx1 : xin x1) (hx2 : xin x2) (hx3 : xin x3) (h : f26_4b  r4 f x0 x1 x2 x3 M = some R) : xW (d + 0) (none, d + 0, none) xr_26 (4, [(0, xR_ x0), (1, xI x1), (2, xI x2), (3, xI x3)], [], M) (xQi R) := by
  unfold f26_4b at h
  refine xe_ldn (ins := .iload_n 3) (len := 1) (by decide +kernel) rfl rfl rfl rfl ?_
  refine xe_alr (ins := .aload_n 0) (len := 1) (i := 0) (by decide +kernel) rfl rfl rfl rfl rfl ?_
  obtain ⟨v101, e102, h⟩ := xbnd h
  refine xs_gi (i := 51) (c := 3) (k := 1) (by decide +kernel) (by decide) (by decide +kernel) e102 rfl ?_
  refine xe_icmpge (off := 29) (t := 38) (by decide +kernel) (by decide) rfl hx3 (xq_gi_in e102) (fun c103 => ?_) (fun c103 => ?_)
  · rw [if_pos c103] at h
    refine xe_ldn (ins := .iload_n 2) (len := 1) (by decide +kernel) rfl rfl rfl rfl ?_
    cases h
    exact xe_ret_i (ty := .int) (by decide +kernel) rfl rfl ⟨rfl, rfl, hx2⟩
  · rw [if_neg c103] at h
    refine xe_ldn (ins := .iload_n 2) (len := 1) (by decide +kernel) rfl rfl rfl rfl ?_
    refine xe_alr (ins := .aload_n 0) (len := 1) (i := 0) (by decide +kernel) rfl rfl rfl rfl rfl ?_
    obtain ⟨v104, e105, h⟩ := xbnd h
    refine xs_gr (i := 38) (c := 3) (k := 10) (by decide +kernel) (by decide) (by decide +kernel) e105 rfl ?_
    refine xe_ldn (ins := .iload_n 3) (len := 1) (by decide +kernel) rfl rfl rfl rfl ?_
    obtain ⟨v106, e107, h⟩ := xbnd h
    refine xs_iald rfl (by decide +kernel) hx3 e107 rfl ?_
    refine xe_ldn (ins := .iload_n 1) (len := 1) (by decide +kernel) rfl rfl rfl rfl ?_
    refine xe_icmpne (off := 9) (t := 29) (by decide +kernel) (by decide) rfl (xq_ai_in e107) hx1 (fun c108 => ?_) (fun c108 => ?_)
    · rw [if_pos c108] at h
      refine xe_iconst (n := 0) (by decide +kernel) rfl ?_
      refine xW_lv rfl (l := [(0, xR_ (x0)), (1, xI (x1)), (3, xI (x3))]) (xsb_of ⟨rfl, rfl, rfl, trivial⟩ (show [0, 1, 2, 3].Nodup by decide)) ?_
      exact k26_30  hr4 hx1 hx3 (show xin (0) by decide) hx2 h
    · rw [if_neg c108] at h
      refine xe_iconst (n := 1) (by decide +kernel) rfl ?_
      refine xe_ldn (ins := .iload_n 3) (len := 1) (by decide +kernel) rfl rfl rfl rfl ?_
      refine xe_ishl (by decide +kernel) rfl ?_
      refine xe_goto (off := 4) (nx := 30) (by decide +kernel) (by decide) ?_
      refine xW_lv rfl (l := [(0, xR_ (x0)), (1, xI (x1)), (3, xI (x3))]) (xsb_of ⟨rfl, rfl, rfl, trivial⟩ (show [0, 1, 2, 3].Nodup by decide)) ?_
      exact k26_30  hr4 hx1 hx3 (xin_of _) hx2 h
def f26_4   (f : Nat) : Nat → Nat → Int → Int → Int → xj_M → Option (Int × xj_M)
  | 0, _, _, _, _, _ => none
  | n + 1, x0, x1, x2, x3, M => f26_4b   (f26_4   f n) f x0 x1 x2 x3 M
theorem k26_4 {d f : Nat}     : ∀ {n : Nat} {x0 : Nat} {x1 : Int} {x2 : Int} {x3 : Int} {M : xj_M} {R : Int × xj_M}, xin x1 → xin x2 → xin x3 → f26_4   f n x0 x1 x2 x3 M = some R → xW (d + 0) (none, d + 0, none) xr_26 (4, [(0, xR_ x0), (1, xI x1), (2, xI x2), (3, xI x3)], [], M) (xQi R) := by
  intro n
  induction n with
  | zero => intros; rename_i h; cases h
  | succ n ih => intros; rename_i h; exact k26_4b   ih (by assumption) (by assumption) (by assumption) h
def f26  (f : Nat) (a0 : Nat) (a1 : Int) (M : xj_M) : Option (Int × xj_M) := f26_4   f f (a0) (a1) (0) (0) M
theorem k26 {d f : Nat}   {a0 : Nat} {a1 : Int} {M : xj_M} {R : Int × xj_M} (ha1 : xin a1) (h : f26  f a0 a1 M = some R) : xT (d + 1) 26 [xR_ a0, xI a1] M (xQi R) := by
  refine xT_m xr_26_e (X := (none, d + 0, none)) rfl (xa_1 (xR_cat _) (xa_1 (xI_cat _) xa_n)) (by decide) ?_
  unfold f26 at h
  refine xe_iconst (n := 0) (by decide +kernel) rfl ?_
  refine xe_isr (ins := .istore_n 2) (len := 1) (i := 2) (by decide +kernel) rfl rfl rfl (by decide) (xk_k (show ¬ (0 : Nat) = 2 by decide) (Or.inl (show ¬ (0 + 1 : Nat) = 2 by decide)) (xk_k (show ¬ (1 : Nat) = 2 by decide) (Or.inr (xI_cat _)) xk_n)) rfl ?_
  refine xe_iconst (n := 0) (by decide +kernel) rfl ?_
  refine xe_isr (ins := .istore_n 3) (len := 1) (i := 3) (by decide +kernel) rfl rfl rfl (by decide) (xk_k (show ¬ (2 : Nat) = 3 by decide) (Or.inr (xI_cat _)) (xk_k (show ¬ (0 : Nat) = 3 by decide) (Or.inl (show ¬ (0 + 1 : Nat) = 3 by decide)) (xk_k (show ¬ (1 : Nat) = 3 by decide) (Or.inl (show ¬ (1 + 1 : Nat) = 3 by decide)) xk_n))) rfl ?_
  refine xW_lv rfl (l := [(0, xR_ (a0)), (1, xI (a1)), (2, xI (0)), (3, xI (0))]) (xsb_of ⟨rfl, rfl, rfl, rfl, trivial⟩ (show [3, 2, 0, 1].Nodup by decide)) ?_
  exact k26_4   ha1 (show xin (0) by decide) (show xin (0) by decide) h
-- ChangeHouse$Program.readsOf
def xr_27 : xj_mR := (3, yX3_readsOf, cX3_readsOf, 4, (Option.some Jvm.ClassFile.FieldType.int), 1, false, (5, 223), (1, 9))
set_option maxRecDepth 20000 in
theorem xr_27_e : xj_row 27 = some xr_27 := rfl
def f27_33  (r4 : Nat → Int → Int → Int → xj_M → Option (Int × xj_M)) (f : Nat) (x0 : Nat) (x1 : Int) (x3 : Int) (y0 : Int) (y1 : Int) (M : xj_M) : Option (Int × xj_M) := r4 (x0) (x1) (xor_ (y1) (y0)) (xwr ((x3) + (1))) M
theorem k27_33 {d f : Nat}  {r4 : Nat → Int → Int → Int → xj_M → Option (Int × xj_M)}  (hr4 : ∀ {x0 : Nat} {x1 : Int} {x2 : Int} {x3 : Int} {M : xj_M} {R : Int × xj_M}, xin x1 → xin x2 → xin x3 → r4 x0 x1 x2 x3 M = some R → xW (d + 1) (none, d + 1, none) xr_27 (4, [(0, xR_ x0), (1, xI x1), (2, xI x2), (3, xI x3)], [], M) (xQi R)) {x0 : Nat} {x1 : Int} {x3 : Int} {y0 : Int} {y1 : Int} {M : xj_M} {R : Int × xj_M} (hx1 : xin x1) (hx3 : xin x3) (hy0 : xin y0) (hy1 : xin y1) (h : f27_33  r4 f x0 x1 x3 y0 y1 M = some R) : xW (d + 1) (none, d + 1, none) xr_27 (33, [(0, xR_ x0), (1, xI x1), (3, xI x3)], [xI y0, xI y1], M) (xQi R) := by
  unfold f27_33 at h
  refine xe_ior (by decide +kernel) rfl ?_
  refine xe_isr (ins := .istore_n 2) (len := 1) (i := 2) (by decide +kernel) rfl rfl rfl (by decide) (xk_k (show ¬ (0 : Nat) = 2 by decide) (Or.inl (show ¬ (0 + 1 : Nat) = 2 by decide)) (xk_k (show ¬ (1 : Nat) = 2 by decide) (Or.inr (xI_cat _)) (xk_k (show ¬ (3 : Nat) = 2 by decide) (Or.inl (show ¬ (3 + 1 : Nat) = 2 by decide)) xk_n))) rfl ?_
  refine xe_iincr (i := 3) (n := 1) (by decide +kernel) (by decide) rfl (xk_k (show ¬ (2 : Nat) = 3 by decide) (Or.inr (xI_cat _)) (xk_k (show ¬ (0 : Nat) = 3 by decide) (Or.inl (show ¬ (0 + 1 : Nat) = 3 by decide)) (xk_k (show ¬ (1 : Nat) = 3 by decide) (Or.inl (show ¬ (1 + 1 : Nat) = 3 by decide)) (xk_d rfl xk_n)))) rfl ?_
  refine xe_goto (off := -34) (nx := 4) (by decide +kernel) (by decide) ?_
  refine xW_lv rfl (l := [(0, xR_ (x0)), (1, xI (x1)), (2, xI (xor_ (y1) (y0))), (3, xI (xwr ((x3) + (1))))]) (xsb_of ⟨rfl, rfl, rfl, rfl, trivial⟩ (show [3, 2, 0, 1].Nodup by decide)) ?_
  exact hr4 hx1 (xin_of _) (xin_wr _) h
def f27_4b  (r4 : Nat → Int → Int → Int → xj_M → Option (Int × xj_M)) (f : Nat) (x0 : Nat) (x1 : Int) (x2 : Int) (x3 : Int) (M : xj_M) : Option (Int × xj_M) := ((xq_gi 3 1 (x0) M).bind fun v101 => (if (v101) ≤ (x3) then ((xq_is 3 (x0) M).bind fun _ => ((f26  f (x0) (x1) M).bind fun R106 => (some (xand (x2) (xxor (R106.1) (-1)), R106.2)))) else ((xq_gr 3 10 (x0) M).bind fun v108 => ((xq_ai 3 (v108) (x3) M).bind fun v110 => (if ¬ (v110) = (x1) then f27_33  r4 f (x0) (x1) (x3) (0) (x2) M else ((xq_gr 3 13 (x0) M).bind fun v113 => ((xq_ai 3 (v113) (x3) M).bind fun v115 => f27_33  r4 f (x0) (x1) (x3) (v115) (x2) M)))))))
theorem k27_4b {d f : Nat}  {r4 : Nat → Int → Int → Int → xj_M → Option (Int × xj_M)}  (hr4 : ∀ {x0 : Nat} {x1 : Int} {x2 : Int} {x3 : Int} {M : xj_M} {R : Int × xj_M}, xin x1 → xin x2 → xin x3 → r4 x0 x1 x2 x3 M = some R → xW (d + 1) (none, d + 1, none) xr_27 (4, [(0, xR_ x0), (1, xI x1), (2, xI x2), (3, xI x3)], [], M) (xQi R)) {x0 : Nat} {x1 : Int} {x2 : Int} {x3 : Int} {M : xj_M} {R : Int × xj_M} (hx1 : xin x1) (hx2 : xin x2) (hx3 : xin x3) (h : f27_4b  r4 f x0 x1 x2 x3 M = some R) : xW (d + 1) (none, d + 1, none) xr_27 (4, [(0, xR_ x0), (1, xI x1), (2, xI x2), (3, xI x3)], [], M) (xQi R) := by
  unfold f27_4b at h
  refine xe_ldn (ins := .iload_n 3) (len := 1) (by decide +kernel) rfl rfl rfl rfl ?_
  refine xe_alr (ins := .aload_n 0) (len := 1) (i := 0) (by decide +kernel) rfl rfl rfl rfl rfl ?_
  obtain ⟨v101, e102, h⟩ := xbnd h
  refine xs_gi (i := 51) (c := 3) (k := 1) (by decide +kernel) (by decide) (by decide +kernel) e102 rfl ?_
  refine xe_icmpge (off := 32) (t := 41) (by decide +kernel) (by decide) rfl hx3 (xq_gi_in e102) (fun c103 => ?_) (fun c103 => ?_)
  · rw [if_pos c103] at h
    refine xe_ldn (ins := .iload_n 2) (len := 1) (by decide +kernel) rfl rfl rfl rfl ?_
    refine xe_alr (ins := .aload_n 0) (len := 1) (i := 0) (by decide +kernel) rfl rfl rfl rfl rfl ?_
    refine xe_ldn (ins := .iload_n 1) (len := 1) (by decide +kernel) rfl rfl rfl rfl ?_
    obtain ⟨_, e105, h⟩ := xbnd h
    obtain ⟨R106, e104, h⟩ := xbnd h
    refine xs_cv (i := 92) (j := 26) (ar := [xI (x1)]) (rest := [xI (x2)]) (r2 := xr_26) (by decide +kernel) (by decide +kernel) (by decide +kernel) xr_26_e rfl (by decide) (by simp only [List.map_cons, List.map_nil, List.sum_cons, List.sum_nil, xR_cat, xI_cat, xZ_cat]; decide) e105 ?_
    refine xc_i (k26 (d := d + 0)  hx1 e104) rfl (fun hi107 => ?_)
    refine xe_iconst (n := -1) (by decide +kernel) rfl ?_
    refine xe_ixor (by decide +kernel) rfl ?_
    refine xe_iand (by decide +kernel) rfl ?_
    cases h
    exact xe_ret_i (ty := .int) (by decide +kernel) rfl rfl ⟨rfl, rfl, (xin_of _)⟩
  · rw [if_neg c103] at h
    refine xe_ldn (ins := .iload_n 2) (len := 1) (by decide +kernel) rfl rfl rfl rfl ?_
    refine xe_alr (ins := .aload_n 0) (len := 1) (i := 0) (by decide +kernel) rfl rfl rfl rfl rfl ?_
    obtain ⟨v108, e109, h⟩ := xbnd h
    refine xs_gr (i := 38) (c := 3) (k := 10) (by decide +kernel) (by decide) (by decide +kernel) e109 rfl ?_
    refine xe_ldn (ins := .iload_n 3) (len := 1) (by decide +kernel) rfl rfl rfl rfl ?_
    obtain ⟨v110, e111, h⟩ := xbnd h
    refine xs_iald rfl (by decide +kernel) hx3 e111 rfl ?_
    refine xe_ldn (ins := .iload_n 1) (len := 1) (by decide +kernel) rfl rfl rfl rfl ?_
    refine xe_icmpne (off := 12) (t := 32) (by decide +kernel) (by decide) rfl (xq_ai_in e111) hx1 (fun c112 => ?_) (fun c112 => ?_)
    · rw [if_pos c112] at h
      refine xe_iconst (n := 0) (by decide +kernel) rfl ?_
      refine xW_lv rfl (l := [(0, xR_ (x0)), (1, xI (x1)), (3, xI (x3))]) (xsb_of ⟨rfl, rfl, rfl, trivial⟩ (show [0, 1, 2, 3].Nodup by decide)) ?_
      exact k27_33  hr4 hx1 hx3 (show xin (0) by decide) hx2 h
    · rw [if_neg c112] at h
      refine xe_alr (ins := .aload_n 0) (len := 1) (i := 0) (by decide +kernel) rfl rfl rfl rfl rfl ?_
      obtain ⟨v113, e114, h⟩ := xbnd h
      refine xs_gr (i := 44) (c := 3) (k := 13) (by decide +kernel) (by decide) (by decide +kernel) e114 rfl ?_
      refine xe_ldn (ins := .iload_n 3) (len := 1) (by decide +kernel) rfl rfl rfl rfl ?_
      obtain ⟨v115, e116, h⟩ := xbnd h
      refine xs_iald rfl (by decide +kernel) hx3 e116 rfl ?_
      refine xe_goto (off := 4) (nx := 33) (by decide +kernel) (by decide) ?_
      refine xW_lv rfl (l := [(0, xR_ (x0)), (1, xI (x1)), (3, xI (x3))]) (xsb_of ⟨rfl, rfl, rfl, trivial⟩ (show [0, 1, 2, 3].Nodup by decide)) ?_
      exact k27_33  hr4 hx1 hx3 (xq_ai_in e116) hx2 h
def f27_4   (f : Nat) : Nat → Nat → Int → Int → Int → xj_M → Option (Int × xj_M)
  | 0, _, _, _, _, _ => none
  | n + 1, x0, x1, x2, x3, M => f27_4b   (f27_4   f n) f x0 x1 x2 x3 M
theorem k27_4 {d f : Nat}     : ∀ {n : Nat} {x0 : Nat} {x1 : Int} {x2 : Int} {x3 : Int} {M : xj_M} {R : Int × xj_M}, xin x1 → xin x2 → xin x3 → f27_4   f n x0 x1 x2 x3 M = some R → xW (d + 1) (none, d + 1, none) xr_27 (4, [(0, xR_ x0), (1, xI x1), (2, xI x2), (3, xI x3)], [], M) (xQi R) := by
  intro n
  induction n with
  | zero => intros; rename_i h; cases h
  | succ n ih => intros; rename_i h; exact k27_4b   ih (by assumption) (by assumption) (by assumption) h
def f27  (f : Nat) (a0 : Nat) (a1 : Int) (M : xj_M) : Option (Int × xj_M) := f27_4   f f (a0) (a1) (0) (0) M
theorem k27 {d f : Nat}   {a0 : Nat} {a1 : Int} {M : xj_M} {R : Int × xj_M} (ha1 : xin a1) (h : f27  f a0 a1 M = some R) : xT (d + 2) 27 [xR_ a0, xI a1] M (xQi R) := by
  refine xT_m xr_27_e (X := (none, d + 1, none)) rfl (xa_1 (xR_cat _) (xa_1 (xI_cat _) xa_n)) (by decide) ?_
  unfold f27 at h
  refine xe_iconst (n := 0) (by decide +kernel) rfl ?_
  refine xe_isr (ins := .istore_n 2) (len := 1) (i := 2) (by decide +kernel) rfl rfl rfl (by decide) (xk_k (show ¬ (0 : Nat) = 2 by decide) (Or.inl (show ¬ (0 + 1 : Nat) = 2 by decide)) (xk_k (show ¬ (1 : Nat) = 2 by decide) (Or.inr (xI_cat _)) xk_n)) rfl ?_
  refine xe_iconst (n := 0) (by decide +kernel) rfl ?_
  refine xe_isr (ins := .istore_n 3) (len := 1) (i := 3) (by decide +kernel) rfl rfl rfl (by decide) (xk_k (show ¬ (2 : Nat) = 3 by decide) (Or.inr (xI_cat _)) (xk_k (show ¬ (0 : Nat) = 3 by decide) (Or.inl (show ¬ (0 + 1 : Nat) = 3 by decide)) (xk_k (show ¬ (1 : Nat) = 3 by decide) (Or.inl (show ¬ (1 + 1 : Nat) = 3 by decide)) xk_n))) rfl ?_
  refine xW_lv rfl (l := [(0, xR_ (a0)), (1, xI (a1)), (2, xI (0)), (3, xI (0))]) (xsb_of ⟨rfl, rfl, rfl, rfl, trivial⟩ (show [3, 2, 0, 1].Nodup by decide)) ?_
  exact k27_4   ha1 (show xin (0) by decide) (show xin (0) by decide) h
-- ChangeHouse$Program.ringFault
def xr_28 : xj_mR := (3, yX3_ringFault, cX3_ringFault, 5, (Option.some Jvm.ClassFile.FieldType.int), 0, false, (5, 231), (1, 9))
set_option maxRecDepth 20000 in
theorem xr_28_e : xj_row 28 = some xr_28 := rfl
def f28_97  (r2 : Nat → Int → xj_M → Option (Int × xj_M)) (r19 : Nat → Int → Nat → Int → xj_M → Option (Int × xj_M)) (f : Nat) (x0 : Nat) (x1 : Int) (x2 : Nat) (x3 : Int) (M : xj_M) : Option (Int × xj_M) := r19 (x0) (x1) (x2) (xwr ((x3) + (1))) M
theorem k28_97 {d f : Nat}  {r2 : Nat → Int → xj_M → Option (Int × xj_M)} {r19 : Nat → Int → Nat → Int → xj_M → Option (Int × xj_M)}  (hr2 : ∀ {x0 : Nat} {x1 : Int} {M : xj_M} {R : Int × xj_M}, xin x1 → r2 x0 x1 M = some R → xW (d + 0) (none, d + 0, none) xr_28 (2, [(0, xR_ x0), (1, xI x1)], [], M) (xQi R)) (hr19 : ∀ {x0 : Nat} {x1 : Int} {x2 : Nat} {x3 : Int} {M : xj_M} {R : Int × xj_M}, xin x1 → xin x3 → r19 x0 x1 x2 x3 M = some R → xW (d + 0) (none, d + 0, none) xr_28 (19, [(0, xR_ x0), (1, xI x1), (2, xR_ x2), (3, xI x3)], [], M) (xQi R)) {x0 : Nat} {x1 : Int} {x2 : Nat} {x3 : Int} {M : xj_M} {R : Int × xj_M} (hx1 : xin x1) (hx3 : xin x3) (h : f28_97  r2 r19 f x0 x1 x2 x3 M = some R) : xW (d + 0) (none, d + 0, none) xr_28 (97, [(0, xR_ x0), (1, xI x1), (2, xR_ x2), (3, xI x3)], [], M) (xQi R) := by
  unfold f28_97 at h
  refine xe_iincr (i := 3) (n := 1) (by decide +kernel) (by decide) rfl (xk_k (show ¬ (0 : Nat) = 3 by decide) (Or.inl (show ¬ (0 + 1 : Nat) = 3 by decide)) (xk_k (show ¬ (1 : Nat) = 3 by decide) (Or.inl (show ¬ (1 + 1 : Nat) = 3 by decide)) (xk_k (show ¬ (2 : Nat) = 3 by decide) (Or.inr (xR_cat _)) (xk_d rfl xk_n)))) rfl ?_
  refine xe_goto (off := -81) (nx := 19) (by decide +kernel) (by decide) ?_
  refine xW_lv rfl (l := [(0, xR_ (x0)), (1, xI (x1)), (2, xR_ (x2)), (3, xI (xwr ((x3) + (1))))]) (xsb_of ⟨rfl, rfl, rfl, rfl, trivial⟩ (show [3, 0, 1, 2].Nodup by decide)) ?_
  exact hr19 hx1 (xin_wr _) h
def f28_62  (r2 : Nat → Int → xj_M → Option (Int × xj_M)) (r19 : Nat → Int → Nat → Int → xj_M → Option (Int × xj_M)) (f : Nat) (x0 : Nat) (x1 : Int) (x2 : Nat) (x3 : Int) (y0 : Int) (M : xj_M) : Option (Int × xj_M) := (if (y0) = 0 then f28_97  r2 r19 f (x0) (x1) (x2) (x3) M else ((xq_gr 3 10 (x0) M).bind fun v102 => ((xq_gr 6 10 (x2) M).bind fun v104 => ((xq_ai 3 (v104) (x3) M).bind fun v106 => ((xq_ai 3 (v102) (v106) M).bind fun v108 => ((xq_gr 3 10 (x0) M).bind fun v110 => ((xq_gi 6 0 (x2) M).bind fun v112 => ((xq_ai 3 (v110) (v112) M).bind fun v114 => (if ¬ (v108) = (v114) then f28_97  r2 r19 f (x0) (x1) (x2) (x3) M else ((xq_gi 6 1 (x2) M).bind fun v117 => (some (v117, M))))))))))))
theorem k28_62 {d f : Nat}  {r2 : Nat → Int → xj_M → Option (Int × xj_M)} {r19 : Nat → Int → Nat → Int → xj_M → Option (Int × xj_M)}  (hr2 : ∀ {x0 : Nat} {x1 : Int} {M : xj_M} {R : Int × xj_M}, xin x1 → r2 x0 x1 M = some R → xW (d + 0) (none, d + 0, none) xr_28 (2, [(0, xR_ x0), (1, xI x1)], [], M) (xQi R)) (hr19 : ∀ {x0 : Nat} {x1 : Int} {x2 : Nat} {x3 : Int} {M : xj_M} {R : Int × xj_M}, xin x1 → xin x3 → r19 x0 x1 x2 x3 M = some R → xW (d + 0) (none, d + 0, none) xr_28 (19, [(0, xR_ x0), (1, xI x1), (2, xR_ x2), (3, xI x3)], [], M) (xQi R)) {x0 : Nat} {x1 : Int} {x2 : Nat} {x3 : Int} {y0 : Int} {M : xj_M} {R : Int × xj_M} (hx1 : xin x1) (hx3 : xin x3) (hy0 : xin y0) (h : f28_62  r2 r19 f x0 x1 x2 x3 y0 M = some R) : xW (d + 0) (none, d + 0, none) xr_28 (62, [(0, xR_ x0), (1, xI x1), (2, xR_ x2), (3, xI x3)], [xI y0], M) (xQi R) := by
  unfold f28_62 at h
  refine xe_isr (ins := .istore 4) (len := 2) (i := 4) (by decide +kernel) rfl rfl rfl (by decide) (xk_k (show ¬ (0 : Nat) = 4 by decide) (Or.inl (show ¬ (0 + 1 : Nat) = 4 by decide)) (xk_k (show ¬ (1 : Nat) = 4 by decide) (Or.inl (show ¬ (1 + 1 : Nat) = 4 by decide)) (xk_k (show ¬ (2 : Nat) = 4 by decide) (Or.inl (show ¬ (2 + 1 : Nat) = 4 by decide)) (xk_k (show ¬ (3 : Nat) = 4 by decide) (Or.inr (xI_cat _)) xk_n)))) rfl ?_
  refine xe_ldn (ins := .iload 4) (len := 2) (by decide +kernel) rfl rfl rfl rfl ?_
  refine xe_ifeq (off := 31) (t := 97) (by decide +kernel) (by decide) rfl hy0 (fun c101 => ?_) (fun c101 => ?_)
  · rw [if_pos c101] at h
    refine xW_lv rfl (l := [(0, xR_ (x0)), (1, xI (x1)), (2, xR_ (x2)), (3, xI (x3))]) (xsb_of ⟨rfl, rfl, rfl, rfl, trivial⟩ (show [4, 0, 1, 2, 3].Nodup by decide)) ?_
    exact k28_97  hr2 hr19 hx1 hx3 h
  · rw [if_neg c101] at h
    refine xe_alr (ins := .aload_n 0) (len := 1) (i := 0) (by decide +kernel) rfl rfl rfl rfl rfl ?_
    obtain ⟨v102, e103, h⟩ := xbnd h
    refine xs_gr (i := 38) (c := 3) (k := 10) (by decide +kernel) (by decide) (by decide +kernel) e103 rfl ?_
    refine xe_alr (ins := .aload_n 2) (len := 1) (i := 2) (by decide +kernel) rfl rfl rfl rfl rfl ?_
    obtain ⟨v104, e105, h⟩ := xbnd h
    refine xs_gr (i := 75) (c := 6) (k := 10) (by decide +kernel) (by decide) (by decide +kernel) e105 rfl ?_
    refine xe_ldn (ins := .iload_n 3) (len := 1) (by decide +kernel) rfl rfl rfl rfl ?_
    obtain ⟨v106, e107, h⟩ := xbnd h
    refine xs_iald rfl (by decide +kernel) hx3 e107 rfl ?_
    obtain ⟨v108, e109, h⟩ := xbnd h
    refine xs_iald rfl (by decide +kernel) (xq_ai_in e107) e109 rfl ?_
    refine xe_alr (ins := .aload_n 0) (len := 1) (i := 0) (by decide +kernel) rfl rfl rfl rfl rfl ?_
    obtain ⟨v110, e111, h⟩ := xbnd h
    refine xs_gr (i := 38) (c := 3) (k := 10) (by decide +kernel) (by decide) (by decide +kernel) e111 rfl ?_
    refine xe_alr (ins := .aload_n 2) (len := 1) (i := 2) (by decide +kernel) rfl rfl rfl rfl rfl ?_
    obtain ⟨v112, e113, h⟩ := xbnd h
    refine xs_gi (i := 72) (c := 6) (k := 0) (by decide +kernel) (by decide) (by decide +kernel) e113 rfl ?_
    obtain ⟨v114, e115, h⟩ := xbnd h
    refine xs_iald rfl (by decide +kernel) (xq_gi_in e113) e115 rfl ?_
    refine xe_icmpne (off := 8) (t := 97) (by decide +kernel) (by decide) rfl (xq_ai_in e109) (xq_ai_in e115) (fun c116 => ?_) (fun c116 => ?_)
    · rw [if_pos c116] at h
      refine xW_lv rfl (l := [(0, xR_ (x0)), (1, xI (x1)), (2, xR_ (x2)), (3, xI (x3))]) (xsb_of ⟨rfl, rfl, rfl, rfl, trivial⟩ (show [4, 0, 1, 2, 3].Nodup by decide)) ?_
      exact k28_97  hr2 hr19 hx1 hx3 h
    · rw [if_neg c116] at h
      refine xe_alr (ins := .aload_n 2) (len := 1) (i := 2) (by decide +kernel) rfl rfl rfl rfl rfl ?_
      obtain ⟨v117, e118, h⟩ := xbnd h
      refine xs_gi (i := 101) (c := 6) (k := 1) (by decide +kernel) (by decide) (by decide +kernel) e118 rfl ?_
      cases h
      exact xe_ret_i (ty := .int) (by decide +kernel) rfl rfl ⟨rfl, rfl, (xq_gi_in e118)⟩
def f28_57  (r2 : Nat → Int → xj_M → Option (Int × xj_M)) (r19 : Nat → Int → Nat → Int → xj_M → Option (Int × xj_M)) (f : Nat) (x0 : Nat) (x1 : Int) (x2 : Nat) (x3 : Int) (M : xj_M) : Option (Int × xj_M) := f28_62  r2 r19 f (x0) (x1) (x2) (x3) (1) M
theorem k28_57 {d f : Nat}  {r2 : Nat → Int → xj_M → Option (Int × xj_M)} {r19 : Nat → Int → Nat → Int → xj_M → Option (Int × xj_M)}  (hr2 : ∀ {x0 : Nat} {x1 : Int} {M : xj_M} {R : Int × xj_M}, xin x1 → r2 x0 x1 M = some R → xW (d + 0) (none, d + 0, none) xr_28 (2, [(0, xR_ x0), (1, xI x1)], [], M) (xQi R)) (hr19 : ∀ {x0 : Nat} {x1 : Int} {x2 : Nat} {x3 : Int} {M : xj_M} {R : Int × xj_M}, xin x1 → xin x3 → r19 x0 x1 x2 x3 M = some R → xW (d + 0) (none, d + 0, none) xr_28 (19, [(0, xR_ x0), (1, xI x1), (2, xR_ x2), (3, xI x3)], [], M) (xQi R)) {x0 : Nat} {x1 : Int} {x2 : Nat} {x3 : Int} {M : xj_M} {R : Int × xj_M} (hx1 : xin x1) (hx3 : xin x3) (h : f28_57  r2 r19 f x0 x1 x2 x3 M = some R) : xW (d + 0) (none, d + 0, none) xr_28 (57, [(0, xR_ x0), (1, xI x1), (2, xR_ x2), (3, xI x3)], [], M) (xQi R) := by
  unfold f28_57 at h
  refine xe_iconst (n := 1) (by decide +kernel) rfl ?_
  refine xe_goto (off := 4) (nx := 62) (by decide +kernel) (by decide) ?_
  refine xW_lv rfl (l := [(0, xR_ (x0)), (1, xI (x1)), (2, xR_ (x2)), (3, xI (x3))]) (xsb_of ⟨rfl, rfl, rfl, rfl, trivial⟩ (show [0, 1, 2, 3].Nodup by decide)) ?_
  exact k28_62  hr2 hr19 hx1 hx3 (show xin (1) by decide) h
def f28_61  (r2 : Nat → Int → xj_M → Option (Int × xj_M)) (r19 : Nat → Int → Nat → Int → xj_M → Option (Int × xj_M)) (f : Nat) (x0 : Nat) (x1 : Int) (x2 : Nat) (x3 : Int) (M : xj_M) : Option (Int × xj_M) := f28_62  r2 r19 f (x0) (x1) (x2) (x3) (0) M
theorem k28_61 {d f : Nat}  {r2 : Nat → Int → xj_M → Option (Int × xj_M)} {r19 : Nat → Int → Nat → Int → xj_M → Option (Int × xj_M)}  (hr2 : ∀ {x0 : Nat} {x1 : Int} {M : xj_M} {R : Int × xj_M}, xin x1 → r2 x0 x1 M = some R → xW (d + 0) (none, d + 0, none) xr_28 (2, [(0, xR_ x0), (1, xI x1)], [], M) (xQi R)) (hr19 : ∀ {x0 : Nat} {x1 : Int} {x2 : Nat} {x3 : Int} {M : xj_M} {R : Int × xj_M}, xin x1 → xin x3 → r19 x0 x1 x2 x3 M = some R → xW (d + 0) (none, d + 0, none) xr_28 (19, [(0, xR_ x0), (1, xI x1), (2, xR_ x2), (3, xI x3)], [], M) (xQi R)) {x0 : Nat} {x1 : Int} {x2 : Nat} {x3 : Int} {M : xj_M} {R : Int × xj_M} (hx1 : xin x1) (hx3 : xin x3) (h : f28_61  r2 r19 f x0 x1 x2 x3 M = some R) : xW (d + 0) (none, d + 0, none) xr_28 (61, [(0, xR_ x0), (1, xI x1), (2, xR_ x2), (3, xI x3)], [], M) (xQi R) := by
  unfold f28_61 at h
  refine xe_iconst (n := 0) (by decide +kernel) rfl ?_
  refine xW_lv rfl (l := [(0, xR_ (x0)), (1, xI (x1)), (2, xR_ (x2)), (3, xI (x3))]) (xsb_of ⟨rfl, rfl, rfl, rfl, trivial⟩ (show [0, 1, 2, 3].Nodup by decide)) ?_
  exact k28_62  hr2 hr19 hx1 hx3 (show xin (0) by decide) h
def f28_19b  (r2 : Nat → Int → xj_M → Option (Int × xj_M)) (r19 : Nat → Int → Nat → Int → xj_M → Option (Int × xj_M)) (f : Nat) (x0 : Nat) (x1 : Int) (x2 : Nat) (x3 : Int) (M : xj_M) : Option (Int × xj_M) := ((xq_gi 6 8 (x2) M).bind fun v119 => (if (v119) ≤ (x3) then r2 (x0) (xwr ((x1) + (1))) M else ((xq_gr 6 9 (x2) M).bind fun v122 => ((xq_ai 3 (v122) (x3) M).bind fun v124 => (if (v124) = (9) then f28_57  r2 r19 f (x0) (x1) (x2) (x3) M else ((xq_gr 6 9 (x2) M).bind fun v127 => ((xq_ai 3 (v127) (x3) M).bind fun v129 => (if ¬ (v129) = (15) then f28_61  r2 r19 f (x0) (x1) (x2) (x3) M else ((xq_gi 6 3 (x2) M).bind fun v132 => (if (v132) = (-1) then f28_61  r2 r19 f (x0) (x1) (x2) (x3) M else f28_57  r2 r19 f (x0) (x1) (x2) (x3) M))))))))))
theorem k28_19b {d f : Nat}  {r2 : Nat → Int → xj_M → Option (Int × xj_M)} {r19 : Nat → Int → Nat → Int → xj_M → Option (Int × xj_M)}  (hr2 : ∀ {x0 : Nat} {x1 : Int} {M : xj_M} {R : Int × xj_M}, xin x1 → r2 x0 x1 M = some R → xW (d + 0) (none, d + 0, none) xr_28 (2, [(0, xR_ x0), (1, xI x1)], [], M) (xQi R)) (hr19 : ∀ {x0 : Nat} {x1 : Int} {x2 : Nat} {x3 : Int} {M : xj_M} {R : Int × xj_M}, xin x1 → xin x3 → r19 x0 x1 x2 x3 M = some R → xW (d + 0) (none, d + 0, none) xr_28 (19, [(0, xR_ x0), (1, xI x1), (2, xR_ x2), (3, xI x3)], [], M) (xQi R)) {x0 : Nat} {x1 : Int} {x2 : Nat} {x3 : Int} {M : xj_M} {R : Int × xj_M} (hx1 : xin x1) (hx3 : xin x3) (h : f28_19b  r2 r19 f x0 x1 x2 x3 M = some R) : xW (d + 0) (none, d + 0, none) xr_28 (19, [(0, xR_ x0), (1, xI x1), (2, xR_ x2), (3, xI x3)], [], M) (xQi R) := by
  unfold f28_19b at h
  refine xe_ldn (ins := .iload_n 3) (len := 1) (by decide +kernel) rfl rfl rfl rfl ?_
  refine xe_alr (ins := .aload_n 2) (len := 1) (i := 2) (by decide +kernel) rfl rfl rfl rfl rfl ?_
  obtain ⟨v119, e120, h⟩ := xbnd h
  refine xs_gi (i := 65) (c := 6) (k := 8) (by decide +kernel) (by decide) (by decide +kernel) e120 rfl ?_
  refine xe_icmpge (off := 79) (t := 103) (by decide +kernel) (by decide) rfl hx3 (xq_gi_in e120) (fun c121 => ?_) (fun c121 => ?_)
  · rw [if_pos c121] at h
    refine xe_iincr (i := 1) (n := 1) (by decide +kernel) (by decide) rfl (xk_k (show ¬ (0 : Nat) = 1 by decide) (Or.inr (xR_cat _)) (xk_d rfl (xk_k (show ¬ (2 : Nat) = 1 by decide) (Or.inl (show ¬ (2 + 1 : Nat) = 1 by decide)) (xk_k (show ¬ (3 : Nat) = 1 by decide) (Or.inl (show ¬ (3 + 1 : Nat) = 1 by decide)) xk_n)))) rfl ?_
    refine xe_goto (off := -104) (nx := 2) (by decide +kernel) (by decide) ?_
    refine xW_lv rfl (l := [(0, xR_ (x0)), (1, xI (xwr ((x1) + (1))))]) (xsb_of ⟨rfl, rfl, trivial⟩ (show [1, 0, 2, 3].Nodup by decide)) ?_
    exact hr2 (xin_wr _) h
  · rw [if_neg c121] at h
    refine xe_alr (ins := .aload_n 2) (len := 1) (i := 2) (by decide +kernel) rfl rfl rfl rfl rfl ?_
    obtain ⟨v122, e123, h⟩ := xbnd h
    refine xs_gr (i := 95) (c := 6) (k := 9) (by decide +kernel) (by decide) (by decide +kernel) e123 rfl ?_
    refine xe_ldn (ins := .iload_n 3) (len := 1) (by decide +kernel) rfl rfl rfl rfl ?_
    obtain ⟨v124, e125, h⟩ := xbnd h
    refine xs_iald rfl (by decide +kernel) hx3 e125 rfl ?_
    refine xe_bipush (n := 9) (by decide +kernel) (by decide) rfl ?_
    refine xe_icmpeq (off := 22) (t := 57) (by decide +kernel) (by decide) rfl (xq_ai_in e125) (show xin (9) by decide) (fun c126 => ?_) (fun c126 => ?_)
    · rw [if_pos c126] at h
      refine xW_lv rfl (l := [(0, xR_ (x0)), (1, xI (x1)), (2, xR_ (x2)), (3, xI (x3))]) (xsb_of ⟨rfl, rfl, rfl, rfl, trivial⟩ (show [0, 1, 2, 3].Nodup by decide)) ?_
      exact k28_57  hr2 hr19 hx1 hx3 h
    · rw [if_neg c126] at h
      refine xe_alr (ins := .aload_n 2) (len := 1) (i := 2) (by decide +kernel) rfl rfl rfl rfl rfl ?_
      obtain ⟨v127, e128, h⟩ := xbnd h
      refine xs_gr (i := 95) (c := 6) (k := 9) (by decide +kernel) (by decide) (by decide +kernel) e128 rfl ?_
      refine xe_ldn (ins := .iload_n 3) (len := 1) (by decide +kernel) rfl rfl rfl rfl ?_
      obtain ⟨v129, e130, h⟩ := xbnd h
      refine xs_iald rfl (by decide +kernel) hx3 e130 rfl ?_
      refine xe_bipush (n := 15) (by decide +kernel) (by decide) rfl ?_
      refine xe_icmpne (off := 15) (t := 61) (by decide +kernel) (by decide) rfl (xq_ai_in e130) (show xin (15) by decide) (fun c131 => ?_) (fun c131 => ?_)
      · rw [if_pos c131] at h
        refine xW_lv rfl (l := [(0, xR_ (x0)), (1, xI (x1)), (2, xR_ (x2)), (3, xI (x3))]) (xsb_of ⟨rfl, rfl, rfl, rfl, trivial⟩ (show [0, 1, 2, 3].Nodup by decide)) ?_
        exact k28_61  hr2 hr19 hx1 hx3 h
      · rw [if_neg c131] at h
        refine xe_alr (ins := .aload_n 2) (len := 1) (i := 2) (by decide +kernel) rfl rfl rfl rfl rfl ?_
        obtain ⟨v132, e133, h⟩ := xbnd h
        refine xs_gi (i := 98) (c := 6) (k := 3) (by decide +kernel) (by decide) (by decide +kernel) e133 rfl ?_
        refine xe_iconst (n := -1) (by decide +kernel) rfl ?_
        refine xe_icmpeq (off := 7) (t := 61) (by decide +kernel) (by decide) rfl (xq_gi_in e133) (show xin (-1) by decide) (fun c134 => ?_) (fun c134 => ?_)
        · rw [if_pos c134] at h
          refine xW_lv rfl (l := [(0, xR_ (x0)), (1, xI (x1)), (2, xR_ (x2)), (3, xI (x3))]) (xsb_of ⟨rfl, rfl, rfl, rfl, trivial⟩ (show [0, 1, 2, 3].Nodup by decide)) ?_
          exact k28_61  hr2 hr19 hx1 hx3 h
        · rw [if_neg c134] at h
          refine xW_lv rfl (l := [(0, xR_ (x0)), (1, xI (x1)), (2, xR_ (x2)), (3, xI (x3))]) (xsb_of ⟨rfl, rfl, rfl, rfl, trivial⟩ (show [0, 1, 2, 3].Nodup by decide)) ?_
          exact k28_57  hr2 hr19 hx1 hx3 h
def f28_19  (r2 : Nat → Int → xj_M → Option (Int × xj_M)) (f : Nat) : Nat → Nat → Int → Nat → Int → xj_M → Option (Int × xj_M)
  | 0, _, _, _, _, _ => none
  | n + 1, x0, x1, x2, x3, M => f28_19b  r2 (f28_19  r2 f n) f x0 x1 x2 x3 M
theorem k28_19 {d f : Nat}  {r2 : Nat → Int → xj_M → Option (Int × xj_M)}  (hr2 : ∀ {x0 : Nat} {x1 : Int} {M : xj_M} {R : Int × xj_M}, xin x1 → r2 x0 x1 M = some R → xW (d + 0) (none, d + 0, none) xr_28 (2, [(0, xR_ x0), (1, xI x1)], [], M) (xQi R)) : ∀ {n : Nat} {x0 : Nat} {x1 : Int} {x2 : Nat} {x3 : Int} {M : xj_M} {R : Int × xj_M}, xin x1 → xin x3 → f28_19  r2 f n x0 x1 x2 x3 M = some R → xW (d + 0) (none, d + 0, none) xr_28 (19, [(0, xR_ x0), (1, xI x1), (2, xR_ x2), (3, xI x3)], [], M) (xQi R) := by
  intro n
  induction n with
  | zero => intros; rename_i h; cases h
  | succ n ih => intros; rename_i h; exact k28_19b  hr2 ih (by assumption) (by assumption) h
def f28_2b  (r2 : Nat → Int → xj_M → Option (Int × xj_M)) (f : Nat) (x0 : Nat) (x1 : Int) (M : xj_M) : Option (Int × xj_M) := ((xq_gi 3 8 (x0) M).bind fun v135 => (if (v135) ≤ (x1) then (some (-1, M)) else ((xq_gr 3 9 (x0) M).bind fun v138 => ((xq_ar (v138) (x1) M).bind fun v140 => f28_19  r2 f f (x0) (x1) (v140) (0) M))))
theorem k28_2b {d f : Nat}  {r2 : Nat → Int → xj_M → Option (Int × xj_M)}  (hr2 : ∀ {x0 : Nat} {x1 : Int} {M : xj_M} {R : Int × xj_M}, xin x1 → r2 x0 x1 M = some R → xW (d + 0) (none, d + 0, none) xr_28 (2, [(0, xR_ x0), (1, xI x1)], [], M) (xQi R)) {x0 : Nat} {x1 : Int} {M : xj_M} {R : Int × xj_M} (hx1 : xin x1) (h : f28_2b  r2 f x0 x1 M = some R) : xW (d + 0) (none, d + 0, none) xr_28 (2, [(0, xR_ x0), (1, xI x1)], [], M) (xQi R) := by
  unfold f28_2b at h
  refine xe_ldn (ins := .iload_n 1) (len := 1) (by decide +kernel) rfl rfl rfl rfl ?_
  refine xe_alr (ins := .aload_n 0) (len := 1) (i := 0) (by decide +kernel) rfl rfl rfl rfl rfl ?_
  obtain ⟨v135, e136, h⟩ := xbnd h
  refine xs_gi (i := 62) (c := 3) (k := 8) (by decide +kernel) (by decide) (by decide +kernel) e136 rfl ?_
  refine xe_icmpge (off := 102) (t := 109) (by decide +kernel) (by decide) rfl hx1 (xq_gi_in e136) (fun c137 => ?_) (fun c137 => ?_)
  · rw [if_pos c137] at h
    refine xe_iconst (n := -1) (by decide +kernel) rfl ?_
    cases h
    exact xe_ret_i (ty := .int) (by decide +kernel) rfl rfl ⟨rfl, rfl, (show xin (-1) by decide)⟩
  · rw [if_neg c137] at h
    refine xe_alr (ins := .aload_n 0) (len := 1) (i := 0) (by decide +kernel) rfl rfl rfl rfl rfl ?_
    obtain ⟨v138, e139, h⟩ := xbnd h
    refine xs_gr (i := 34) (c := 3) (k := 9) (by decide +kernel) (by decide) (by decide +kernel) e139 rfl ?_
    refine xe_ldn (ins := .iload_n 1) (len := 1) (by decide +kernel) rfl rfl rfl rfl ?_
    obtain ⟨v140, e141, h⟩ := xbnd h
    refine xs_aald (by decide +kernel) hx1 e141 rfl ?_
    refine xe_asr (ins := .astore_n 2) (len := 1) (i := 2) (by decide +kernel) rfl rfl rfl (by decide) (xk_k (show ¬ (0 : Nat) = 2 by decide) (Or.inl (show ¬ (0 + 1 : Nat) = 2 by decide)) (xk_k (show ¬ (1 : Nat) = 2 by decide) (Or.inr (xI_cat _)) xk_n)) rfl ?_
    refine xe_iconst (n := 0) (by decide +kernel) rfl ?_
    refine xe_isr (ins := .istore_n 3) (len := 1) (i := 3) (by decide +kernel) rfl rfl rfl (by decide) (xk_k (show ¬ (2 : Nat) = 3 by decide) (Or.inr (xR_cat _)) (xk_k (show ¬ (0 : Nat) = 3 by decide) (Or.inl (show ¬ (0 + 1 : Nat) = 3 by decide)) (xk_k (show ¬ (1 : Nat) = 3 by decide) (Or.inl (show ¬ (1 + 1 : Nat) = 3 by decide)) xk_n))) rfl ?_
    refine xW_lv rfl (l := [(0, xR_ (x0)), (1, xI (x1)), (2, xR_ (v140)), (3, xI (0))]) (xsb_of ⟨rfl, rfl, rfl, rfl, trivial⟩ (show [3, 2, 0, 1].Nodup by decide)) ?_
    exact k28_19  hr2 hx1 (show xin (0) by decide) h
def f28_2   (f : Nat) : Nat → Nat → Int → xj_M → Option (Int × xj_M)
  | 0, _, _, _ => none
  | n + 1, x0, x1, M => f28_2b   (f28_2   f n) f x0 x1 M
theorem k28_2 {d f : Nat}     : ∀ {n : Nat} {x0 : Nat} {x1 : Int} {M : xj_M} {R : Int × xj_M}, xin x1 → f28_2   f n x0 x1 M = some R → xW (d + 0) (none, d + 0, none) xr_28 (2, [(0, xR_ x0), (1, xI x1)], [], M) (xQi R) := by
  intro n
  induction n with
  | zero => intros; rename_i h; cases h
  | succ n ih => intros; rename_i h; exact k28_2b   ih (by assumption) h
def f28  (f : Nat) (a0 : Nat) (M : xj_M) : Option (Int × xj_M) := f28_2   f f (a0) (0) M
theorem k28 {d f : Nat}   {a0 : Nat} {M : xj_M} {R : Int × xj_M}  (h : f28  f a0 M = some R) : xT (d + 1) 28 [xR_ a0] M (xQi R) := by
  refine xT_m xr_28_e (X := (none, d + 0, none)) rfl (xa_1 (xR_cat _) xa_n) (by decide) ?_
  unfold f28 at h
  refine xe_iconst (n := 0) (by decide +kernel) rfl ?_
  refine xe_isr (ins := .istore_n 1) (len := 1) (i := 1) (by decide +kernel) rfl rfl rfl (by decide) (xk_k (show ¬ (0 : Nat) = 1 by decide) (Or.inr (xR_cat _)) xk_n) rfl ?_
  refine xW_lv rfl (l := [(0, xR_ (a0)), (1, xI (0))]) (xsb_of ⟨rfl, rfl, trivial⟩ (show [1, 0].Nodup by decide)) ?_
  exact k28_2   (show xin (0) by decide) h
-- ChangeHouse$Reader.<init>
def xr_29 : xj_mR := (4, yX4_init, cX4_init, 2, (Option.none : Option Jvm.ClassFile.FieldType), 1, true, (1, 82), (1, 3))
set_option maxRecDepth 20000 in
theorem xr_29_e : xj_row 29 = some xr_29 := rfl
def f29  (f : Nat) (a0 : Nat) (a1 : Nat) (M : xj_M) : Option (xj_M) := ((xq_nz (a0)).bind fun _ => ((xq_na 3 (3001) M).bind fun p102 => ((xq_pr 4 7 (a0) (p102.1) p102.2).bind fun M104 => ((xq_na 4 (3001) M104).bind fun p106 => ((xq_pr 4 8 (a0) (p106.1) p106.2).bind fun M108 => ((xq_na 3 (32) M108).bind fun p110 => ((xq_pr 4 10 (a0) (p110.1) p110.2).bind fun M112 => ((xq_na 3 (32) M112).bind fun p114 => ((xq_pr 4 11 (a0) (p114.1) p114.2).bind fun M116 => ((xq_na 4 (8) M116).bind fun p118 => ((xq_pr 4 13 (a0) (p118.1) p118.2).bind fun M120 => ((xq_na 3 (1024) M120).bind fun p122 => ((xq_pr 4 15 (a0) (p122.1) p122.2).bind fun M124 => ((xq_na 3 (1024) M124).bind fun p126 => ((xq_pr 4 16 (a0) (p126.1) p126.2).bind fun M128 => ((xq_na 3 (1024) M128).bind fun p130 => ((xq_pr 4 17 (a0) (p130.1) p130.2).bind fun M132 => ((xq_na 3 (1024) M132).bind fun p134 => ((xq_pr 4 18 (a0) (p134.1) p134.2).bind fun M136 => ((xq_na 4 (4096) M136).bind fun p138 => ((xq_pr 4 19 (a0) (p138.1) p138.2).bind fun M140 => ((xq_pr 4 0 (a0) (a1) M140).bind fun M142 => (some M142)))))))))))))))))))))))
theorem k29 {d f : Nat}   {a0 : Nat} {a1 : Nat} {M : xj_M} {R : xj_M}  (h : f29  f a0 a1 M = some R) : xT (d + 1) 29 [xR_ a0, xR_ a1] M (xQv R) := by
  refine xT_m xr_29_e (X := (none, d + 0, none)) rfl (xa_1 (xR_cat _) (xa_1 (xR_cat _) xa_n)) (by decide) ?_
  unfold f29 at h
  refine xe_alr (ins := .aload_n 0) (len := 1) (i := 0) (by decide +kernel) rfl rfl rfl rfl rfl ?_
  obtain ⟨_, e101, h⟩ := xbnd h
  refine xe_oi (i := 3) (j := 0) (by decide +kernel) (by decide +kernel) (by rfl) (xq_nz_ne e101) rfl ?_
  refine xe_alr (ins := .aload_n 0) (len := 1) (i := 0) (by decide +kernel) rfl rfl rfl rfl rfl ?_
  refine xe_sipush (n := 3001) (by decide +kernel) (by decide) rfl ?_
  obtain ⟨p102, e103, h⟩ := xbnd h
  refine xs_na (kk := 3) (ty := .int) (x := p102.1) (M1 := p102.2) (by decide +kernel) rfl (show xin (3001) by decide) e103 rfl ?_
  obtain ⟨M104, e105, h⟩ := xbnd h
  refine xs_p (i := 9) (c := 4) (k := 7) (by decide +kernel) (by decide +kernel) (by decide +kernel) e105 rfl ?_
  refine xe_alr (ins := .aload_n 0) (len := 1) (i := 0) (by decide +kernel) rfl rfl rfl rfl rfl ?_
  refine xe_sipush (n := 3001) (by decide +kernel) (by decide) rfl ?_
  obtain ⟨p106, e107, h⟩ := xbnd h
  refine xs_na (kk := 4) (ty := .long) (x := p106.1) (M1 := p106.2) (by decide +kernel) rfl (show xin (3001) by decide) e107 rfl ?_
  obtain ⟨M108, e109, h⟩ := xbnd h
  refine xs_p (i := 15) (c := 4) (k := 8) (by decide +kernel) (by decide +kernel) (by decide +kernel) e109 rfl ?_
  refine xe_alr (ins := .aload_n 0) (len := 1) (i := 0) (by decide +kernel) rfl rfl rfl rfl rfl ?_
  refine xe_bipush (n := 32) (by decide +kernel) (by decide) rfl ?_
  obtain ⟨p110, e111, h⟩ := xbnd h
  refine xs_na (kk := 3) (ty := .int) (x := p110.1) (M1 := p110.2) (by decide +kernel) rfl (show xin (32) by decide) e111 rfl ?_
  obtain ⟨M112, e113, h⟩ := xbnd h
  refine xs_p (i := 19) (c := 4) (k := 10) (by decide +kernel) (by decide +kernel) (by decide +kernel) e113 rfl ?_
  refine xe_alr (ins := .aload_n 0) (len := 1) (i := 0) (by decide +kernel) rfl rfl rfl rfl rfl ?_
  refine xe_bipush (n := 32) (by decide +kernel) (by decide) rfl ?_
  obtain ⟨p114, e115, h⟩ := xbnd h
  refine xs_na (kk := 3) (ty := .int) (x := p114.1) (M1 := p114.2) (by decide +kernel) rfl (show xin (32) by decide) e115 rfl ?_
  obtain ⟨M116, e117, h⟩ := xbnd h
  refine xs_p (i := 22) (c := 4) (k := 11) (by decide +kernel) (by decide +kernel) (by decide +kernel) e117 rfl ?_
  refine xe_alr (ins := .aload_n 0) (len := 1) (i := 0) (by decide +kernel) rfl rfl rfl rfl rfl ?_
  refine xe_bipush (n := 8) (by decide +kernel) (by decide) rfl ?_
  obtain ⟨p118, e119, h⟩ := xbnd h
  refine xs_na (kk := 4) (ty := .long) (x := p118.1) (M1 := p118.2) (by decide +kernel) rfl (show xin (8) by decide) e119 rfl ?_
  obtain ⟨M120, e121, h⟩ := xbnd h
  refine xs_p (i := 25) (c := 4) (k := 13) (by decide +kernel) (by decide +kernel) (by decide +kernel) e121 rfl ?_
  refine xe_alr (ins := .aload_n 0) (len := 1) (i := 0) (by decide +kernel) rfl rfl rfl rfl rfl ?_
  refine xe_sipush (n := 1024) (by decide +kernel) (by decide) rfl ?_
  obtain ⟨p122, e123, h⟩ := xbnd h
  refine xs_na (kk := 3) (ty := .int) (x := p122.1) (M1 := p122.2) (by decide +kernel) rfl (show xin (1024) by decide) e123 rfl ?_
  obtain ⟨M124, e125, h⟩ := xbnd h
  refine xs_p (i := 28) (c := 4) (k := 15) (by decide +kernel) (by decide +kernel) (by decide +kernel) e125 rfl ?_
  refine xe_alr (ins := .aload_n 0) (len := 1) (i := 0) (by decide +kernel) rfl rfl rfl rfl rfl ?_
  refine xe_sipush (n := 1024) (by decide +kernel) (by decide) rfl ?_
  obtain ⟨p126, e127, h⟩ := xbnd h
  refine xs_na (kk := 3) (ty := .int) (x := p126.1) (M1 := p126.2) (by decide +kernel) rfl (show xin (1024) by decide) e127 rfl ?_
  obtain ⟨M128, e129, h⟩ := xbnd h
  refine xs_p (i := 31) (c := 4) (k := 16) (by decide +kernel) (by decide +kernel) (by decide +kernel) e129 rfl ?_
  refine xe_alr (ins := .aload_n 0) (len := 1) (i := 0) (by decide +kernel) rfl rfl rfl rfl rfl ?_
  refine xe_sipush (n := 1024) (by decide +kernel) (by decide) rfl ?_
  obtain ⟨p130, e131, h⟩ := xbnd h
  refine xs_na (kk := 3) (ty := .int) (x := p130.1) (M1 := p130.2) (by decide +kernel) rfl (show xin (1024) by decide) e131 rfl ?_
  obtain ⟨M132, e133, h⟩ := xbnd h
  refine xs_p (i := 34) (c := 4) (k := 17) (by decide +kernel) (by decide +kernel) (by decide +kernel) e133 rfl ?_
  refine xe_alr (ins := .aload_n 0) (len := 1) (i := 0) (by decide +kernel) rfl rfl rfl rfl rfl ?_
  refine xe_sipush (n := 1024) (by decide +kernel) (by decide) rfl ?_
  obtain ⟨p134, e135, h⟩ := xbnd h
  refine xs_na (kk := 3) (ty := .int) (x := p134.1) (M1 := p134.2) (by decide +kernel) rfl (show xin (1024) by decide) e135 rfl ?_
  obtain ⟨M136, e137, h⟩ := xbnd h
  refine xs_p (i := 37) (c := 4) (k := 18) (by decide +kernel) (by decide +kernel) (by decide +kernel) e137 rfl ?_
  refine xe_alr (ins := .aload_n 0) (len := 1) (i := 0) (by decide +kernel) rfl rfl rfl rfl rfl ?_
  refine xe_sipush (n := 4096) (by decide +kernel) (by decide) rfl ?_
  obtain ⟨p138, e139, h⟩ := xbnd h
  refine xs_na (kk := 4) (ty := .long) (x := p138.1) (M1 := p138.2) (by decide +kernel) rfl (show xin (4096) by decide) e139 rfl ?_
  obtain ⟨M140, e141, h⟩ := xbnd h
  refine xs_p (i := 40) (c := 4) (k := 19) (by decide +kernel) (by decide +kernel) (by decide +kernel) e141 rfl ?_
  refine xe_alr (ins := .aload_n 0) (len := 1) (i := 0) (by decide +kernel) rfl rfl rfl rfl rfl ?_
  refine xe_alr (ins := .aload_n 1) (len := 1) (i := 1) (by decide +kernel) rfl rfl rfl rfl rfl ?_
  obtain ⟨M142, e143, h⟩ := xbnd h
  refine xs_p (i := 43) (c := 4) (k := 0) (by decide +kernel) (by decide +kernel) (by decide +kernel) e143 rfl ?_
  cases h
  exact xe_ret_v (by decide +kernel) rfl ⟨rfl, rfl⟩
-- ChangeHouse$Reader.begin
def xr_34 : xj_mR := (4, yX4_begin, cX4_begin, 3, (Option.none : Option Jvm.ClassFile.FieldType), 2, false, (4, 67), (1, 3))
set_option maxRecDepth 20000 in
theorem xr_34_e : xj_row 34 = some xr_34 := rfl
def f34  (f : Nat) (a0 : Nat) (a1 : Nat) (a2 : Int) (M : xj_M) : Option (xj_M) := ((xq_pr 4 3 (a0) (a1) M).bind fun M101 => ((xq_pi 4 4 (a0) (a2) M101).bind fun M103 => ((xq_pi 4 1 (a0) (0) M103).bind fun M105 => ((xq_pi 4 9 (a0) (0) M105).bind fun M107 => ((xq_pi 4 14 (a0) (0) M107).bind fun M109 => (some M109))))))
theorem k34 {d f : Nat}   {a0 : Nat} {a1 : Nat} {a2 : Int} {M : xj_M} {R : xj_M} (ha2 : xin a2) (h : f34  f a0 a1 a2 M = some R) : xT (d + 1) 34 [xR_ a0, xR_ a1, xI a2] M (xQv R) := by
  refine xT_m xr_34_e (X := (none, d + 0, none)) rfl (xa_1 (xR_cat _) (xa_1 (xR_cat _) (xa_1 (xI_cat _) xa_n))) (by decide) ?_
  unfold f34 at h
  refine xe_alr (ins := .aload_n 0) (len := 1) (i := 0) (by decide +kernel) rfl rfl rfl rfl rfl ?_
  refine xe_alr (ins := .aload_n 1) (len := 1) (i := 1) (by decide +kernel) rfl rfl rfl rfl rfl ?_
  obtain ⟨M101, e102, h⟩ := xbnd h
  refine xs_p (i := 147) (c := 4) (k := 3) (by decide +kernel) (by decide +kernel) (by decide +kernel) e102 rfl ?_
  refine xe_alr (ins := .aload_n 0) (len := 1) (i := 0) (by decide +kernel) rfl rfl rfl rfl rfl ?_
  refine xe_ldn (ins := .iload_n 2) (len := 1) (by decide +kernel) rfl rfl rfl rfl ?_
  obtain ⟨M103, e104, h⟩ := xbnd h
  refine xs_p (i := 151) (c := 4) (k := 4) (by decide +kernel) (by decide +kernel) (by decide +kernel) e104 rfl ?_
  refine xe_alr (ins := .aload_n 0) (len := 1) (i := 0) (by decide +kernel) rfl rfl rfl rfl rfl ?_
  refine xe_iconst (n := 0) (by decide +kernel) rfl ?_
  obtain ⟨M105, e106, h⟩ := xbnd h
  refine xs_p (i := 54) (c := 4) (k := 1) (by decide +kernel) (by decide +kernel) (by decide +kernel) e106 rfl ?_
  refine xe_alr (ins := .aload_n 0) (len := 1) (i := 0) (by decide +kernel) rfl rfl rfl rfl rfl ?_
  refine xe_iconst (n := 0) (by decide +kernel) rfl ?_
  obtain ⟨M107, e108, h⟩ := xbnd h
  refine xs_p (i := 90) (c := 4) (k := 9) (by decide +kernel) (by decide +kernel) (by decide +kernel) e108 rfl ?_
  refine xe_alr (ins := .aload_n 0) (len := 1) (i := 0) (by decide +kernel) rfl rfl rfl rfl rfl ?_
  refine xe_iconst (n := 0) (by decide +kernel) rfl ?_
  obtain ⟨M109, e110, h⟩ := xbnd h
  refine xs_p (i := 155) (c := 4) (k := 14) (by decide +kernel) (by decide +kernel) (by decide +kernel) e110 rfl ?_
  cases h
  exact xe_ret_v (by decide +kernel) rfl ⟨rfl, rfl⟩
-- ChangeHouse$Reader.wrongAt
def xr_36 : xj_mR := (4, yX4_wrongAt, cX4_wrongAt, 2, (Option.none : Option Jvm.ClassFile.FieldType), 1, false, (4, 83), (1, 3))
set_option maxRecDepth 20000 in
theorem xr_36_e : xj_row 36 = some xr_36 := rfl
def f36  (f : Nat) (a0 : Nat) (a1 : Int) (M : xj_M) : Option ((Nat ⊕ Unit) × xj_M) := ((xq_pi 4 2 (a0) (a1) M).bind fun M101 => (some (.inl 0, xj_new M101 (.inl ()) 6)))
theorem k36 {d f : Nat}   {a0 : Nat} {a1 : Int} {M : xj_M} {R : (Nat ⊕ Unit) × xj_M} (ha1 : xin a1) (h : f36  f a0 a1 M = some R) : xT (d + 6) 36 [xR_ a0, xI a1] M (xQtv R) := by
  refine xT_m xr_36_e (X := (none, d + 5, none)) rfl (xa_1 (xR_cat _) (xa_1 (xI_cat _) xa_n)) (by decide) ?_
  unfold f36 at h
  refine xe_alr (ins := .aload_n 0) (len := 1) (i := 0) (by decide +kernel) rfl rfl rfl rfl rfl ?_
  refine xe_ldn (ins := .iload_n 1) (len := 1) (by decide +kernel) rfl rfl rfl rfl ?_
  obtain ⟨M101, e102, h⟩ := xbnd h
  refine xs_p (i := 159) (c := 4) (k := 2) (by decide +kernel) (by decide +kernel) (by decide +kernel) e102 rfl ?_
  cases h
  exact xe_throw (i := 162) rfl (show 5 ≤ d + 5 by omega) (by decide +kernel) (by decide +kernel) (by decide +kernel) ⟨rfl, rfl⟩
-- ChangeHouse$Reader.advance
def xr_37 : xj_mR := (4, yX4_advance, cX4_advance, 1, (Option.none : Option Jvm.ClassFile.FieldType), 0, false, (4, 75), (1, 3))
set_option maxRecDepth 20000 in
theorem xr_37_e : xj_row 37 = some xr_37 := rfl
def f37_26   (f : Nat)  (M : xj_M) : Option (xj_M) := (some M)
theorem k37_26 {d f : Nat}      {M : xj_M} {R : xj_M}  (h : f37_26   f  M = some R) : xW (d + 0) (none, d + 0, none) xr_37 (26, [], [], M) (xQv R) := by
  unfold f37_26 at h
  cases h
  exact xe_ret_v (by decide +kernel) rfl ⟨rfl, rfl⟩
def f37  (f : Nat) (a0 : Nat) (M : xj_M) : Option (xj_M) := ((xq_gi 4 1 (a0) M).bind fun v101 => ((xq_gr 4 0 (a0) M).bind fun v103 => ((xq_gi 8 2 (v103) M).bind fun v105 => (if (xwr ((v105) - (1))) ≤ (v101) then f37_26   f  M else ((xq_gi 4 1 (a0) M).bind fun v108 => ((xq_pi 4 1 (a0) (xwr ((v108) + (1))) M).bind fun M110 => f37_26   f  M110))))))
theorem k37 {d f : Nat}   {a0 : Nat} {M : xj_M} {R : xj_M}  (h : f37  f a0 M = some R) : xT (d + 1) 37 [xR_ a0] M (xQv R) := by
  refine xT_m xr_37_e (X := (none, d + 0, none)) rfl (xa_1 (xR_cat _) xa_n) (by decide) ?_
  unfold f37 at h
  refine xe_alr (ins := .aload_n 0) (len := 1) (i := 0) (by decide +kernel) rfl rfl rfl rfl rfl ?_
  obtain ⟨v101, e102, h⟩ := xbnd h
  refine xs_gi (i := 54) (c := 4) (k := 1) (by decide +kernel) (by decide) (by decide +kernel) e102 rfl ?_
  refine xe_alr (ins := .aload_n 0) (len := 1) (i := 0) (by decide +kernel) rfl rfl rfl rfl rfl ?_
  obtain ⟨v103, e104, h⟩ := xbnd h
  refine xs_gr (i := 43) (c := 4) (k := 0) (by decide +kernel) (by decide) (by decide +kernel) e104 rfl ?_
  obtain ⟨v105, e106, h⟩ := xbnd h
  refine xs_gi (i := 118) (c := 8) (k := 2) (by decide +kernel) (by decide) (by decide +kernel) e106 rfl ?_
  refine xe_iconst (n := 1) (by decide +kernel) rfl ?_
  refine xe_isub (by decide +kernel) rfl ?_
  refine xe_icmpge (off := 13) (t := 26) (by decide +kernel) (by decide) rfl (xq_gi_in e102) (xin_wr _) (fun c107 => ?_) (fun c107 => ?_)
  · rw [if_pos c107] at h
    refine xW_lv rfl (l := []) (xsb_of trivial (show [0].Nodup by decide)) ?_
    exact k37_26    h
  · rw [if_neg c107] at h
    refine xe_alr (ins := .aload_n 0) (len := 1) (i := 0) (by decide +kernel) rfl rfl rfl rfl rfl ?_
    refine xe_dupr (by decide +kernel) rfl ?_
    obtain ⟨v108, e109, h⟩ := xbnd h
    refine xs_gi (i := 54) (c := 4) (k := 1) (by decide +kernel) (by decide) (by decide +kernel) e109 rfl ?_
    refine xe_iconst (n := 1) (by decide +kernel) rfl ?_
    refine xe_iadd (by decide +kernel) rfl ?_
    obtain ⟨M110, e111, h⟩ := xbnd h
    refine xs_p (i := 54) (c := 4) (k := 1) (by decide +kernel) (by decide +kernel) (by decide +kernel) e111 rfl ?_
    refine xW_lv rfl (l := []) (xsb_of trivial (show [0].Nodup by decide)) ?_
    exact k37_26    h
-- ChangeHouse$Reader.need
def xr_38 : xj_mR := (4, yX4_need, cX4_need, 2, (Option.none : Option Jvm.ClassFile.FieldType), 1, false, (4, 162), (1, 3))
set_option maxRecDepth 20000 in
theorem xr_38_e : xj_row 38 = some xr_38 := rfl
def f38_32   (f : Nat) (x0 : Nat) (M : xj_M) : Option ((Nat ⊕ Unit) × xj_M) := ((xq_is 4 (x0) M).bind fun _ => ((f37  f (x0) M).bind fun M103 => (some (.inr (), M103))))
theorem k38_32 {d f : Nat}     {x0 : Nat} {M : xj_M} {R : (Nat ⊕ Unit) × xj_M}  (h : f38_32   f x0 M = some R) : xW (d + 6) (none, d + 6, none) xr_38 (32, [(0, xR_ x0)], [], M) (xQtv R) := by
  unfold f38_32 at h
  refine xe_alr (ins := .aload_n 0) (len := 1) (i := 0) (by decide +kernel) rfl rfl rfl rfl rfl ?_
  obtain ⟨_, e102, h⟩ := xbnd h
  obtain ⟨M103, e101, h⟩ := xbnd h
  refine xs_cv (i := 73) (j := 37) (ar := []) (rest := []) (r2 := xr_37) (by decide +kernel) (by decide +kernel) (by decide +kernel) xr_37_e rfl (by decide) (by decide) e102 ?_
  refine xc_v (k37 (d := d + 5)   e101) rfl ?_
  cases h
  exact xe_ret_v (by decide +kernel) rfl ⟨rfl, rfl⟩
def f38  (f : Nat) (a0 : Nat) (a1 : Int) (M : xj_M) : Option ((Nat ⊕ Unit) × xj_M) := ((xq_gr 4 0 (a0) M).bind fun v105 => ((xq_gr 8 3 (v105) M).bind fun v107 => ((xq_gi 4 1 (a0) M).bind fun v109 => ((xq_ai 3 (v107) (v109) M).bind fun v111 => (if (v111) = (a1) then f38_32   f (a0) M else ((xq_gr 4 0 (a0) M).bind fun v114 => ((xq_gr 8 4 (v114) M).bind fun v116 => ((xq_gi 4 1 (a0) M).bind fun v118 => ((xq_ai 3 (v116) (v118) M).bind fun v120 => ((xq_is 4 (a0) M).bind fun _ => ((f36 f (a0) (v120) M).bind fun R124 => xth R124 (fun _ => f38_32   f (a0) R124.2))))))))))))
theorem k38 {d f : Nat}   {a0 : Nat} {a1 : Int} {M : xj_M} {R : (Nat ⊕ Unit) × xj_M} (ha1 : xin a1) (h : f38  f a0 a1 M = some R) : xT (d + 7) 38 [xR_ a0, xI a1] M (xQtv R) := by
  refine xT_m xr_38_e (X := (none, d + 6, none)) rfl (xa_1 (xR_cat _) (xa_1 (xI_cat _) xa_n)) (by decide) ?_
  unfold f38 at h
  refine xe_alr (ins := .aload_n 0) (len := 1) (i := 0) (by decide +kernel) rfl rfl rfl rfl rfl ?_
  obtain ⟨v105, e106, h⟩ := xbnd h
  refine xs_gr (i := 43) (c := 4) (k := 0) (by decide +kernel) (by decide) (by decide +kernel) e106 rfl ?_
  obtain ⟨v107, e108, h⟩ := xbnd h
  refine xs_gr (i := 51) (c := 8) (k := 3) (by decide +kernel) (by decide) (by decide +kernel) e108 rfl ?_
  refine xe_alr (ins := .aload_n 0) (len := 1) (i := 0) (by decide +kernel) rfl rfl rfl rfl rfl ?_
  obtain ⟨v109, e110, h⟩ := xbnd h
  refine xs_gi (i := 54) (c := 4) (k := 1) (by decide +kernel) (by decide) (by decide +kernel) e110 rfl ?_
  obtain ⟨v111, e112, h⟩ := xbnd h
  refine xs_iald rfl (by decide +kernel) (xq_gi_in e110) e112 rfl ?_
  refine xe_ldn (ins := .iload_n 1) (len := 1) (by decide +kernel) rfl rfl rfl rfl ?_
  refine xe_icmpeq (off := 19) (t := 32) (by decide +kernel) (by decide) rfl (xq_ai_in e112) ha1 (fun c113 => ?_) (fun c113 => ?_)
  · rw [if_pos c113] at h
    refine xW_lv rfl (l := [(0, xR_ (a0))]) (xsb_of ⟨rfl, trivial⟩ (show [0, 1].Nodup by decide)) ?_
    exact k38_32    h
  · rw [if_neg c113] at h
    refine xe_alr (ins := .aload_n 0) (len := 1) (i := 0) (by decide +kernel) rfl rfl rfl rfl rfl ?_
    refine xe_alr (ins := .aload_n 0) (len := 1) (i := 0) (by decide +kernel) rfl rfl rfl rfl rfl ?_
    obtain ⟨v114, e115, h⟩ := xbnd h
    refine xs_gr (i := 43) (c := 4) (k := 0) (by decide +kernel) (by decide) (by decide +kernel) e115 rfl ?_
    obtain ⟨v116, e117, h⟩ := xbnd h
    refine xs_gr (i := 80) (c := 8) (k := 4) (by decide +kernel) (by decide) (by decide +kernel) e117 rfl ?_
    refine xe_alr (ins := .aload_n 0) (len := 1) (i := 0) (by decide +kernel) rfl rfl rfl rfl rfl ?_
    obtain ⟨v118, e119, h⟩ := xbnd h
    refine xs_gi (i := 54) (c := 4) (k := 1) (by decide +kernel) (by decide) (by decide +kernel) e119 rfl ?_
    obtain ⟨v120, e121, h⟩ := xbnd h
    refine xs_iald rfl (by decide +kernel) (xq_gi_in e119) e121 rfl ?_
    obtain ⟨_, e123, h⟩ := xbnd h
    obtain ⟨R124, e122, h⟩ := xbnd h
    refine xs2_cv (kd := 0) (jj := 36) (by decide) (i := 83) (j := 36) (ar := [xI (v120)]) (rest := []) (r2 := xr_36) (by decide +kernel) (by decide +kernel) (by decide +kernel) xr_36_e rfl (by decide) (by decide) e123 ?_
    refine xct_v (k36 (d := d + 0) (xq_ai_in e121) e122) rfl (fun e1 g126 => ?_) (fun g126 => ?_)
    · rw [xth_l g126] at h; cases h; exact xK_thr rfl ⟨rfl, rfl⟩
    · rw [xth_r g126] at h
      refine xW_lv rfl (l := [(0, xR_ (a0))]) (xsb_of ⟨rfl, trivial⟩ (show [0, 1].Nodup by decide)) ?_
      exact k38_32    h
-- ChangeHouse$Reader.goesOn
def xr_39 : xj_mR := (4, yX4_goesOn, cX4_goesOn, 2, (Option.some Jvm.ClassFile.FieldType.boolean), 0, false, (5, 122), (1, 3))
set_option maxRecDepth 20000 in
theorem xr_39_e : xj_row 39 = some xr_39 := rfl
def f39_31   (f : Nat) (x1 : Int) (M : xj_M) : Option (Int × xj_M) := (if (x1) = 0 ∨ (x1) = 1 then some (x1, M) else none)
theorem k39_31 {d f : Nat}     {x1 : Int} {M : xj_M} {R : Int × xj_M} (hx1 : xin x1) (h : f39_31   f x1 M = some R) : xW (d + 1) (none, d + 1, none) xr_39 (31, [(1, xI x1)], [], M) (xQi R) := by
  unfold f39_31 at h
  refine xe_ldn (ins := .iload_n 1) (len := 1) (by decide +kernel) rfl rfl rfl rfl ?_
  by_cases c101 : (x1) = 0 ∨ (x1) = 1
  · rw [if_pos c101] at h; cases h; exact xe_ret_i (ty := .boolean) (by decide +kernel) rfl (xbool c101) ⟨rfl, rfl, hx1⟩
  · rw [if_neg c101] at h; cases h
def f39_22   (f : Nat) (x0 : Nat) (y0 : Int) (M : xj_M) : Option (Int × xj_M) := (if (y0) = 0 then f39_31   f (y0) M else ((xq_is 4 (x0) M).bind fun _ => ((f37  f (x0) M).bind fun M105 => f39_31   f (y0) M105)))
theorem k39_22 {d f : Nat}     {x0 : Nat} {y0 : Int} {M : xj_M} {R : Int × xj_M} (hy0 : xin y0) (h : f39_22   f x0 y0 M = some R) : xW (d + 1) (none, d + 1, none) xr_39 (22, [(0, xR_ x0)], [xI y0], M) (xQi R) := by
  unfold f39_22 at h
  refine xe_isr (ins := .istore_n 1) (len := 1) (i := 1) (by decide +kernel) rfl rfl rfl (by decide) (xk_k (show ¬ (0 : Nat) = 1 by decide) (Or.inr (xR_cat _)) xk_n) rfl ?_
  refine xe_ldn (ins := .iload_n 1) (len := 1) (by decide +kernel) rfl rfl rfl rfl ?_
  refine xe_ifeq (off := 7) (t := 31) (by decide +kernel) (by decide) rfl hy0 (fun c102 => ?_) (fun c102 => ?_)
  · rw [if_pos c102] at h
    refine xW_lv rfl (l := [(1, xI (y0))]) (xsb_of ⟨rfl, trivial⟩ (show [1, 0].Nodup by decide)) ?_
    exact k39_31   hy0 h
  · rw [if_neg c102] at h
    refine xe_alr (ins := .aload_n 0) (len := 1) (i := 0) (by decide +kernel) rfl rfl rfl rfl rfl ?_
    obtain ⟨_, e104, h⟩ := xbnd h
    obtain ⟨M105, e103, h⟩ := xbnd h
    refine xs_cv (i := 73) (j := 37) (ar := []) (rest := []) (r2 := xr_37) (by decide +kernel) (by decide +kernel) (by decide +kernel) xr_37_e rfl (by decide) (by decide) e104 ?_
    refine xc_v (k37 (d := d + 0)   e103) rfl ?_
    refine xW_lv rfl (l := [(1, xI (y0))]) (xsb_of ⟨rfl, trivial⟩ (show [1, 0].Nodup by decide)) ?_
    exact k39_31   hy0 h
def f39  (f : Nat) (a0 : Nat) (M : xj_M) : Option (Int × xj_M) := ((xq_gr 4 0 (a0) M).bind fun v107 => ((xq_gr 8 3 (v107) M).bind fun v109 => ((xq_gi 4 1 (a0) M).bind fun v111 => ((xq_ai 3 (v109) (v111) M).bind fun v113 => (if ¬ (v113) = (44) then f39_22   f (a0) (0) M else f39_22   f (a0) (1) M)))))
theorem k39 {d f : Nat}   {a0 : Nat} {M : xj_M} {R : Int × xj_M}  (h : f39  f a0 M = some R) : xT (d + 2) 39 [xR_ a0] M (xQi R) := by
  refine xT_m xr_39_e (X := (none, d + 1, none)) rfl (xa_1 (xR_cat _) xa_n) (by decide) ?_
  unfold f39 at h
  refine xe_alr (ins := .aload_n 0) (len := 1) (i := 0) (by decide +kernel) rfl rfl rfl rfl rfl ?_
  obtain ⟨v107, e108, h⟩ := xbnd h
  refine xs_gr (i := 43) (c := 4) (k := 0) (by decide +kernel) (by decide) (by decide +kernel) e108 rfl ?_
  obtain ⟨v109, e110, h⟩ := xbnd h
  refine xs_gr (i := 51) (c := 8) (k := 3) (by decide +kernel) (by decide) (by decide +kernel) e110 rfl ?_
  refine xe_alr (ins := .aload_n 0) (len := 1) (i := 0) (by decide +kernel) rfl rfl rfl rfl rfl ?_
  obtain ⟨v111, e112, h⟩ := xbnd h
  refine xs_gi (i := 54) (c := 4) (k := 1) (by decide +kernel) (by decide) (by decide +kernel) e112 rfl ?_
  obtain ⟨v113, e114, h⟩ := xbnd h
  refine xs_iald rfl (by decide +kernel) (xq_gi_in e112) e114 rfl ?_
  refine xe_bipush (n := 44) (by decide +kernel) (by decide) rfl ?_
  refine xe_icmpne (off := 7) (t := 21) (by decide +kernel) (by decide) rfl (xq_ai_in e114) (show xin (44) by decide) (fun c115 => ?_) (fun c115 => ?_)
  · rw [if_pos c115] at h
    refine xe_iconst (n := 0) (by decide +kernel) rfl ?_
    refine xW_lv rfl (l := [(0, xR_ (a0))]) (xsb_of ⟨rfl, trivial⟩ (show [0].Nodup by decide)) ?_
    exact k39_22   (show xin (0) by decide) h
  · rw [if_neg c115] at h
    refine xe_iconst (n := 1) (by decide +kernel) rfl ?_
    refine xe_goto (off := 4) (nx := 22) (by decide +kernel) (by decide) ?_
    refine xW_lv rfl (l := [(0, xR_ (a0))]) (xsb_of ⟨rfl, trivial⟩ (show [0].Nodup by decide)) ?_
    exact k39_22   (show xin (1) by decide) h
-- ChangeHouse$Reader.mention
def xr_40 : xj_mR := (4, yX4_mention, cX4_mention, 5, (Option.none : Option Jvm.ClassFile.FieldType), 4, false, (4, 170), (1, 3))
set_option maxRecDepth 20000 in
theorem xr_40_e : xj_row 40 = some xr_40 := rfl
def f40_61   (f : Nat)  (M : xj_M) : Option (xj_M) := (some M)
theorem k40_61 {d f : Nat}      {M : xj_M} {R : xj_M}  (h : f40_61   f  M = some R) : xW (d + 0) (none, d + 0, none) xr_40 (61, [], [], M) (xQv R) := by
  unfold f40_61 at h
  cases h
  exact xe_ret_v (by decide +kernel) rfl ⟨rfl, rfl⟩
def f40  (f : Nat) (a0 : Nat) (a1 : Int) (a2 : Int) (a3 : Int) (a4 : Int) (M : xj_M) : Option (xj_M) := ((xq_gi 4 14 (a0) M).bind fun v101 => (if (1024) ≤ (v101) then f40_61   f  M else ((xq_gr 4 16 (a0) M).bind fun v104 => ((xq_gi 4 14 (a0) M).bind fun v106 => ((xq_si (v104) (v106) (a1) M).bind fun M108 => ((xq_gr 4 15 (a0) M108).bind fun v110 => ((xq_gi 4 14 (a0) M108).bind fun v112 => ((xq_si (v110) (v112) (a2) M108).bind fun M114 => ((xq_gr 4 17 (a0) M114).bind fun v116 => ((xq_gi 4 14 (a0) M114).bind fun v118 => ((xq_si (v116) (v118) (a3) M114).bind fun M120 => ((xq_gr 4 18 (a0) M120).bind fun v122 => ((xq_gi 4 14 (a0) M120).bind fun v124 => ((xq_si (v122) (v124) (a4) M120).bind fun M126 => ((xq_gi 4 14 (a0) M126).bind fun v128 => ((xq_pi 4 14 (a0) (xwr ((v128) + (1))) M126).bind fun M130 => f40_61   f  M130))))))))))))))))
theorem k40 {d f : Nat}   {a0 : Nat} {a1 : Int} {a2 : Int} {a3 : Int} {a4 : Int} {M : xj_M} {R : xj_M} (ha1 : xin a1) (ha2 : xin a2) (ha3 : xin a3) (ha4 : xin a4) (h : f40  f a0 a1 a2 a3 a4 M = some R) : xT (d + 1) 40 [xR_ a0, xI a1, xI a2, xI a3, xI a4] M (xQv R) := by
  refine xT_m xr_40_e (X := (none, d + 0, none)) rfl (xa_1 (xR_cat _) (xa_1 (xI_cat _) (xa_1 (xI_cat _) (xa_1 (xI_cat _) (xa_1 (xI_cat _) xa_n))))) (by decide) ?_
  unfold f40 at h
  refine xe_alr (ins := .aload_n 0) (len := 1) (i := 0) (by decide +kernel) rfl rfl rfl rfl rfl ?_
  obtain ⟨v101, e102, h⟩ := xbnd h
  refine xs_gi (i := 155) (c := 4) (k := 14) (by decide +kernel) (by decide) (by decide +kernel) e102 rfl ?_
  refine xe_sipush (n := 1024) (by decide +kernel) (by decide) rfl ?_
  refine xe_icmpge (off := 54) (t := 61) (by decide +kernel) (by decide) rfl (xq_gi_in e102) (show xin (1024) by decide) (fun c103 => ?_) (fun c103 => ?_)
  · rw [if_pos c103] at h
    refine xW_lv rfl (l := []) (xsb_of trivial (show [0, 1, 2, 3, 4].Nodup by decide)) ?_
    exact k40_61    h
  · rw [if_neg c103] at h
    refine xe_alr (ins := .aload_n 0) (len := 1) (i := 0) (by decide +kernel) rfl rfl rfl rfl rfl ?_
    obtain ⟨v104, e105, h⟩ := xbnd h
    refine xs_gr (i := 31) (c := 4) (k := 16) (by decide +kernel) (by decide) (by decide +kernel) e105 rfl ?_
    refine xe_alr (ins := .aload_n 0) (len := 1) (i := 0) (by decide +kernel) rfl rfl rfl rfl rfl ?_
    obtain ⟨v106, e107, h⟩ := xbnd h
    refine xs_gi (i := 155) (c := 4) (k := 14) (by decide +kernel) (by decide) (by decide +kernel) e107 rfl ?_
    refine xe_ldn (ins := .iload_n 1) (len := 1) (by decide +kernel) rfl rfl rfl rfl ?_
    obtain ⟨M108, e109, h⟩ := xbnd h
    refine xs_iast (by decide +kernel) (xq_gi_in e107) e109 rfl ?_
    refine xe_alr (ins := .aload_n 0) (len := 1) (i := 0) (by decide +kernel) rfl rfl rfl rfl rfl ?_
    obtain ⟨v110, e111, h⟩ := xbnd h
    refine xs_gr (i := 28) (c := 4) (k := 15) (by decide +kernel) (by decide) (by decide +kernel) e111 rfl ?_
    refine xe_alr (ins := .aload_n 0) (len := 1) (i := 0) (by decide +kernel) rfl rfl rfl rfl rfl ?_
    obtain ⟨v112, e113, h⟩ := xbnd h
    refine xs_gi (i := 155) (c := 4) (k := 14) (by decide +kernel) (by decide) (by decide +kernel) e113 rfl ?_
    refine xe_ldn (ins := .iload_n 2) (len := 1) (by decide +kernel) rfl rfl rfl rfl ?_
    obtain ⟨M114, e115, h⟩ := xbnd h
    refine xs_iast (by decide +kernel) (xq_gi_in e113) e115 rfl ?_
    refine xe_alr (ins := .aload_n 0) (len := 1) (i := 0) (by decide +kernel) rfl rfl rfl rfl rfl ?_
    obtain ⟨v116, e117, h⟩ := xbnd h
    refine xs_gr (i := 34) (c := 4) (k := 17) (by decide +kernel) (by decide) (by decide +kernel) e117 rfl ?_
    refine xe_alr (ins := .aload_n 0) (len := 1) (i := 0) (by decide +kernel) rfl rfl rfl rfl rfl ?_
    obtain ⟨v118, e119, h⟩ := xbnd h
    refine xs_gi (i := 155) (c := 4) (k := 14) (by decide +kernel) (by decide) (by decide +kernel) e119 rfl ?_
    refine xe_ldn (ins := .iload_n 3) (len := 1) (by decide +kernel) rfl rfl rfl rfl ?_
    obtain ⟨M120, e121, h⟩ := xbnd h
    refine xs_iast (by decide +kernel) (xq_gi_in e119) e121 rfl ?_
    refine xe_alr (ins := .aload_n 0) (len := 1) (i := 0) (by decide +kernel) rfl rfl rfl rfl rfl ?_
    obtain ⟨v122, e123, h⟩ := xbnd h
    refine xs_gr (i := 37) (c := 4) (k := 18) (by decide +kernel) (by decide) (by decide +kernel) e123 rfl ?_
    refine xe_alr (ins := .aload_n 0) (len := 1) (i := 0) (by decide +kernel) rfl rfl rfl rfl rfl ?_
    obtain ⟨v124, e125, h⟩ := xbnd h
    refine xs_gi (i := 155) (c := 4) (k := 14) (by decide +kernel) (by decide) (by decide +kernel) e125 rfl ?_
    refine xe_ldn (ins := .iload 4) (len := 2) (by decide +kernel) rfl rfl rfl rfl ?_
    obtain ⟨M126, e127, h⟩ := xbnd h
    refine xs_iast (by decide +kernel) (xq_gi_in e125) e127 rfl ?_
    refine xe_alr (ins := .aload_n 0) (len := 1) (i := 0) (by decide +kernel) rfl rfl rfl rfl rfl ?_
    refine xe_dupr (by decide +kernel) rfl ?_
    obtain ⟨v128, e129, h⟩ := xbnd h
    refine xs_gi (i := 155) (c := 4) (k := 14) (by decide +kernel) (by decide) (by decide +kernel) e129 rfl ?_
    refine xe_iconst (n := 1) (by decide +kernel) rfl ?_
    refine xe_iadd (by decide +kernel) rfl ?_
    obtain ⟨M130, e131, h⟩ := xbnd h
    refine xs_p (i := 155) (c := 4) (k := 14) (by decide +kernel) (by decide +kernel) (by decide +kernel) e131 rfl ?_
    refine xW_lv rfl (l := []) (xsb_of trivial (show [0, 1, 2, 3, 4].Nodup by decide)) ?_
    exact k40_61    h
-- ChangeHouse$Reader.predicateOf
def xr_48 : xj_mR := (4, yX4_predicateOf, cX4_predicateOf, 5, (Option.some Jvm.ClassFile.FieldType.int), 2, false, (4, 154), (1, 3))
set_option maxRecDepth 20000 in
theorem xr_48_e : xj_row 48 = some xr_48 := rfl
def f48_73   (f : Nat) (x4 : Int) (M : xj_M) : Option ((Nat ⊕ Int) × xj_M) := (some (.inr (x4), M))
theorem k48_73 {d f : Nat}     {x4 : Int} {M : xj_M} {R : (Nat ⊕ Int) × xj_M} (hx4 : xin x4) (h : f48_73   f x4 M = some R) : xW (d + 6) (none, d + 6, none) xr_48 (73, [(4, xI x4)], [], M) (xQti R) := by
  unfold f48_73 at h
  refine xe_ldn (ins := .iload 4) (len := 2) (by decide +kernel) rfl rfl rfl rfl ?_
  cases h
  exact xe_ret_i (ty := .int) (by decide +kernel) rfl rfl ⟨rfl, rfl, fun v hv => by cases hv; exact hx4⟩
def f48_40   (f : Nat) (x0 : Nat) (x1 : Int) (M : xj_M) : Option ((Nat ⊕ Int) × xj_M) := ((xq_gr 4 3 (x0) M).bind fun v101 => ((xq_gi 3 1 (v101) M).bind fun v103 => ((xq_gr 4 3 (x0) M).bind fun v105 => ((xq_gr 3 2 (v105) M).bind fun v107 => ((xq_sl (v107) (v103) (x1) M).bind fun M109 => ((xq_gr 4 3 (x0) M109).bind fun v111 => ((xq_gi 3 1 (v111) M109).bind fun v113 => ((xq_pi 3 1 (v111) (xwr ((v113) + (1))) M109).bind fun M115 => f48_73   f (v103) M115))))))))
theorem k48_40 {d f : Nat}     {x0 : Nat} {x1 : Int} {M : xj_M} {R : (Nat ⊕ Int) × xj_M} (hx1 : xiN x1) (h : f48_40   f x0 x1 M = some R) : xW (d + 6) (none, d + 6, none) xr_48 (40, [(0, xR_ x0), (1, xZ x1)], [], M) (xQti R) := by
  unfold f48_40 at h
  refine xe_alr (ins := .aload_n 0) (len := 1) (i := 0) (by decide +kernel) rfl rfl rfl rfl rfl ?_
  obtain ⟨v101, e102, h⟩ := xbnd h
  refine xs_gr (i := 147) (c := 4) (k := 3) (by decide +kernel) (by decide) (by decide +kernel) e102 rfl ?_
  obtain ⟨v103, e104, h⟩ := xbnd h
  refine xs_gi (i := 258) (c := 3) (k := 1) (by decide +kernel) (by decide) (by decide +kernel) e104 rfl ?_
  refine xe_isr (ins := .istore 4) (len := 2) (i := 4) (by decide +kernel) rfl rfl rfl (by decide) (xk_k (show ¬ (0 : Nat) = 4 by decide) (Or.inl (show ¬ (0 + 1 : Nat) = 4 by decide)) (xk_k (show ¬ (1 : Nat) = 4 by decide) (Or.inl (show ¬ (1 + 1 : Nat) = 4 by decide)) xk_n)) rfl ?_
  refine xe_alr (ins := .aload_n 0) (len := 1) (i := 0) (by decide +kernel) rfl rfl rfl rfl rfl ?_
  obtain ⟨v105, e106, h⟩ := xbnd h
  refine xs_gr (i := 147) (c := 4) (k := 3) (by decide +kernel) (by decide) (by decide +kernel) e106 rfl ?_
  obtain ⟨v107, e108, h⟩ := xbnd h
  refine xs_gr (i := 260) (c := 3) (k := 2) (by decide +kernel) (by decide) (by decide +kernel) e108 rfl ?_
  refine xe_ldn (ins := .iload 4) (len := 2) (by decide +kernel) rfl rfl rfl rfl ?_
  refine xe_ldn (ins := .lload_n 1) (len := 1) (by decide +kernel) rfl rfl rfl rfl ?_
  obtain ⟨M109, e110, h⟩ := xbnd h
  refine xs_last (by decide +kernel) (xq_gi_in e104) e110 rfl ?_
  refine xe_alr (ins := .aload_n 0) (len := 1) (i := 0) (by decide +kernel) rfl rfl rfl rfl rfl ?_
  obtain ⟨v111, e112, h⟩ := xbnd h
  refine xs_gr (i := 147) (c := 4) (k := 3) (by decide +kernel) (by decide) (by decide +kernel) e112 rfl ?_
  refine xe_dupr (by decide +kernel) rfl ?_
  obtain ⟨v113, e114, h⟩ := xbnd h
  refine xs_gi (i := 258) (c := 3) (k := 1) (by decide +kernel) (by decide) (by decide +kernel) e114 rfl ?_
  refine xe_iconst (n := 1) (by decide +kernel) rfl ?_
  refine xe_iadd (by decide +kernel) rfl ?_
  obtain ⟨M115, e116, h⟩ := xbnd h
  refine xs_p (i := 258) (c := 3) (k := 1) (by decide +kernel) (by decide +kernel) (by decide +kernel) e116 rfl ?_
  refine xW_lv rfl (l := [(4, xI (v103))]) (xsb_of ⟨rfl, trivial⟩ (show [4, 0, 1].Nodup by decide)) ?_
  exact k48_73   (xq_gi_in e104) h
def f48  (f : Nat) (a0 : Nat) (a1 : Int) (a2 : Int) (M : xj_M) : Option ((Nat ⊕ Int) × xj_M) := ((xq_gr 4 3 (a0) M).bind fun v117 => ((xq_is 3 (v117) M).bind fun _ => ((f20  f (v117) (a1) M).bind fun R121 => (if ¬ (R121.1) = (-1) then f48_73   f (R121.1) R121.2 else ((xq_gi 4 4 (a0) R121.2).bind fun v124 => (if (v124) = 0 then f48_73   f (R121.1) R121.2 else ((xq_gr 4 3 (a0) R121.2).bind fun v127 => ((xq_gi 3 1 (v127) R121.2).bind fun v129 => (if ¬ (v129) = (16) then f48_40   f (a0) (a1) R121.2 else ((xq_is 4 (a0) R121.2).bind fun _ => ((f36 f (a0) (a2) R121.2).bind fun R134 => xth R134 (fun _ => f48_40   f (a0) (a1) R134.2))))))))))))
theorem k48 {d f : Nat}   {a0 : Nat} {a1 : Int} {a2 : Int} {M : xj_M} {R : (Nat ⊕ Int) × xj_M} (ha1 : xiN a1) (ha2 : xin a2) (h : f48  f a0 a1 a2 M = some R) : xT (d + 7) 48 [xR_ a0, xZ a1, xI a2] M (xQti R) := by
  refine xT_m xr_48_e (X := (none, d + 6, none)) rfl (xa_1 (xR_cat _) (xa_2 (xZ_cat _) (xa_1 (xI_cat _) xa_n))) (by decide) ?_
  unfold f48 at h
  refine xe_alr (ins := .aload_n 0) (len := 1) (i := 0) (by decide +kernel) rfl rfl rfl rfl rfl ?_
  obtain ⟨v117, e118, h⟩ := xbnd h
  refine xs_gr (i := 147) (c := 4) (k := 3) (by decide +kernel) (by decide) (by decide +kernel) e118 rfl ?_
  refine xe_ldn (ins := .lload_n 1) (len := 1) (by decide +kernel) rfl rfl rfl rfl ?_
  obtain ⟨_, e120, h⟩ := xbnd h
  obtain ⟨R121, e119, h⟩ := xbnd h
  refine xs_cv (i := 254) (j := 20) (ar := [xZ (a1)]) (rest := []) (r2 := xr_20) (by decide +kernel) (by decide +kernel) (by decide +kernel) xr_20_e rfl (by decide) (by decide) e120 ?_
  refine xc_i (k20 (d := d + 5)  ha1 e119) rfl (fun hi122 => ?_)
  refine xe_isr (ins := .istore 4) (len := 2) (i := 4) (by decide +kernel) rfl rfl rfl (by decide) (xk_k (show ¬ (0 : Nat) = 4 by decide) (Or.inl (show ¬ (0 + 1 : Nat) = 4 by decide)) (xk_k (show ¬ (1 : Nat) = 4 by decide) (Or.inl (show ¬ (1 + 1 : Nat) = 4 by decide)) (xk_k (show ¬ (3 : Nat) = 4 by decide) (Or.inr (xI_cat _)) xk_n))) rfl ?_
  refine xe_ldn (ins := .iload 4) (len := 2) (by decide +kernel) rfl rfl rfl rfl ?_
  refine xe_iconst (n := -1) (by decide +kernel) rfl ?_
  refine xe_icmpne (off := 60) (t := 73) (by decide +kernel) (by decide) rfl hi122 (show xin (-1) by decide) (fun c123 => ?_) (fun c123 => ?_)
  · rw [if_pos c123] at h
    refine xW_lv rfl (l := [(4, xI (R121.1))]) (xsb_of ⟨rfl, trivial⟩ (show [4, 0, 1, 3].Nodup by decide)) ?_
    exact k48_73   hi122 h
  · rw [if_neg c123] at h
    refine xe_alr (ins := .aload_n 0) (len := 1) (i := 0) (by decide +kernel) rfl rfl rfl rfl rfl ?_
    obtain ⟨v124, e125, h⟩ := xbnd h
    refine xs_gi (i := 151) (c := 4) (k := 4) (by decide +kernel) (by decide) (by decide +kernel) e125 rfl ?_
    refine xe_ifeq (off := 53) (t := 73) (by decide +kernel) (by decide) rfl (xq_gi_in e125) (fun c126 => ?_) (fun c126 => ?_)
    · rw [if_pos c126] at h
      refine xW_lv rfl (l := [(4, xI (R121.1))]) (xsb_of ⟨rfl, trivial⟩ (show [4, 0, 1, 3].Nodup by decide)) ?_
      exact k48_73   hi122 h
    · rw [if_neg c126] at h
      refine xe_alr (ins := .aload_n 0) (len := 1) (i := 0) (by decide +kernel) rfl rfl rfl rfl rfl ?_
      obtain ⟨v127, e128, h⟩ := xbnd h
      refine xs_gr (i := 147) (c := 4) (k := 3) (by decide +kernel) (by decide) (by decide +kernel) e128 rfl ?_
      obtain ⟨v129, e130, h⟩ := xbnd h
      refine xs_gi (i := 258) (c := 3) (k := 1) (by decide +kernel) (by decide) (by decide +kernel) e130 rfl ?_
      refine xe_bipush (n := 16) (by decide +kernel) (by decide) rfl ?_
      refine xe_icmpne (off := 8) (t := 40) (by decide +kernel) (by decide) rfl (xq_gi_in e130) (show xin (16) by decide) (fun c131 => ?_) (fun c131 => ?_)
      · rw [if_pos c131] at h
        refine xW_lv rfl (l := [(0, xR_ (a0)), (1, xZ (a1))]) (xsb_of ⟨rfl, rfl, trivial⟩ (show [4, 0, 1, 3].Nodup by decide)) ?_
        exact k48_40   ha1 h
      · rw [if_neg c131] at h
        refine xe_alr (ins := .aload_n 0) (len := 1) (i := 0) (by decide +kernel) rfl rfl rfl rfl rfl ?_
        refine xe_ldn (ins := .iload_n 3) (len := 1) (by decide +kernel) rfl rfl rfl rfl ?_
        obtain ⟨_, e133, h⟩ := xbnd h
        obtain ⟨R134, e132, h⟩ := xbnd h
        refine xs2_cv (kd := 0) (jj := 36) (by decide) (i := 83) (j := 36) (ar := [xI (a2)]) (rest := []) (r2 := xr_36) (by decide +kernel) (by decide +kernel) (by decide +kernel) xr_36_e rfl (by decide) (by decide) e133 ?_
        refine xct_v (k36 (d := d + 0) ha2 e132) rfl (fun e1 g136 => ?_) (fun g136 => ?_)
        · rw [xth_l g136] at h; cases h; exact xK_thr rfl ⟨rfl, rfl, fun v hv => by cases hv⟩
        · rw [xth_r g136] at h
          refine xW_lv rfl (l := [(0, xR_ (a0)), (1, xZ (a1))]) (xsb_of ⟨rfl, rfl, trivial⟩ (show [4, 0, 1, 3].Nodup by decide)) ?_
          exact k48_40   ha1 h
-- ChangeHouse$Reader.readNumber
def xr_50 : xj_mR := (4, yX4_readNumber, cX4_readNumber, 3, (Option.some Jvm.ClassFile.FieldType.int), 1, false, (4, 166), (1, 3))
set_option maxRecDepth 20000 in
theorem xr_50_e : xj_row 50 = some xr_50 := rfl
def f50_67   (f : Nat) (x0 : Nat) (M : xj_M) : Option ((Nat ⊕ Int) × xj_M) := ((xq_gr 4 0 (x0) M).bind fun v101 => ((xq_gr 8 6 (v101) M).bind fun v103 => ((xq_gi 4 1 (x0) M).bind fun v105 => ((xq_al (v103) (v105) M).bind fun v107 => ((xq_is 4 (x0) M).bind fun _ => ((f37  f (x0) M).bind fun M111 => (some (.inr (xwr (v107)), M111))))))))
theorem k50_67 {d f : Nat}     {x0 : Nat} {M : xj_M} {R : (Nat ⊕ Int) × xj_M}  (h : f50_67   f x0 M = some R) : xW (d + 6) (none, d + 6, none) xr_50 (67, [(0, xR_ x0)], [], M) (xQti R) := by
  unfold f50_67 at h
  refine xe_alr (ins := .aload_n 0) (len := 1) (i := 0) (by decide +kernel) rfl rfl rfl rfl rfl ?_
  obtain ⟨v101, e102, h⟩ := xbnd h
  refine xs_gr (i := 43) (c := 4) (k := 0) (by decide +kernel) (by decide) (by decide +kernel) e102 rfl ?_
  obtain ⟨v103, e104, h⟩ := xbnd h
  refine xs_gr (i := 251) (c := 8) (k := 6) (by decide +kernel) (by decide) (by decide +kernel) e104 rfl ?_
  refine xe_alr (ins := .aload_n 0) (len := 1) (i := 0) (by decide +kernel) rfl rfl rfl rfl rfl ?_
  obtain ⟨v105, e106, h⟩ := xbnd h
  refine xs_gi (i := 54) (c := 4) (k := 1) (by decide +kernel) (by decide) (by decide +kernel) e106 rfl ?_
  obtain ⟨v107, e108, h⟩ := xbnd h
  refine xs_lald (by decide +kernel) (xq_gi_in e106) e108 rfl ?_
  refine xe_l2i (by decide +kernel) rfl ?_
  refine xe_isr (ins := .istore_n 2) (len := 1) (i := 2) (by decide +kernel) rfl rfl rfl (by decide) (xk_k (show ¬ (0 : Nat) = 2 by decide) (Or.inl (show ¬ (0 + 1 : Nat) = 2 by decide)) xk_n) rfl ?_
  refine xe_alr (ins := .aload_n 0) (len := 1) (i := 0) (by decide +kernel) rfl rfl rfl rfl rfl ?_
  obtain ⟨_, e110, h⟩ := xbnd h
  obtain ⟨M111, e109, h⟩ := xbnd h
  refine xs_cv (i := 73) (j := 37) (ar := []) (rest := []) (r2 := xr_37) (by decide +kernel) (by decide +kernel) (by decide +kernel) xr_37_e rfl (by decide) (by decide) e110 ?_
  refine xc_v (k37 (d := d + 5)   e109) rfl ?_
  refine xe_ldn (ins := .iload_n 2) (len := 1) (by decide +kernel) rfl rfl rfl rfl ?_
  cases h
  exact xe_ret_i (ty := .int) (by decide +kernel) rfl rfl ⟨rfl, rfl, fun v hv => by cases hv; exact (xin_wr _)⟩
def f50_51   (f : Nat) (x0 : Nat) (M : xj_M) : Option ((Nat ⊕ Int) × xj_M) := ((xq_gr 4 0 (x0) M).bind fun v113 => ((xq_gr 8 4 (v113) M).bind fun v115 => ((xq_gi 4 1 (x0) M).bind fun v117 => ((xq_ai 3 (v115) (v117) M).bind fun v119 => ((xq_is 4 (x0) M).bind fun _ => ((f36 f (x0) (v119) M).bind fun R123 => xth R123 (fun _ => f50_67   f (x0) R123.2)))))))
theorem k50_51 {d f : Nat}     {x0 : Nat} {M : xj_M} {R : (Nat ⊕ Int) × xj_M}  (h : f50_51   f x0 M = some R) : xW (d + 6) (none, d + 6, none) xr_50 (51, [(0, xR_ x0)], [], M) (xQti R) := by
  unfold f50_51 at h
  refine xe_alr (ins := .aload_n 0) (len := 1) (i := 0) (by decide +kernel) rfl rfl rfl rfl rfl ?_
  refine xe_alr (ins := .aload_n 0) (len := 1) (i := 0) (by decide +kernel) rfl rfl rfl rfl rfl ?_
  obtain ⟨v113, e114, h⟩ := xbnd h
  refine xs_gr (i := 43) (c := 4) (k := 0) (by decide +kernel) (by decide) (by decide +kernel) e114 rfl ?_
  obtain ⟨v115, e116, h⟩ := xbnd h
  refine xs_gr (i := 80) (c := 8) (k := 4) (by decide +kernel) (by decide) (by decide +kernel) e116 rfl ?_
  refine xe_alr (ins := .aload_n 0) (len := 1) (i := 0) (by decide +kernel) rfl rfl rfl rfl rfl ?_
  obtain ⟨v117, e118, h⟩ := xbnd h
  refine xs_gi (i := 54) (c := 4) (k := 1) (by decide +kernel) (by decide) (by decide +kernel) e118 rfl ?_
  obtain ⟨v119, e120, h⟩ := xbnd h
  refine xs_iald rfl (by decide +kernel) (xq_gi_in e118) e120 rfl ?_
  obtain ⟨_, e122, h⟩ := xbnd h
  obtain ⟨R123, e121, h⟩ := xbnd h
  refine xs2_cv (kd := 0) (jj := 36) (by decide) (i := 83) (j := 36) (ar := [xI (v119)]) (rest := []) (r2 := xr_36) (by decide +kernel) (by decide +kernel) (by decide +kernel) xr_36_e rfl (by decide) (by decide) e122 ?_
  refine xct_v (k36 (d := d + 0) (xq_ai_in e120) e121) rfl (fun e1 g125 => ?_) (fun g125 => ?_)
  · rw [xth_l g125] at h; cases h; exact xK_thr rfl ⟨rfl, rfl, fun v hv => by cases hv⟩
  · rw [xth_r g125] at h
    refine xW_lv rfl (l := [(0, xR_ (x0))]) (xsb_of ⟨rfl, trivial⟩ (show [0].Nodup by decide)) ?_
    exact k50_67    h
def f50  (f : Nat) (a0 : Nat) (a1 : Int) (M : xj_M) : Option ((Nat ⊕ Int) × xj_M) := ((xq_gr 4 0 (a0) M).bind fun v127 => ((xq_gr 8 3 (v127) M).bind fun v129 => ((xq_gi 4 1 (a0) M).bind fun v131 => ((xq_ai 3 (v129) (v131) M).bind fun v133 => (if ¬ (v133) = (4) then f50_51   f (a0) M else ((xq_gr 4 0 (a0) M).bind fun v136 => ((xq_gr 8 6 (v136) M).bind fun v138 => ((xq_gi 4 1 (a0) M).bind fun v140 => ((xq_al (v138) (v140) M).bind fun v142 => (if (v142) < (1) then f50_51   f (a0) M else ((xq_gr 4 0 (a0) M).bind fun v145 => ((xq_gr 8 6 (v145) M).bind fun v147 => ((xq_gi 4 1 (a0) M).bind fun v149 => ((xq_al (v147) (v149) M).bind fun v151 => (if (v151) ≤ (a1) then f50_67   f (a0) M else f50_51   f (a0) M)))))))))))))))
theorem k50 {d f : Nat}   {a0 : Nat} {a1 : Int} {M : xj_M} {R : (Nat ⊕ Int) × xj_M} (ha1 : xin a1) (h : f50  f a0 a1 M = some R) : xT (d + 7) 50 [xR_ a0, xI a1] M (xQti R) := by
  refine xT_m xr_50_e (X := (none, d + 6, none)) rfl (xa_1 (xR_cat _) (xa_1 (xI_cat _) xa_n)) (by decide) ?_
  unfold f50 at h
  refine xe_alr (ins := .aload_n 0) (len := 1) (i := 0) (by decide +kernel) rfl rfl rfl rfl rfl ?_
  obtain ⟨v127, e128, h⟩ := xbnd h
  refine xs_gr (i := 43) (c := 4) (k := 0) (by decide +kernel) (by decide) (by decide +kernel) e128 rfl ?_
  obtain ⟨v129, e130, h⟩ := xbnd h
  refine xs_gr (i := 51) (c := 8) (k := 3) (by decide +kernel) (by decide) (by decide +kernel) e130 rfl ?_
  refine xe_alr (ins := .aload_n 0) (len := 1) (i := 0) (by decide +kernel) rfl rfl rfl rfl rfl ?_
  obtain ⟨v131, e132, h⟩ := xbnd h
  refine xs_gi (i := 54) (c := 4) (k := 1) (by decide +kernel) (by decide) (by decide +kernel) e132 rfl ?_
  obtain ⟨v133, e134, h⟩ := xbnd h
  refine xs_iald rfl (by decide +kernel) (xq_gi_in e132) e134 rfl ?_
  refine xe_iconst (n := 4) (by decide +kernel) rfl ?_
  refine xe_icmpne (off := 38) (t := 51) (by decide +kernel) (by decide) rfl (xq_ai_in e134) (show xin (4) by decide) (fun c135 => ?_) (fun c135 => ?_)
  · rw [if_pos c135] at h
    refine xW_lv rfl (l := [(0, xR_ (a0))]) (xsb_of ⟨rfl, trivial⟩ (show [0, 1].Nodup by decide)) ?_
    exact k50_51    h
  · rw [if_neg c135] at h
    refine xe_alr (ins := .aload_n 0) (len := 1) (i := 0) (by decide +kernel) rfl rfl rfl rfl rfl ?_
    obtain ⟨v136, e137, h⟩ := xbnd h
    refine xs_gr (i := 43) (c := 4) (k := 0) (by decide +kernel) (by decide) (by decide +kernel) e137 rfl ?_
    obtain ⟨v138, e139, h⟩ := xbnd h
    refine xs_gr (i := 251) (c := 8) (k := 6) (by decide +kernel) (by decide) (by decide +kernel) e139 rfl ?_
    refine xe_alr (ins := .aload_n 0) (len := 1) (i := 0) (by decide +kernel) rfl rfl rfl rfl rfl ?_
    obtain ⟨v140, e141, h⟩ := xbnd h
    refine xs_gi (i := 54) (c := 4) (k := 1) (by decide +kernel) (by decide) (by decide +kernel) e141 rfl ?_
    obtain ⟨v142, e143, h⟩ := xbnd h
    refine xs_lald (by decide +kernel) (xq_gi_in e141) e143 rfl ?_
    refine xe_lconst (n := 1) (z := 1) (by decide +kernel) rfl rfl ?_
    refine xe_lcmp (by decide +kernel) rfl (xq_al_in e143) (show xiN (1) by decide) ?_
    refine xe_iflt (off := 21) (t := 51) (by decide +kernel) (by decide) rfl (xin_cmp8 _ _) (fun c144 => ?_) (fun c144 => ?_)
    · have c144 := xcmp8_lt.mp c144; rw [if_pos c144] at h
      refine xW_lv rfl (l := [(0, xR_ (a0))]) (xsb_of ⟨rfl, trivial⟩ (show [0, 1].Nodup by decide)) ?_
      exact k50_51    h
    · have c144 := (not_congr xcmp8_lt).mp c144; rw [if_neg c144] at h
      refine xe_alr (ins := .aload_n 0) (len := 1) (i := 0) (by decide +kernel) rfl rfl rfl rfl rfl ?_
      obtain ⟨v145, e146, h⟩ := xbnd h
      refine xs_gr (i := 43) (c := 4) (k := 0) (by decide +kernel) (by decide) (by decide +kernel) e146 rfl ?_
      obtain ⟨v147, e148, h⟩ := xbnd h
      refine xs_gr (i := 251) (c := 8) (k := 6) (by decide +kernel) (by decide) (by decide +kernel) e148 rfl ?_
      refine xe_alr (ins := .aload_n 0) (len := 1) (i := 0) (by decide +kernel) rfl rfl rfl rfl rfl ?_
      obtain ⟨v149, e150, h⟩ := xbnd h
      refine xs_gi (i := 54) (c := 4) (k := 1) (by decide +kernel) (by decide) (by decide +kernel) e150 rfl ?_
      obtain ⟨v151, e152, h⟩ := xbnd h
      refine xs_lald (by decide +kernel) (xq_gi_in e150) e152 rfl ?_
      refine xe_ldn (ins := .iload_n 1) (len := 1) (by decide +kernel) rfl rfl rfl rfl ?_
      refine xe_i2l (by decide +kernel) rfl ha1 ?_
      refine xe_lcmp (by decide +kernel) rfl (xq_al_in e152) (xin_N ha1) ?_
      refine xe_ifle (off := 19) (t := 67) (by decide +kernel) (by decide) rfl (xin_cmp8 _ _) (fun c153 => ?_) (fun c153 => ?_)
      · have c153 := xcmp8_le.mp c153; rw [if_pos c153] at h
        refine xW_lv rfl (l := [(0, xR_ (a0))]) (xsb_of ⟨rfl, trivial⟩ (show [0, 1].Nodup by decide)) ?_
        exact k50_67    h
      · have c153 := (not_congr xcmp8_le).mp c153; rw [if_neg c153] at h
        refine xW_lv rfl (l := [(0, xR_ (a0))]) (xsb_of ⟨rfl, trivial⟩ (show [0, 1].Nodup by decide)) ?_
        exact k50_51    h
-- ChangeHouse$Reader.readCellName
def xr_52 : xj_mR := (4, yX4_readCellName, cX4_readCellName, 2, (Option.some Jvm.ClassFile.FieldType.int), 0, false, (5, 92), (1, 3))
set_option maxRecDepth 20000 in
theorem xr_52_e : xj_row 52 = some xr_52 := rfl
def f52_51   (f : Nat) (x0 : Nat) (M : xj_M) : Option ((Nat ⊕ Int) × xj_M) := ((xq_gr 4 0 (x0) M).bind fun v101 => ((xq_gr 8 7 (v101) M).bind fun v103 => ((xq_gi 4 1 (x0) M).bind fun v105 => ((xq_al (v103) (v105) M).bind fun v107 => ((xq_is 4 (x0) M).bind fun _ => ((f37  f (x0) M).bind fun M111 => (some (.inr (xwr (v107)), M111))))))))
theorem k52_51 {d f : Nat}     {x0 : Nat} {M : xj_M} {R : (Nat ⊕ Int) × xj_M}  (h : f52_51   f x0 M = some R) : xW (d + 6) (none, d + 6, none) xr_52 (51, [(0, xR_ x0)], [], M) (xQti R) := by
  unfold f52_51 at h
  refine xe_alr (ins := .aload_n 0) (len := 1) (i := 0) (by decide +kernel) rfl rfl rfl rfl rfl ?_
  obtain ⟨v101, e102, h⟩ := xbnd h
  refine xs_gr (i := 43) (c := 4) (k := 0) (by decide +kernel) (by decide) (by decide +kernel) e102 rfl ?_
  obtain ⟨v103, e104, h⟩ := xbnd h
  refine xs_gr (i := 237) (c := 8) (k := 7) (by decide +kernel) (by decide) (by decide +kernel) e104 rfl ?_
  refine xe_alr (ins := .aload_n 0) (len := 1) (i := 0) (by decide +kernel) rfl rfl rfl rfl rfl ?_
  obtain ⟨v105, e106, h⟩ := xbnd h
  refine xs_gi (i := 54) (c := 4) (k := 1) (by decide +kernel) (by decide) (by decide +kernel) e106 rfl ?_
  obtain ⟨v107, e108, h⟩ := xbnd h
  refine xs_lald (by decide +kernel) (xq_gi_in e106) e108 rfl ?_
  refine xe_l2i (by decide +kernel) rfl ?_
  refine xe_isr (ins := .istore_n 1) (len := 1) (i := 1) (by decide +kernel) rfl rfl rfl (by decide) (xk_k (show ¬ (0 : Nat) = 1 by decide) (Or.inr (xR_cat _)) xk_n) rfl ?_
  refine xe_alr (ins := .aload_n 0) (len := 1) (i := 0) (by decide +kernel) rfl rfl rfl rfl rfl ?_
  obtain ⟨_, e110, h⟩ := xbnd h
  obtain ⟨M111, e109, h⟩ := xbnd h
  refine xs_cv (i := 73) (j := 37) (ar := []) (rest := []) (r2 := xr_37) (by decide +kernel) (by decide +kernel) (by decide +kernel) xr_37_e rfl (by decide) (by decide) e110 ?_
  refine xc_v (k37 (d := d + 5)   e109) rfl ?_
  refine xe_ldn (ins := .iload_n 1) (len := 1) (by decide +kernel) rfl rfl rfl rfl ?_
  cases h
  exact xe_ret_i (ty := .int) (by decide +kernel) rfl rfl ⟨rfl, rfl, fun v hv => by cases hv; exact (xin_wr _)⟩
def f52_35   (f : Nat) (x0 : Nat) (M : xj_M) : Option ((Nat ⊕ Int) × xj_M) := ((xq_gr 4 0 (x0) M).bind fun v113 => ((xq_gr 8 4 (v113) M).bind fun v115 => ((xq_gi 4 1 (x0) M).bind fun v117 => ((xq_ai 3 (v115) (v117) M).bind fun v119 => ((xq_is 4 (x0) M).bind fun _ => ((f36 f (x0) (v119) M).bind fun R123 => xth R123 (fun _ => f52_51   f (x0) R123.2)))))))
theorem k52_35 {d f : Nat}     {x0 : Nat} {M : xj_M} {R : (Nat ⊕ Int) × xj_M}  (h : f52_35   f x0 M = some R) : xW (d + 6) (none, d + 6, none) xr_52 (35, [(0, xR_ x0)], [], M) (xQti R) := by
  unfold f52_35 at h
  refine xe_alr (ins := .aload_n 0) (len := 1) (i := 0) (by decide +kernel) rfl rfl rfl rfl rfl ?_
  refine xe_alr (ins := .aload_n 0) (len := 1) (i := 0) (by decide +kernel) rfl rfl rfl rfl rfl ?_
  obtain ⟨v113, e114, h⟩ := xbnd h
  refine xs_gr (i := 43) (c := 4) (k := 0) (by decide +kernel) (by decide) (by decide +kernel) e114 rfl ?_
  obtain ⟨v115, e116, h⟩ := xbnd h
  refine xs_gr (i := 80) (c := 8) (k := 4) (by decide +kernel) (by decide) (by decide +kernel) e116 rfl ?_
  refine xe_alr (ins := .aload_n 0) (len := 1) (i := 0) (by decide +kernel) rfl rfl rfl rfl rfl ?_
  obtain ⟨v117, e118, h⟩ := xbnd h
  refine xs_gi (i := 54) (c := 4) (k := 1) (by decide +kernel) (by decide) (by decide +kernel) e118 rfl ?_
  obtain ⟨v119, e120, h⟩ := xbnd h
  refine xs_iald rfl (by decide +kernel) (xq_gi_in e118) e120 rfl ?_
  obtain ⟨_, e122, h⟩ := xbnd h
  obtain ⟨R123, e121, h⟩ := xbnd h
  refine xs2_cv (kd := 0) (jj := 36) (by decide) (i := 83) (j := 36) (ar := [xI (v119)]) (rest := []) (r2 := xr_36) (by decide +kernel) (by decide +kernel) (by decide +kernel) xr_36_e rfl (by decide) (by decide) e122 ?_
  refine xct_v (k36 (d := d + 0) (xq_ai_in e120) e121) rfl (fun e1 g125 => ?_) (fun g125 => ?_)
  · rw [xth_l g125] at h; cases h; exact xK_thr rfl ⟨rfl, rfl, fun v hv => by cases hv⟩
  · rw [xth_r g125] at h
    refine xW_lv rfl (l := [(0, xR_ (x0))]) (xsb_of ⟨rfl, trivial⟩ (show [0].Nodup by decide)) ?_
    exact k52_51    h
def f52  (f : Nat) (a0 : Nat) (M : xj_M) : Option ((Nat ⊕ Int) × xj_M) := ((xq_gr 4 0 (a0) M).bind fun v127 => ((xq_gr 8 3 (v127) M).bind fun v129 => ((xq_gi 4 1 (a0) M).bind fun v131 => ((xq_ai 3 (v129) (v131) M).bind fun v133 => (if ¬ (v133) = (2) then f52_35   f (a0) M else ((xq_gr 4 0 (a0) M).bind fun v136 => ((xq_gr 8 7 (v136) M).bind fun v138 => ((xq_gi 4 1 (a0) M).bind fun v140 => ((xq_al (v138) (v140) M).bind fun v142 => (if ¬ (v142) = (-1) then f52_51   f (a0) M else f52_35   f (a0) M))))))))))
theorem k52 {d f : Nat}   {a0 : Nat} {M : xj_M} {R : (Nat ⊕ Int) × xj_M}  (h : f52  f a0 M = some R) : xT (d + 7) 52 [xR_ a0] M (xQti R) := by
  refine xT_m xr_52_e (X := (none, d + 6, none)) rfl (xa_1 (xR_cat _) xa_n) (by decide) ?_
  unfold f52 at h
  refine xe_alr (ins := .aload_n 0) (len := 1) (i := 0) (by decide +kernel) rfl rfl rfl rfl rfl ?_
  obtain ⟨v127, e128, h⟩ := xbnd h
  refine xs_gr (i := 43) (c := 4) (k := 0) (by decide +kernel) (by decide) (by decide +kernel) e128 rfl ?_
  obtain ⟨v129, e130, h⟩ := xbnd h
  refine xs_gr (i := 51) (c := 8) (k := 3) (by decide +kernel) (by decide) (by decide +kernel) e130 rfl ?_
  refine xe_alr (ins := .aload_n 0) (len := 1) (i := 0) (by decide +kernel) rfl rfl rfl rfl rfl ?_
  obtain ⟨v131, e132, h⟩ := xbnd h
  refine xs_gi (i := 54) (c := 4) (k := 1) (by decide +kernel) (by decide) (by decide +kernel) e132 rfl ?_
  obtain ⟨v133, e134, h⟩ := xbnd h
  refine xs_iald rfl (by decide +kernel) (xq_gi_in e132) e134 rfl ?_
  refine xe_iconst (n := 2) (by decide +kernel) rfl ?_
  refine xe_icmpne (off := 22) (t := 35) (by decide +kernel) (by decide) rfl (xq_ai_in e134) (show xin (2) by decide) (fun c135 => ?_) (fun c135 => ?_)
  · rw [if_pos c135] at h
    refine xW_lv rfl (l := [(0, xR_ (a0))]) (xsb_of ⟨rfl, trivial⟩ (show [0].Nodup by decide)) ?_
    exact k52_35    h
  · rw [if_neg c135] at h
    refine xe_alr (ins := .aload_n 0) (len := 1) (i := 0) (by decide +kernel) rfl rfl rfl rfl rfl ?_
    obtain ⟨v136, e137, h⟩ := xbnd h
    refine xs_gr (i := 43) (c := 4) (k := 0) (by decide +kernel) (by decide) (by decide +kernel) e137 rfl ?_
    obtain ⟨v138, e139, h⟩ := xbnd h
    refine xs_gr (i := 237) (c := 8) (k := 7) (by decide +kernel) (by decide) (by decide +kernel) e139 rfl ?_
    refine xe_alr (ins := .aload_n 0) (len := 1) (i := 0) (by decide +kernel) rfl rfl rfl rfl rfl ?_
    obtain ⟨v140, e141, h⟩ := xbnd h
    refine xs_gi (i := 54) (c := 4) (k := 1) (by decide +kernel) (by decide) (by decide +kernel) e141 rfl ?_
    obtain ⟨v142, e143, h⟩ := xbnd h
    refine xs_lald (by decide +kernel) (xq_gi_in e141) e143 rfl ?_
    refine xe_ldc2 (i := 240) (n := -1) (by decide +kernel) (by decide +kernel) rfl ?_
    refine xe_lcmp (by decide +kernel) rfl (xq_al_in e143) (show xiN (-1) by decide) ?_
    refine xe_ifne (off := 19) (t := 51) (by decide +kernel) (by decide) rfl (xin_cmp8 _ _) (fun c144 => ?_) (fun c144 => ?_)
    · have c144 := xcmp8_ne.mp c144; rw [if_pos c144] at h
      refine xW_lv rfl (l := [(0, xR_ (a0))]) (xsb_of ⟨rfl, trivial⟩ (show [0].Nodup by decide)) ?_
      exact k52_51    h
    · have c144 := (not_congr xcmp8_ne).mp c144; rw [if_neg c144] at h
      refine xW_lv rfl (l := [(0, xR_ (a0))]) (xsb_of ⟨rfl, trivial⟩ (show [0].Nodup by decide)) ?_
      exact k52_35    h
-- ChangeHouse$Reader.strength
def xr_55 : xj_mR := (4, yX4_strength, cX4_strength, 1, (Option.some Jvm.ClassFile.FieldType.int), 1, false, (5, 80), (1, 3))
set_option maxRecDepth 20000 in
theorem xr_55_e : xj_row 55 = some xr_55 := rfl
def f55_18   (f : Nat)  (M : xj_M) : Option (Int × xj_M) := (some (2, M))
theorem k55_18 {d f : Nat}      {M : xj_M} {R : Int × xj_M}  (h : f55_18   f  M = some R) : xW (d + 0) (none, d + 0, none) xr_55 (18, [], [], M) (xQi R) := by
  unfold f55_18 at h
  refine xe_iconst (n := 2) (by decide +kernel) rfl ?_
  cases h
  exact xe_ret_i (ty := .int) (by decide +kernel) rfl rfl ⟨rfl, rfl, (show xin (2) by decide)⟩
def f55_37   (f : Nat) (y0 : Int) (M : xj_M) : Option (Int × xj_M) := (some (y0, M))
theorem k55_37 {d f : Nat}     {y0 : Int} {M : xj_M} {R : Int × xj_M} (hy0 : xin y0) (h : f55_37   f y0 M = some R) : xW (d + 0) (none, d + 0, none) xr_55 (37, [], [xI y0], M) (xQi R) := by
  unfold f55_37 at h
  cases h
  exact xe_ret_i (ty := .int) (by decide +kernel) rfl rfl ⟨rfl, rfl, hy0⟩
def f55_32   (f : Nat)  (M : xj_M) : Option (Int × xj_M) := f55_37   f (1) M
theorem k55_32 {d f : Nat}      {M : xj_M} {R : Int × xj_M}  (h : f55_32   f  M = some R) : xW (d + 0) (none, d + 0, none) xr_55 (32, [], [], M) (xQi R) := by
  unfold f55_32 at h
  refine xe_iconst (n := 1) (by decide +kernel) rfl ?_
  refine xe_goto (off := 4) (nx := 37) (by decide +kernel) (by decide) ?_
  refine xW_lv rfl (l := []) (xsb_of trivial (show [].Nodup by decide)) ?_
  exact k55_37   (show xin (1) by decide) h
def f55  (f : Nat) (a0 : Int) (M : xj_M) : Option (Int × xj_M) := (if (a0) = (42) then f55_18   f  M else (if (a0) = (47) then f55_18   f  M else (if ¬ (a0) = (37) then (if (a0) = (43) then f55_32   f  M else (if ¬ (a0) = (45) then f55_37   f (0) M else f55_32   f  M)) else f55_18   f  M)))
theorem k55 {d f : Nat}   {a0 : Int} {M : xj_M} {R : Int × xj_M} (ha0 : xin a0) (h : f55  f a0 M = some R) : xT (d + 1) 55 [xI a0] M (xQi R) := by
  refine xT_m xr_55_e (X := (none, d + 0, none)) rfl (xa_1 (xI_cat _) xa_n) (by decide) ?_
  unfold f55 at h
  refine xe_ldn (ins := .iload_n 0) (len := 1) (by decide +kernel) rfl rfl rfl rfl ?_
  refine xe_bipush (n := 42) (by decide +kernel) (by decide) rfl ?_
  refine xe_icmpeq (off := 15) (t := 18) (by decide +kernel) (by decide) rfl ha0 (show xin (42) by decide) (fun c101 => ?_) (fun c101 => ?_)
  · rw [if_pos c101] at h
    refine xW_lv rfl (l := []) (xsb_of trivial (show [0].Nodup by decide)) ?_
    exact k55_18    h
  · rw [if_neg c101] at h
    refine xe_ldn (ins := .iload_n 0) (len := 1) (by decide +kernel) rfl rfl rfl rfl ?_
    refine xe_bipush (n := 47) (by decide +kernel) (by decide) rfl ?_
    refine xe_icmpeq (off := 9) (t := 18) (by decide +kernel) (by decide) rfl ha0 (show xin (47) by decide) (fun c102 => ?_) (fun c102 => ?_)
    · rw [if_pos c102] at h
      refine xW_lv rfl (l := []) (xsb_of trivial (show [0].Nodup by decide)) ?_
      exact k55_18    h
    · rw [if_neg c102] at h
      refine xe_ldn (ins := .iload_n 0) (len := 1) (by decide +kernel) rfl rfl rfl rfl ?_
      refine xe_bipush (n := 37) (by decide +kernel) (by decide) rfl ?_
      refine xe_icmpne (off := 5) (t := 20) (by decide +kernel) (by decide) rfl ha0 (show xin (37) by decide) (fun c103 => ?_) (fun c103 => ?_)
      · rw [if_pos c103] at h
        refine xe_ldn (ins := .iload_n 0) (len := 1) (by decide +kernel) rfl rfl rfl rfl ?_
        refine xe_bipush (n := 43) (by decide +kernel) (by decide) rfl ?_
        refine xe_icmpeq (off := 9) (t := 32) (by decide +kernel) (by decide) rfl ha0 (show xin (43) by decide) (fun c104 => ?_) (fun c104 => ?_)
        · rw [if_pos c104] at h
          refine xW_lv rfl (l := []) (xsb_of trivial (show [0].Nodup by decide)) ?_
          exact k55_32    h
        · rw [if_neg c104] at h
          refine xe_ldn (ins := .iload_n 0) (len := 1) (by decide +kernel) rfl rfl rfl rfl ?_
          refine xe_bipush (n := 45) (by decide +kernel) (by decide) rfl ?_
          refine xe_icmpne (off := 7) (t := 36) (by decide +kernel) (by decide) rfl ha0 (show xin (45) by decide) (fun c105 => ?_) (fun c105 => ?_)
          · rw [if_pos c105] at h
            refine xe_iconst (n := 0) (by decide +kernel) rfl ?_
            refine xW_lv rfl (l := []) (xsb_of trivial (show [0].Nodup by decide)) ?_
            exact k55_37   (show xin (0) by decide) h
          · rw [if_neg c105] at h
            refine xW_lv rfl (l := []) (xsb_of trivial (show [0].Nodup by decide)) ?_
            exact k55_32    h
      · rw [if_neg c103] at h
        refine xW_lv rfl (l := []) (xsb_of trivial (show [0].Nodup by decide)) ?_
        exact k55_18    h
-- ChangeHouse$Reader.emit
def xr_56 : xj_mR := (4, yX4_emit, cX4_emit, 4, (Option.none : Option Jvm.ClassFile.FieldType), 2, false, (5, 97), (1, 3))
set_option maxRecDepth 20000 in
theorem xr_56_e : xj_row 56 = some xr_56 := rfl
def f56_42   (f : Nat)  (M : xj_M) : Option (xj_M) := (some M)
theorem k56_42 {d f : Nat}      {M : xj_M} {R : xj_M}  (h : f56_42   f  M = some R) : xW (d + 0) (none, d + 0, none) xr_56 (42, [], [], M) (xQv R) := by
  unfold f56_42 at h
  cases h
  exact xe_ret_v (by decide +kernel) rfl ⟨rfl, rfl⟩
def f56  (f : Nat) (a0 : Nat) (a1 : Int) (a2 : Int) (M : xj_M) : Option (xj_M) := ((xq_gi 4 9 (a0) M).bind fun v101 => ((xq_gr 4 7 (a0) M).bind fun v103 => ((xq_ln (v103) M).bind fun v105 => (if (v105) ≤ (v101) then f56_42   f  M else ((xq_gr 4 7 (a0) M).bind fun v108 => ((xq_gi 4 9 (a0) M).bind fun v110 => ((xq_si (v108) (v110) (a1) M).bind fun M112 => ((xq_gr 4 8 (a0) M112).bind fun v114 => ((xq_gi 4 9 (a0) M112).bind fun v116 => ((xq_sl (v114) (v116) (a2) M112).bind fun M118 => ((xq_gi 4 9 (a0) M118).bind fun v120 => ((xq_pi 4 9 (a0) (xwr ((v120) + (1))) M118).bind fun M122 => f56_42   f  M122))))))))))))
theorem k56 {d f : Nat}   {a0 : Nat} {a1 : Int} {a2 : Int} {M : xj_M} {R : xj_M} (ha1 : xin a1) (ha2 : xiN a2) (h : f56  f a0 a1 a2 M = some R) : xT (d + 1) 56 [xR_ a0, xI a1, xZ a2] M (xQv R) := by
  refine xT_m xr_56_e (X := (none, d + 0, none)) rfl (xa_1 (xR_cat _) (xa_1 (xI_cat _) (xa_2 (xZ_cat _) xa_n))) (by decide) ?_
  unfold f56 at h
  refine xe_alr (ins := .aload_n 0) (len := 1) (i := 0) (by decide +kernel) rfl rfl rfl rfl rfl ?_
  obtain ⟨v101, e102, h⟩ := xbnd h
  refine xs_gi (i := 90) (c := 4) (k := 9) (by decide +kernel) (by decide) (by decide +kernel) e102 rfl ?_
  refine xe_alr (ins := .aload_n 0) (len := 1) (i := 0) (by decide +kernel) rfl rfl rfl rfl rfl ?_
  obtain ⟨v103, e104, h⟩ := xbnd h
  refine xs_gr (i := 9) (c := 4) (k := 7) (by decide +kernel) (by decide) (by decide +kernel) e104 rfl ?_
  obtain ⟨v105, e106, h⟩ := xbnd h
  refine xs_alen rfl (by decide +kernel) e106 rfl ?_
  refine xe_icmpge (off := 33) (t := 42) (by decide +kernel) (by decide) rfl (xq_gi_in e102) (xq_ln_in e106) (fun c107 => ?_) (fun c107 => ?_)
  · rw [if_pos c107] at h
    refine xW_lv rfl (l := []) (xsb_of trivial (show [0, 1, 2].Nodup by decide)) ?_
    exact k56_42    h
  · rw [if_neg c107] at h
    refine xe_alr (ins := .aload_n 0) (len := 1) (i := 0) (by decide +kernel) rfl rfl rfl rfl rfl ?_
    obtain ⟨v108, e109, h⟩ := xbnd h
    refine xs_gr (i := 9) (c := 4) (k := 7) (by decide +kernel) (by decide) (by decide +kernel) e109 rfl ?_
    refine xe_alr (ins := .aload_n 0) (len := 1) (i := 0) (by decide +kernel) rfl rfl rfl rfl rfl ?_
    obtain ⟨v110, e111, h⟩ := xbnd h
    refine xs_gi (i := 90) (c := 4) (k := 9) (by decide +kernel) (by decide) (by decide +kernel) e111 rfl ?_
    refine xe_ldn (ins := .iload_n 1) (len := 1) (by decide +kernel) rfl rfl rfl rfl ?_
    obtain ⟨M112, e113, h⟩ := xbnd h
    refine xs_iast (by decide +kernel) (xq_gi_in e111) e113 rfl ?_
    refine xe_alr (ins := .aload_n 0) (len := 1) (i := 0) (by decide +kernel) rfl rfl rfl rfl rfl ?_
    obtain ⟨v114, e115, h⟩ := xbnd h
    refine xs_gr (i := 15) (c := 4) (k := 8) (by decide +kernel) (by decide) (by decide +kernel) e115 rfl ?_
    refine xe_alr (ins := .aload_n 0) (len := 1) (i := 0) (by decide +kernel) rfl rfl rfl rfl rfl ?_
    obtain ⟨v116, e117, h⟩ := xbnd h
    refine xs_gi (i := 90) (c := 4) (k := 9) (by decide +kernel) (by decide) (by decide +kernel) e117 rfl ?_
    refine xe_ldn (ins := .lload_n 2) (len := 1) (by decide +kernel) rfl rfl rfl rfl ?_
    obtain ⟨M118, e119, h⟩ := xbnd h
    refine xs_last (by decide +kernel) (xq_gi_in e117) e119 rfl ?_
    refine xe_alr (ins := .aload_n 0) (len := 1) (i := 0) (by decide +kernel) rfl rfl rfl rfl rfl ?_
    refine xe_dupr (by decide +kernel) rfl ?_
    obtain ⟨v120, e121, h⟩ := xbnd h
    refine xs_gi (i := 90) (c := 4) (k := 9) (by decide +kernel) (by decide) (by decide +kernel) e121 rfl ?_
    refine xe_iconst (n := 1) (by decide +kernel) rfl ?_
    refine xe_iadd (by decide +kernel) rfl ?_
    obtain ⟨M122, e123, h⟩ := xbnd h
    refine xs_p (i := 90) (c := 4) (k := 9) (by decide +kernel) (by decide +kernel) (by decide +kernel) e123 rfl ?_
    refine xW_lv rfl (l := []) (xsb_of trivial (show [0, 1, 2].Nodup by decide)) ?_
    exact k56_42    h
-- ChangeHouse$Reader.push
def xr_57 : xj_mR := (4, yX4_push, cX4_push, 2, (Option.none : Option Jvm.ClassFile.FieldType), 1, false, (5, 84), (1, 3))
set_option maxRecDepth 20000 in
theorem xr_57_e : xj_row 57 = some xr_57 := rfl
def f57_29   (f : Nat)  (M : xj_M) : Option (xj_M) := (some M)
theorem k57_29 {d f : Nat}      {M : xj_M} {R : xj_M}  (h : f57_29   f  M = some R) : xW (d + 0) (none, d + 0, none) xr_57 (29, [], [], M) (xQv R) := by
  unfold f57_29 at h
  cases h
  exact xe_ret_v (by decide +kernel) rfl ⟨rfl, rfl⟩
def f57  (f : Nat) (a0 : Nat) (a1 : Int) (M : xj_M) : Option (xj_M) := ((xq_gi 4 12 (a0) M).bind fun v101 => (if (32) ≤ (v101) then f57_29   f  M else ((xq_gr 4 10 (a0) M).bind fun v104 => ((xq_gi 4 12 (a0) M).bind fun v106 => ((xq_si (v104) (v106) (a1) M).bind fun M108 => ((xq_gi 4 12 (a0) M108).bind fun v110 => ((xq_pi 4 12 (a0) (xwr ((v110) + (1))) M108).bind fun M112 => f57_29   f  M112)))))))
theorem k57 {d f : Nat}   {a0 : Nat} {a1 : Int} {M : xj_M} {R : xj_M} (ha1 : xin a1) (h : f57  f a0 a1 M = some R) : xT (d + 1) 57 [xR_ a0, xI a1] M (xQv R) := by
  refine xT_m xr_57_e (X := (none, d + 0, none)) rfl (xa_1 (xR_cat _) (xa_1 (xI_cat _) xa_n)) (by decide) ?_
  unfold f57 at h
  refine xe_alr (ins := .aload_n 0) (len := 1) (i := 0) (by decide +kernel) rfl rfl rfl rfl rfl ?_
  obtain ⟨v101, e102, h⟩ := xbnd h
  refine xs_gi (i := 274) (c := 4) (k := 12) (by decide +kernel) (by decide) (by decide +kernel) e102 rfl ?_
  refine xe_bipush (n := 32) (by decide +kernel) (by decide) rfl ?_
  refine xe_icmpge (off := 23) (t := 29) (by decide +kernel) (by decide) rfl (xq_gi_in e102) (show xin (32) by decide) (fun c103 => ?_) (fun c103 => ?_)
  · rw [if_pos c103] at h
    refine xW_lv rfl (l := []) (xsb_of trivial (show [0, 1].Nodup by decide)) ?_
    exact k57_29    h
  · rw [if_neg c103] at h
    refine xe_alr (ins := .aload_n 0) (len := 1) (i := 0) (by decide +kernel) rfl rfl rfl rfl rfl ?_
    obtain ⟨v104, e105, h⟩ := xbnd h
    refine xs_gr (i := 19) (c := 4) (k := 10) (by decide +kernel) (by decide) (by decide +kernel) e105 rfl ?_
    refine xe_alr (ins := .aload_n 0) (len := 1) (i := 0) (by decide +kernel) rfl rfl rfl rfl rfl ?_
    obtain ⟨v106, e107, h⟩ := xbnd h
    refine xs_gi (i := 274) (c := 4) (k := 12) (by decide +kernel) (by decide) (by decide +kernel) e107 rfl ?_
    refine xe_ldn (ins := .iload_n 1) (len := 1) (by decide +kernel) rfl rfl rfl rfl ?_
    obtain ⟨M108, e109, h⟩ := xbnd h
    refine xs_iast (by decide +kernel) (xq_gi_in e107) e109 rfl ?_
    refine xe_alr (ins := .aload_n 0) (len := 1) (i := 0) (by decide +kernel) rfl rfl rfl rfl rfl ?_
    refine xe_dupr (by decide +kernel) rfl ?_
    obtain ⟨v110, e111, h⟩ := xbnd h
    refine xs_gi (i := 274) (c := 4) (k := 12) (by decide +kernel) (by decide) (by decide +kernel) e111 rfl ?_
    refine xe_iconst (n := 1) (by decide +kernel) rfl ?_
    refine xe_iadd (by decide +kernel) rfl ?_
    obtain ⟨M112, e113, h⟩ := xbnd h
    refine xs_p (i := 274) (c := 4) (k := 12) (by decide +kernel) (by decide +kernel) (by decide +kernel) e113 rfl ?_
    refine xW_lv rfl (l := []) (xsb_of trivial (show [0, 1].Nodup by decide)) ?_
    exact k57_29    h
-- ChangeHouse$Reader.countBrackets
def xr_58 : xj_mR := (4, yX4_countBrackets, cX4_countBrackets, 3, (Option.some Jvm.ClassFile.FieldType.int), 0, false, (5, 77), (1, 3))
set_option maxRecDepth 20000 in
theorem xr_58_e : xj_row 58 = some xr_58 := rfl
def f58_30  (r4 : Nat → Int → Int → xj_M → Option (Int × xj_M)) (f : Nat) (x0 : Nat) (x2 : Int) (y0 : Int) (y1 : Int) (M : xj_M) : Option (Int × xj_M) := r4 (x0) (xwr ((y1) + (y0))) (xwr ((x2) + (1))) M
theorem k58_30 {d f : Nat}  {r4 : Nat → Int → Int → xj_M → Option (Int × xj_M)}  (hr4 : ∀ {x0 : Nat} {x1 : Int} {x2 : Int} {M : xj_M} {R : Int × xj_M}, xin x1 → xin x2 → r4 x0 x1 x2 M = some R → xW (d + 1) (none, d + 1, none) xr_58 (4, [(0, xR_ x0), (1, xI x1), (2, xI x2)], [], M) (xQi R)) {x0 : Nat} {x2 : Int} {y0 : Int} {y1 : Int} {M : xj_M} {R : Int × xj_M} (hx2 : xin x2) (hy0 : xin y0) (hy1 : xin y1) (h : f58_30  r4 f x0 x2 y0 y1 M = some R) : xW (d + 1) (none, d + 1, none) xr_58 (30, [(0, xR_ x0), (2, xI x2)], [xI y0, xI y1], M) (xQi R) := by
  unfold f58_30 at h
  refine xe_iadd (by decide +kernel) rfl ?_
  refine xe_isr (ins := .istore_n 1) (len := 1) (i := 1) (by decide +kernel) rfl rfl rfl (by decide) (xk_k (show ¬ (0 : Nat) = 1 by decide) (Or.inr (xR_cat _)) (xk_k (show ¬ (2 : Nat) = 1 by decide) (Or.inl (show ¬ (2 + 1 : Nat) = 1 by decide)) xk_n)) rfl ?_
  refine xe_iincr (i := 2) (n := 1) (by decide +kernel) (by decide) rfl (xk_k (show ¬ (1 : Nat) = 2 by decide) (Or.inr (xI_cat _)) (xk_k (show ¬ (0 : Nat) = 2 by decide) (Or.inl (show ¬ (0 + 1 : Nat) = 2 by decide)) (xk_d rfl xk_n))) rfl ?_
  refine xe_goto (off := -31) (nx := 4) (by decide +kernel) (by decide) ?_
  refine xW_lv rfl (l := [(0, xR_ (x0)), (1, xI (xwr ((y1) + (y0)))), (2, xI (xwr ((x2) + (1))))]) (xsb_of ⟨rfl, rfl, rfl, trivial⟩ (show [2, 1, 0].Nodup by decide)) ?_
  exact hr4 (xin_wr _) (xin_wr _) h
def f58_4b  (r4 : Nat → Int → Int → xj_M → Option (Int × xj_M)) (f : Nat) (x0 : Nat) (x1 : Int) (x2 : Int) (M : xj_M) : Option (Int × xj_M) := ((xq_gi 4 12 (x0) M).bind fun v101 => (if (v101) ≤ (x2) then (some (x1, M)) else ((xq_gr 4 10 (x0) M).bind fun v104 => ((xq_ai 3 (v104) (x2) M).bind fun v106 => ((f55  f (v106) M).bind fun R109 => (if ¬ (R109.1) = 0 then f58_30  r4 f (x0) (x2) (0) (x1) R109.2 else f58_30  r4 f (x0) (x2) (1) (x1) R109.2))))))
theorem k58_4b {d f : Nat}  {r4 : Nat → Int → Int → xj_M → Option (Int × xj_M)}  (hr4 : ∀ {x0 : Nat} {x1 : Int} {x2 : Int} {M : xj_M} {R : Int × xj_M}, xin x1 → xin x2 → r4 x0 x1 x2 M = some R → xW (d + 1) (none, d + 1, none) xr_58 (4, [(0, xR_ x0), (1, xI x1), (2, xI x2)], [], M) (xQi R)) {x0 : Nat} {x1 : Int} {x2 : Int} {M : xj_M} {R : Int × xj_M} (hx1 : xin x1) (hx2 : xin x2) (h : f58_4b  r4 f x0 x1 x2 M = some R) : xW (d + 1) (none, d + 1, none) xr_58 (4, [(0, xR_ x0), (1, xI x1), (2, xI x2)], [], M) (xQi R) := by
  unfold f58_4b at h
  refine xe_ldn (ins := .iload_n 2) (len := 1) (by decide +kernel) rfl rfl rfl rfl ?_
  refine xe_alr (ins := .aload_n 0) (len := 1) (i := 0) (by decide +kernel) rfl rfl rfl rfl rfl ?_
  obtain ⟨v101, e102, h⟩ := xbnd h
  refine xs_gi (i := 274) (c := 4) (k := 12) (by decide +kernel) (by decide) (by decide +kernel) e102 rfl ?_
  refine xe_icmpge (off := 29) (t := 38) (by decide +kernel) (by decide) rfl hx2 (xq_gi_in e102) (fun c103 => ?_) (fun c103 => ?_)
  · rw [if_pos c103] at h
    refine xe_ldn (ins := .iload_n 1) (len := 1) (by decide +kernel) rfl rfl rfl rfl ?_
    cases h
    exact xe_ret_i (ty := .int) (by decide +kernel) rfl rfl ⟨rfl, rfl, hx1⟩
  · rw [if_neg c103] at h
    refine xe_ldn (ins := .iload_n 1) (len := 1) (by decide +kernel) rfl rfl rfl rfl ?_
    refine xe_alr (ins := .aload_n 0) (len := 1) (i := 0) (by decide +kernel) rfl rfl rfl rfl rfl ?_
    obtain ⟨v104, e105, h⟩ := xbnd h
    refine xs_gr (i := 19) (c := 4) (k := 10) (by decide +kernel) (by decide) (by decide +kernel) e105 rfl ?_
    refine xe_ldn (ins := .iload_n 2) (len := 1) (by decide +kernel) rfl rfl rfl rfl ?_
    obtain ⟨v106, e107, h⟩ := xbnd h
    refine xs_iald rfl (by decide +kernel) hx2 e107 rfl ?_
    obtain ⟨R109, e108, h⟩ := xbnd h
    refine xs_cs (kd := 2) (by decide) (i := 290) (j := 55) (ar := [xI (v106)]) (rest := [xI (x1)]) (r2 := xr_55) (by decide +kernel) (by decide +kernel) (by decide +kernel) xr_55_e rfl (by simp only [List.map_cons, List.map_nil, List.sum_cons, List.sum_nil, xR_cat, xI_cat, xZ_cat]; decide) ?_
    refine xc_i (k55 (d := d + 0)  (xq_ai_in e107) e108) rfl (fun hi110 => ?_)
    refine xe_ifne (off := 7) (t := 29) (by decide +kernel) (by decide) rfl hi110 (fun c111 => ?_) (fun c111 => ?_)
    · rw [if_pos c111] at h
      refine xe_iconst (n := 0) (by decide +kernel) rfl ?_
      refine xW_lv rfl (l := [(0, xR_ (x0)), (2, xI (x2))]) (xsb_of ⟨rfl, rfl, trivial⟩ (show [0, 1, 2].Nodup by decide)) ?_
      exact k58_30  hr4 hx2 (show xin (0) by decide) hx1 h
    · rw [if_neg c111] at h
      refine xe_iconst (n := 1) (by decide +kernel) rfl ?_
      refine xe_goto (off := 4) (nx := 30) (by decide +kernel) (by decide) ?_
      refine xW_lv rfl (l := [(0, xR_ (x0)), (2, xI (x2))]) (xsb_of ⟨rfl, rfl, trivial⟩ (show [0, 1, 2].Nodup by decide)) ?_
      exact k58_30  hr4 hx2 (show xin (1) by decide) hx1 h
def f58_4   (f : Nat) : Nat → Nat → Int → Int → xj_M → Option (Int × xj_M)
  | 0, _, _, _, _ => none
  | n + 1, x0, x1, x2, M => f58_4b   (f58_4   f n) f x0 x1 x2 M
theorem k58_4 {d f : Nat}     : ∀ {n : Nat} {x0 : Nat} {x1 : Int} {x2 : Int} {M : xj_M} {R : Int × xj_M}, xin x1 → xin x2 → f58_4   f n x0 x1 x2 M = some R → xW (d + 1) (none, d + 1, none) xr_58 (4, [(0, xR_ x0), (1, xI x1), (2, xI x2)], [], M) (xQi R) := by
  intro n
  induction n with
  | zero => intros; rename_i h; cases h
  | succ n ih => intros; rename_i h; exact k58_4b   ih (by assumption) (by assumption) h
def f58  (f : Nat) (a0 : Nat) (M : xj_M) : Option (Int × xj_M) := f58_4   f f (a0) (0) (0) M
theorem k58 {d f : Nat}   {a0 : Nat} {M : xj_M} {R : Int × xj_M}  (h : f58  f a0 M = some R) : xT (d + 2) 58 [xR_ a0] M (xQi R) := by
  refine xT_m xr_58_e (X := (none, d + 1, none)) rfl (xa_1 (xR_cat _) xa_n) (by decide) ?_
  unfold f58 at h
  refine xe_iconst (n := 0) (by decide +kernel) rfl ?_
  refine xe_isr (ins := .istore_n 1) (len := 1) (i := 1) (by decide +kernel) rfl rfl rfl (by decide) (xk_k (show ¬ (0 : Nat) = 1 by decide) (Or.inr (xR_cat _)) xk_n) rfl ?_
  refine xe_iconst (n := 0) (by decide +kernel) rfl ?_
  refine xe_isr (ins := .istore_n 2) (len := 1) (i := 2) (by decide +kernel) rfl rfl rfl (by decide) (xk_k (show ¬ (1 : Nat) = 2 by decide) (Or.inr (xI_cat _)) (xk_k (show ¬ (0 : Nat) = 2 by decide) (Or.inl (show ¬ (0 + 1 : Nat) = 2 by decide)) xk_n)) rfl ?_
  refine xW_lv rfl (l := [(0, xR_ (a0)), (1, xI (0)), (2, xI (0))]) (xsb_of ⟨rfl, rfl, rfl, trivial⟩ (show [2, 1, 0].Nodup by decide)) ?_
  exact k58_4   (show xin (0) by decide) (show xin (0) by decide) h
-- ChangeHouse$Reader.settleSigns
def xr_59 : xj_mR := (4, yX4_settleSigns, cX4_settleSigns, 2, (Option.none : Option Jvm.ClassFile.FieldType), 1, false, (5, 114), (1, 3))
set_option maxRecDepth 20000 in
theorem xr_59_e : xj_row 59 = some xr_59 := rfl
def f59_52   (f : Nat)  (M : xj_M) : Option (xj_M) := (some M)
theorem k59_52 {d f : Nat}      {M : xj_M} {R : xj_M}  (h : f59_52   f  M = some R) : xW (d + 1) (none, d + 1, none) xr_59 (52, [], [], M) (xQv R) := by
  unfold f59_52 at h
  cases h
  exact xe_ret_v (by decide +kernel) rfl ⟨rfl, rfl⟩
def f59_0b  (r0 : Nat → Int → xj_M → Option (xj_M)) (f : Nat) (x0 : Nat) (x1 : Int) (M : xj_M) : Option (xj_M) := ((xq_gi 4 12 (x0) M).bind fun v101 => (if (v101) ≤ 0 then f59_52   f  M else ((xq_gr 4 10 (x0) M).bind fun v104 => ((xq_gi 4 12 (x0) M).bind fun v106 => ((xq_ai 3 (v104) (xwr ((v106) - (1))) M).bind fun v108 => ((f55  f (v108) M).bind fun R111 => (if (R111.1) < (x1) then f59_52   f  R111.2 else ((xq_gi 4 12 (x0) R111.2).bind fun v114 => ((xq_pi 4 12 (x0) (xwr ((v114) - (1))) R111.2).bind fun M116 => ((xq_gr 4 10 (x0) M116).bind fun v118 => ((xq_gi 4 12 (x0) M116).bind fun v120 => ((xq_ai 3 (v118) (v120) M116).bind fun v122 => ((xq_is 4 (x0) M116).bind fun _ => ((f56  f (x0) (v122) (0) M116).bind fun M126 => r0 (x0) (x1) M126))))))))))))))
theorem k59_0b {d f : Nat}  {r0 : Nat → Int → xj_M → Option (xj_M)}  (hr0 : ∀ {x0 : Nat} {x1 : Int} {M : xj_M} {R : xj_M}, xin x1 → r0 x0 x1 M = some R → xW (d + 1) (none, d + 1, none) xr_59 (0, [(0, xR_ x0), (1, xI x1)], [], M) (xQv R)) {x0 : Nat} {x1 : Int} {M : xj_M} {R : xj_M} (hx1 : xin x1) (h : f59_0b  r0 f x0 x1 M = some R) : xW (d + 1) (none, d + 1, none) xr_59 (0, [(0, xR_ x0), (1, xI x1)], [], M) (xQv R) := by
  unfold f59_0b at h
  refine xe_alr (ins := .aload_n 0) (len := 1) (i := 0) (by decide +kernel) rfl rfl rfl rfl rfl ?_
  obtain ⟨v101, e102, h⟩ := xbnd h
  refine xs_gi (i := 274) (c := 4) (k := 12) (by decide +kernel) (by decide) (by decide +kernel) e102 rfl ?_
  refine xe_ifle (off := 48) (t := 52) (by decide +kernel) (by decide) rfl (xq_gi_in e102) (fun c103 => ?_) (fun c103 => ?_)
  · rw [if_pos c103] at h
    refine xW_lv rfl (l := []) (xsb_of trivial (show [0, 1].Nodup by decide)) ?_
    exact k59_52    h
  · rw [if_neg c103] at h
    refine xe_alr (ins := .aload_n 0) (len := 1) (i := 0) (by decide +kernel) rfl rfl rfl rfl rfl ?_
    obtain ⟨v104, e105, h⟩ := xbnd h
    refine xs_gr (i := 19) (c := 4) (k := 10) (by decide +kernel) (by decide) (by decide +kernel) e105 rfl ?_
    refine xe_alr (ins := .aload_n 0) (len := 1) (i := 0) (by decide +kernel) rfl rfl rfl rfl rfl ?_
    obtain ⟨v106, e107, h⟩ := xbnd h
    refine xs_gi (i := 274) (c := 4) (k := 12) (by decide +kernel) (by decide) (by decide +kernel) e107 rfl ?_
    refine xe_iconst (n := 1) (by decide +kernel) rfl ?_
    refine xe_isub (by decide +kernel) rfl ?_
    obtain ⟨v108, e109, h⟩ := xbnd h
    refine xs_iald rfl (by decide +kernel) (xin_wr _) e109 rfl ?_
    obtain ⟨R111, e110, h⟩ := xbnd h
    refine xs_cs (kd := 2) (by decide) (i := 290) (j := 55) (ar := [xI (v108)]) (rest := []) (r2 := xr_55) (by decide +kernel) (by decide +kernel) (by decide +kernel) xr_55_e rfl (by decide) ?_
    refine xc_i (k55 (d := d + 0)  (xq_ai_in e109) e110) rfl (fun hi112 => ?_)
    refine xe_ldn (ins := .iload_n 1) (len := 1) (by decide +kernel) rfl rfl rfl rfl ?_
    refine xe_icmplt (off := 30) (t := 52) (by decide +kernel) (by decide) rfl hi112 hx1 (fun c113 => ?_) (fun c113 => ?_)
    · rw [if_pos c113] at h
      refine xW_lv rfl (l := []) (xsb_of trivial (show [0, 1].Nodup by decide)) ?_
      exact k59_52    h
    · rw [if_neg c113] at h
      refine xe_alr (ins := .aload_n 0) (len := 1) (i := 0) (by decide +kernel) rfl rfl rfl rfl rfl ?_
      refine xe_dupr (by decide +kernel) rfl ?_
      obtain ⟨v114, e115, h⟩ := xbnd h
      refine xs_gi (i := 274) (c := 4) (k := 12) (by decide +kernel) (by decide) (by decide +kernel) e115 rfl ?_
      refine xe_iconst (n := 1) (by decide +kernel) rfl ?_
      refine xe_isub (by decide +kernel) rfl ?_
      obtain ⟨M116, e117, h⟩ := xbnd h
      refine xs_p (i := 274) (c := 4) (k := 12) (by decide +kernel) (by decide +kernel) (by decide +kernel) e117 rfl ?_
      refine xe_alr (ins := .aload_n 0) (len := 1) (i := 0) (by decide +kernel) rfl rfl rfl rfl rfl ?_
      refine xe_alr (ins := .aload_n 0) (len := 1) (i := 0) (by decide +kernel) rfl rfl rfl rfl rfl ?_
      obtain ⟨v118, e119, h⟩ := xbnd h
      refine xs_gr (i := 19) (c := 4) (k := 10) (by decide +kernel) (by decide) (by decide +kernel) e119 rfl ?_
      refine xe_alr (ins := .aload_n 0) (len := 1) (i := 0) (by decide +kernel) rfl rfl rfl rfl rfl ?_
      obtain ⟨v120, e121, h⟩ := xbnd h
      refine xs_gi (i := 274) (c := 4) (k := 12) (by decide +kernel) (by decide) (by decide +kernel) e121 rfl ?_
      obtain ⟨v122, e123, h⟩ := xbnd h
      refine xs_iald rfl (by decide +kernel) (xq_gi_in e121) e123 rfl ?_
      refine xe_lconst (n := 0) (z := 0) (by decide +kernel) rfl rfl ?_
      obtain ⟨_, e125, h⟩ := xbnd h
      obtain ⟨M126, e124, h⟩ := xbnd h
      refine xs_cv (i := 286) (j := 56) (ar := [xZ (0), xI (v122)]) (rest := []) (r2 := xr_56) (by decide +kernel) (by decide +kernel) (by decide +kernel) xr_56_e rfl (by decide) (by decide) e125 ?_
      refine xc_v (k56 (d := d + 0)  (xq_ai_in e123) (show xiN (0) by decide) e124) rfl ?_
      refine xe_goto (off := -49) (nx := 0) (by decide +kernel) (by decide) ?_
      refine xW_lv rfl (l := [(0, xR_ (x0)), (1, xI (x1))]) (xsb_of ⟨rfl, rfl, trivial⟩ (show [0, 1].Nodup by decide)) ?_
      exact hr0 hx1 h
def f59_0   (f : Nat) : Nat → Nat → Int → xj_M → Option (xj_M)
  | 0, _, _, _ => none
  | n + 1, x0, x1, M => f59_0b   (f59_0   f n) f x0 x1 M
theorem k59_0 {d f : Nat}     : ∀ {n : Nat} {x0 : Nat} {x1 : Int} {M : xj_M} {R : xj_M}, xin x1 → f59_0   f n x0 x1 M = some R → xW (d + 1) (none, d + 1, none) xr_59 (0, [(0, xR_ x0), (1, xI x1)], [], M) (xQv R) := by
  intro n
  induction n with
  | zero => intros; rename_i h; cases h
  | succ n ih => intros; rename_i h; exact k59_0b   ih (by assumption) h
def f59  (f : Nat) (a0 : Nat) (a1 : Int) (M : xj_M) : Option (xj_M) := f59_0   f f (a0) (a1) M
theorem k59 {d f : Nat}   {a0 : Nat} {a1 : Int} {M : xj_M} {R : xj_M} (ha1 : xin a1) (h : f59  f a0 a1 M = some R) : xT (d + 2) 59 [xR_ a0, xI a1] M (xQv R) := by
  refine xT_m xr_59_e (X := (none, d + 1, none)) rfl (xa_1 (xR_cat _) (xa_1 (xI_cat _) xa_n)) (by decide) ?_
  unfold f59 at h
  refine xW_lv rfl (l := [(0, xR_ (a0)), (1, xI (a1))]) (xsb_of ⟨rfl, rfl, trivial⟩ (show [0, 1].Nodup by decide)) ?_
  exact k59_0   ha1 h
-- ChangeHouse$Reader.openBracket
def xr_60 : xj_mR := (4, yX4_openBracket, cX4_openBracket, 3, (Option.none : Option Jvm.ClassFile.FieldType), 1, false, (5, 73), (1, 3))
set_option maxRecDepth 20000 in
theorem xr_60_e : xj_row 60 = some xr_60 := rfl
def f60_75   (f : Nat) (y0 : Int) (y1 : Nat) (M : xj_M) : Option ((Nat ⊕ Unit) × xj_M) := ((xq_is 4 (y1) M).bind fun _ => ((f57  f (y1) (y0) M).bind fun M103 => (some (.inr (), M103))))
theorem k60_75 {d f : Nat}     {y0 : Int} {y1 : Nat} {M : xj_M} {R : (Nat ⊕ Unit) × xj_M} (hy0 : xin y0) (h : f60_75   f y0 y1 M = some R) : xW (d + 6) (none, d + 6, none) xr_60 (75, [], [xI y0, xR_ y1], M) (xQtv R) := by
  unfold f60_75 at h
  obtain ⟨_, e102, h⟩ := xbnd h
  obtain ⟨M103, e101, h⟩ := xbnd h
  refine xs_cv (i := 296) (j := 57) (ar := [xI (y0)]) (rest := []) (r2 := xr_57) (by decide +kernel) (by decide +kernel) (by decide +kernel) xr_57_e rfl (by decide) (by decide) e102 ?_
  refine xc_v (k57 (d := d + 5)  hy0 e101) rfl ?_
  cases h
  exact xe_ret_v (by decide +kernel) rfl ⟨rfl, rfl⟩
def f60_61   (f : Nat) (x0 : Nat) (x2 : Int) (M : xj_M) : Option ((Nat ⊕ Unit) × xj_M) := ((xq_is 4 (x0) M).bind fun _ => ((f37  f (x0) M).bind fun M107 => (if (x2) = 0 then f60_75   f (2) (x0) M107 else f60_75   f (1) (x0) M107)))
theorem k60_61 {d f : Nat}     {x0 : Nat} {x2 : Int} {M : xj_M} {R : (Nat ⊕ Unit) × xj_M} (hx2 : xin x2) (h : f60_61   f x0 x2 M = some R) : xW (d + 6) (none, d + 6, none) xr_60 (61, [(0, xR_ x0), (2, xI x2)], [], M) (xQtv R) := by
  unfold f60_61 at h
  refine xe_alr (ins := .aload_n 0) (len := 1) (i := 0) (by decide +kernel) rfl rfl rfl rfl rfl ?_
  obtain ⟨_, e106, h⟩ := xbnd h
  obtain ⟨M107, e105, h⟩ := xbnd h
  refine xs_cv (i := 73) (j := 37) (ar := []) (rest := []) (r2 := xr_37) (by decide +kernel) (by decide +kernel) (by decide +kernel) xr_37_e rfl (by decide) (by decide) e106 ?_
  refine xc_v (k37 (d := d + 5)   e105) rfl ?_
  refine xe_alr (ins := .aload_n 0) (len := 1) (i := 0) (by decide +kernel) rfl rfl rfl rfl rfl ?_
  refine xe_ldn (ins := .iload_n 2) (len := 1) (by decide +kernel) rfl rfl rfl rfl ?_
  refine xe_ifeq (off := 7) (t := 74) (by decide +kernel) (by decide) rfl hx2 (fun c109 => ?_) (fun c109 => ?_)
  · rw [if_pos c109] at h
    refine xe_iconst (n := 2) (by decide +kernel) rfl ?_
    refine xW_lv rfl (l := []) (xsb_of trivial (show [0, 2].Nodup by decide)) ?_
    exact k60_75   (show xin (2) by decide) h
  · rw [if_neg c109] at h
    refine xe_iconst (n := 1) (by decide +kernel) rfl ?_
    refine xe_goto (off := 4) (nx := 75) (by decide +kernel) (by decide) ?_
    refine xW_lv rfl (l := []) (xsb_of trivial (show [0, 2].Nodup by decide)) ?_
    exact k60_75   (show xin (1) by decide) h
def f60_45   (f : Nat) (x0 : Nat) (x2 : Int) (M : xj_M) : Option ((Nat ⊕ Unit) × xj_M) := ((xq_gr 4 0 (x0) M).bind fun v110 => ((xq_gr 8 4 (v110) M).bind fun v112 => ((xq_gi 4 1 (x0) M).bind fun v114 => ((xq_ai 3 (v112) (v114) M).bind fun v116 => ((xq_is 4 (x0) M).bind fun _ => ((f36 f (x0) (v116) M).bind fun R120 => xth R120 (fun _ => f60_61   f (x0) (x2) R120.2)))))))
theorem k60_45 {d f : Nat}     {x0 : Nat} {x2 : Int} {M : xj_M} {R : (Nat ⊕ Unit) × xj_M} (hx2 : xin x2) (h : f60_45   f x0 x2 M = some R) : xW (d + 6) (none, d + 6, none) xr_60 (45, [(0, xR_ x0), (2, xI x2)], [], M) (xQtv R) := by
  unfold f60_45 at h
  refine xe_alr (ins := .aload_n 0) (len := 1) (i := 0) (by decide +kernel) rfl rfl rfl rfl rfl ?_
  refine xe_alr (ins := .aload_n 0) (len := 1) (i := 0) (by decide +kernel) rfl rfl rfl rfl rfl ?_
  obtain ⟨v110, e111, h⟩ := xbnd h
  refine xs_gr (i := 43) (c := 4) (k := 0) (by decide +kernel) (by decide) (by decide +kernel) e111 rfl ?_
  obtain ⟨v112, e113, h⟩ := xbnd h
  refine xs_gr (i := 80) (c := 8) (k := 4) (by decide +kernel) (by decide) (by decide +kernel) e113 rfl ?_
  refine xe_alr (ins := .aload_n 0) (len := 1) (i := 0) (by decide +kernel) rfl rfl rfl rfl rfl ?_
  obtain ⟨v114, e115, h⟩ := xbnd h
  refine xs_gi (i := 54) (c := 4) (k := 1) (by decide +kernel) (by decide) (by decide +kernel) e115 rfl ?_
  obtain ⟨v116, e117, h⟩ := xbnd h
  refine xs_iald rfl (by decide +kernel) (xq_gi_in e115) e117 rfl ?_
  obtain ⟨_, e119, h⟩ := xbnd h
  obtain ⟨R120, e118, h⟩ := xbnd h
  refine xs2_cv (kd := 0) (jj := 36) (by decide) (i := 83) (j := 36) (ar := [xI (v116)]) (rest := []) (r2 := xr_36) (by decide +kernel) (by decide +kernel) (by decide +kernel) xr_36_e rfl (by decide) (by decide) e119 ?_
  refine xct_v (k36 (d := d + 0) (xq_ai_in e117) e118) rfl (fun e1 g122 => ?_) (fun g122 => ?_)
  · rw [xth_l g122] at h; cases h; exact xK_thr rfl ⟨rfl, rfl⟩
  · rw [xth_r g122] at h
    refine xW_lv rfl (l := [(0, xR_ (x0)), (2, xI (x2))]) (xsb_of ⟨rfl, rfl, trivial⟩ (show [0, 2].Nodup by decide)) ?_
    exact k60_61   hx2 h
def f60_20   (f : Nat) (x0 : Nat) (x2 : Int) (M : xj_M) : Option ((Nat ⊕ Unit) × xj_M) := ((xq_gr 4 0 (x0) M).bind fun v124 => ((xq_gr 8 3 (v124) M).bind fun v126 => ((xq_gi 4 1 (x0) M).bind fun v128 => ((xq_ai 3 (v126) (v128) M).bind fun v130 => (if ¬ (v130) = (40) then f60_45   f (x0) (x2) M else ((xq_is 4 (x0) M).bind fun _ => ((f58  f (x0) M).bind fun R135 => (if ¬ (R135.1) = (4) then f60_61   f (x0) (x2) R135.2 else f60_45   f (x0) (x2) R135.2))))))))
theorem k60_20 {d f : Nat}     {x0 : Nat} {x2 : Int} {M : xj_M} {R : (Nat ⊕ Unit) × xj_M} (hx2 : xin x2) (h : f60_20   f x0 x2 M = some R) : xW (d + 6) (none, d + 6, none) xr_60 (20, [(0, xR_ x0), (2, xI x2)], [], M) (xQtv R) := by
  unfold f60_20 at h
  refine xe_alr (ins := .aload_n 0) (len := 1) (i := 0) (by decide +kernel) rfl rfl rfl rfl rfl ?_
  obtain ⟨v124, e125, h⟩ := xbnd h
  refine xs_gr (i := 43) (c := 4) (k := 0) (by decide +kernel) (by decide) (by decide +kernel) e125 rfl ?_
  obtain ⟨v126, e127, h⟩ := xbnd h
  refine xs_gr (i := 51) (c := 8) (k := 3) (by decide +kernel) (by decide) (by decide +kernel) e127 rfl ?_
  refine xe_alr (ins := .aload_n 0) (len := 1) (i := 0) (by decide +kernel) rfl rfl rfl rfl rfl ?_
  obtain ⟨v128, e129, h⟩ := xbnd h
  refine xs_gi (i := 54) (c := 4) (k := 1) (by decide +kernel) (by decide) (by decide +kernel) e129 rfl ?_
  obtain ⟨v130, e131, h⟩ := xbnd h
  refine xs_iald rfl (by decide +kernel) (xq_gi_in e129) e131 rfl ?_
  refine xe_bipush (n := 40) (by decide +kernel) (by decide) rfl ?_
  refine xe_icmpne (off := 11) (t := 45) (by decide +kernel) (by decide) rfl (xq_ai_in e131) (show xin (40) by decide) (fun c132 => ?_) (fun c132 => ?_)
  · rw [if_pos c132] at h
    refine xW_lv rfl (l := [(0, xR_ (x0)), (2, xI (x2))]) (xsb_of ⟨rfl, rfl, trivial⟩ (show [0, 2].Nodup by decide)) ?_
    exact k60_45   hx2 h
  · rw [if_neg c132] at h
    refine xe_alr (ins := .aload_n 0) (len := 1) (i := 0) (by decide +kernel) rfl rfl rfl rfl rfl ?_
    obtain ⟨_, e134, h⟩ := xbnd h
    obtain ⟨R135, e133, h⟩ := xbnd h
    refine xs_cv (i := 302) (j := 58) (ar := []) (rest := []) (r2 := xr_58) (by decide +kernel) (by decide +kernel) (by decide +kernel) xr_58_e rfl (by decide) (by decide) e134 ?_
    refine xc_i (k58 (d := d + 4)   e133) rfl (fun hi136 => ?_)
    refine xe_iconst (n := 4) (by decide +kernel) rfl ?_
    refine xe_icmpne (off := 19) (t := 61) (by decide +kernel) (by decide) rfl hi136 (show xin (4) by decide) (fun c137 => ?_) (fun c137 => ?_)
    · rw [if_pos c137] at h
      refine xW_lv rfl (l := [(0, xR_ (x0)), (2, xI (x2))]) (xsb_of ⟨rfl, rfl, trivial⟩ (show [0, 2].Nodup by decide)) ?_
      exact k60_61   hx2 h
    · rw [if_neg c137] at h
      refine xW_lv rfl (l := [(0, xR_ (x0)), (2, xI (x2))]) (xsb_of ⟨rfl, rfl, trivial⟩ (show [0, 2].Nodup by decide)) ?_
      exact k60_45   hx2 h
def f60_11   (f : Nat) (x0 : Nat) (y0 : Int) (M : xj_M) : Option ((Nat ⊕ Unit) × xj_M) := (if ¬ (y0) = 0 then f60_20   f (x0) (y0) M else ((xq_is 4 (x0) M).bind fun _ => ((f37  f (x0) M).bind fun M141 => f60_20   f (x0) (y0) M141)))
theorem k60_11 {d f : Nat}     {x0 : Nat} {y0 : Int} {M : xj_M} {R : (Nat ⊕ Unit) × xj_M} (hy0 : xin y0) (h : f60_11   f x0 y0 M = some R) : xW (d + 6) (none, d + 6, none) xr_60 (11, [(0, xR_ x0)], [xI y0], M) (xQtv R) := by
  unfold f60_11 at h
  refine xe_isr (ins := .istore_n 2) (len := 1) (i := 2) (by decide +kernel) rfl rfl rfl (by decide) (xk_k (show ¬ (0 : Nat) = 2 by decide) (Or.inl (show ¬ (0 + 1 : Nat) = 2 by decide)) xk_n) rfl ?_
  refine xe_ldn (ins := .iload_n 2) (len := 1) (by decide +kernel) rfl rfl rfl rfl ?_
  refine xe_ifne (off := 7) (t := 20) (by decide +kernel) (by decide) rfl hy0 (fun c138 => ?_) (fun c138 => ?_)
  · rw [if_pos c138] at h
    refine xW_lv rfl (l := [(0, xR_ (x0)), (2, xI (y0))]) (xsb_of ⟨rfl, rfl, trivial⟩ (show [2, 0].Nodup by decide)) ?_
    exact k60_20   hy0 h
  · rw [if_neg c138] at h
    refine xe_alr (ins := .aload_n 0) (len := 1) (i := 0) (by decide +kernel) rfl rfl rfl rfl rfl ?_
    obtain ⟨_, e140, h⟩ := xbnd h
    obtain ⟨M141, e139, h⟩ := xbnd h
    refine xs_cv (i := 73) (j := 37) (ar := []) (rest := []) (r2 := xr_37) (by decide +kernel) (by decide +kernel) (by decide +kernel) xr_37_e rfl (by decide) (by decide) e140 ?_
    refine xc_v (k37 (d := d + 5)   e139) rfl ?_
    refine xW_lv rfl (l := [(0, xR_ (x0)), (2, xI (y0))]) (xsb_of ⟨rfl, rfl, trivial⟩ (show [2, 0].Nodup by decide)) ?_
    exact k60_20   hy0 h
def f60  (f : Nat) (a0 : Nat) (a1 : Int) (M : xj_M) : Option ((Nat ⊕ Unit) × xj_M) := (if ¬ (a1) = (40) then f60_11   f (a0) (0) M else f60_11   f (a0) (1) M)
theorem k60 {d f : Nat}   {a0 : Nat} {a1 : Int} {M : xj_M} {R : (Nat ⊕ Unit) × xj_M} (ha1 : xin a1) (h : f60  f a0 a1 M = some R) : xT (d + 7) 60 [xR_ a0, xI a1] M (xQtv R) := by
  refine xT_m xr_60_e (X := (none, d + 6, none)) rfl (xa_1 (xR_cat _) (xa_1 (xI_cat _) xa_n)) (by decide) ?_
  unfold f60 at h
  refine xe_ldn (ins := .iload_n 1) (len := 1) (by decide +kernel) rfl rfl rfl rfl ?_
  refine xe_bipush (n := 40) (by decide +kernel) (by decide) rfl ?_
  refine xe_icmpne (off := 7) (t := 10) (by decide +kernel) (by decide) rfl ha1 (show xin (40) by decide) (fun c143 => ?_) (fun c143 => ?_)
  · rw [if_pos c143] at h
    refine xe_iconst (n := 0) (by decide +kernel) rfl ?_
    refine xW_lv rfl (l := [(0, xR_ (a0))]) (xsb_of ⟨rfl, trivial⟩ (show [0, 1].Nodup by decide)) ?_
    exact k60_11   (show xin (0) by decide) h
  · rw [if_neg c143] at h
    refine xe_iconst (n := 1) (by decide +kernel) rfl ?_
    refine xe_goto (off := 4) (nx := 11) (by decide +kernel) (by decide) ?_
    refine xW_lv rfl (l := [(0, xR_ (a0))]) (xsb_of ⟨rfl, trivial⟩ (show [0, 1].Nodup by decide)) ?_
    exact k60_11   (show xin (1) by decide) h
