/-! Mirrors (written by mk_mir.py) -/
-- ChangeHouseModel.edits
def xr_379 : xj_mR := (15, yX15_edits, cX15_edits, 1, (Option.some Jvm.ClassFile.FieldType.int), 0, false, (14, 76), (1, 12))
set_option maxRecDepth 20000 in
theorem xr_379_e : xj_row 379 = some xr_379 := rfl
def f379  (f : Nat) (a0 : Nat) (M : xj_M) : Option (Int × xj_M) := ((xq_pi 15 74 (a0) (0) M).bind fun M101 => ((xq_gr 15 61 (a0) M101).bind fun v103 => ((xq_gi 15 62 (a0) M101).bind fun v105 => ((xq_ar (v103) (v105) M101).bind fun v107 => ((xq_gi 13 27 (v107) M101).bind fun v109 => (some (v109, M101)))))))
theorem k379 {d f : Nat}   {a0 : Nat} {M : xj_M} {R : Int × xj_M}  (h : f379  f a0 M = some R) : xT (d + 1) 379 [xR_ a0] M (xQi R) := by
  refine xT_m xr_379_e (X := (none, d + 0, none)) rfl (xa_1 (xR_cat _) xa_n) (by decide) ?_
  unfold f379 at h
  refine xe_alr (ins := .aload_n 0) (len := 1) (i := 0) (by decide +kernel) rfl rfl rfl rfl rfl ?_
  refine xe_iconst (n := 0) (by decide +kernel) rfl ?_
  obtain ⟨M101, e102, h⟩ := xbnd h
  refine xs_p (i := 699) (c := 15) (k := 74) (by decide +kernel) (by decide +kernel) (by decide +kernel) e102 rfl ?_
  refine xe_alr (ins := .aload_n 0) (len := 1) (i := 0) (by decide +kernel) rfl rfl rfl rfl rfl ?_
  obtain ⟨v103, e104, h⟩ := xbnd h
  refine xs_gr (i := 667) (c := 15) (k := 61) (by decide +kernel) (by decide) (by decide +kernel) e104 rfl ?_
  refine xe_alr (ins := .aload_n 0) (len := 1) (i := 0) (by decide +kernel) rfl rfl rfl rfl rfl ?_
  obtain ⟨v105, e106, h⟩ := xbnd h
  refine xs_gi (i := 664) (c := 15) (k := 62) (by decide +kernel) (by decide) (by decide +kernel) e106 rfl ?_
  obtain ⟨v107, e108, h⟩ := xbnd h
  refine xs_aald (by decide +kernel) (xq_gi_in e106) e108 rfl ?_
  obtain ⟨v109, e110, h⟩ := xbnd h
  refine xs_gi (i := 828) (c := 13) (k := 27) (by decide +kernel) (by decide) (by decide +kernel) e110 rfl ?_
  cases h
  exact xe_ret_i (ty := .int) (by decide +kernel) rfl rfl ⟨rfl, rfl, (xq_gi_in e110)⟩
/-- String.coder -/
def xr_389 : xj_mR := (18, yJ0_coder_7d493, cJ0_coder_7d493, 1, (Option.some Jvm.ClassFile.FieldType.byte), 0, false, (3, 162), (1, 13))
set_option maxRecDepth 20000 in
theorem xr_389_e : xj_row 389 = some xr_389 := rfl
def f389_14   (f : Nat) (y0 : Int) (M : xj_M) : Option (Int × xj_M) := (if xnar .byte (y0) = (y0) then some (y0, M) else none)
theorem k389_14 {d f : Nat}     {y0 : Int} {M : xj_M} {R : Int × xj_M} (hy0 : xin y0) (h : f389_14   f y0 M = some R) : xW (d + 0) (none, d + 0, none) xr_389 (14, [], [xI y0], M) (xQi R) := by
  unfold f389_14 at h
  by_cases c101 : xnar .byte (y0) = (y0)
  · rw [if_pos c101] at h; cases h; exact xe_ret_i (ty := .byte) (by decide +kernel) rfl (xnar_ret (by simp) c101) ⟨rfl, rfl, hy0⟩
  · rw [if_neg c101] at h; cases h
def f389  (f : Nat) (a0 : Nat) (M : xj_M) : Option (Int × xj_M) := (if (1 : Int) = 0 then f389_14   f (1) M else ((xq_st (a0)).bind fun _ => f389_14   f (0) M))
theorem k389 {d f : Nat}   {a0 : Nat} {M : xj_M} {R : Int × xj_M}  (h : f389  f a0 M = some R) : xT (d + 1) 389 [xR_ a0] M (xQi R) := by
  refine xT_m xr_389_e (X := (none, d + 0, none)) rfl (xa_1 (xR_cat _) xa_n) (by decide) ?_
  unfold f389 at h
  refine xe_gst rfl (by decide +kernel) rfl ?_
  refine xe_ifeq (off := 10) (t := 13) (by decide +kernel) (by decide) rfl (show xin 1 by decide) (fun c102 => ?_) (fun c102 => ?_)
  · rw [if_pos c102] at h
    refine xe_iconst (n := 1) (by decide +kernel) rfl ?_
    refine xW_lv rfl (l := []) (xsb_of trivial (show [0].Nodup by decide)) ?_
    exact k389_14   (show xin (1) by decide) h
  · rw [if_neg c102] at h
    refine xe_alr (ins := .aload_n 0) (len := 1) (i := 0) (by decide +kernel) rfl rfl rfl rfl rfl ?_
    obtain ⟨_, e103, h⟩ := xbnd h
    refine xe_scod rfl (by decide +kernel) e103 rfl ?_
    refine xe_goto (off := 4) (nx := 14) (by decide +kernel) (by decide) ?_
    refine xW_lv rfl (l := []) (xsb_of trivial (show [0].Nodup by decide)) ?_
    exact k389_14   (show xin 0 by decide) h
/-- String.isLatin1 -/
def xr_390 : xj_mR := (18, yJ0_isLatin1_aae02, cJ0_isLatin1_aae02, 1, (Option.some Jvm.ClassFile.FieldType.boolean), 0, false, (3, 172), (1, 13))
set_option maxRecDepth 20000 in
theorem xr_390_e : xj_row 390 = some xr_390 := rfl
def f390_18   (f : Nat) (y0 : Int) (M : xj_M) : Option (Int × xj_M) := (if (y0) = 0 ∨ (y0) = 1 then some (y0, M) else none)
theorem k390_18 {d f : Nat}     {y0 : Int} {M : xj_M} {R : Int × xj_M} (hy0 : xin y0) (h : f390_18   f y0 M = some R) : xW (d + 0) (none, d + 0, none) xr_390 (18, [], [xI y0], M) (xQi R) := by
  unfold f390_18 at h
  by_cases c101 : (y0) = 0 ∨ (y0) = 1
  · rw [if_pos c101] at h; cases h; exact xe_ret_i (ty := .boolean) (by decide +kernel) rfl (xbool c101) ⟨rfl, rfl, hy0⟩
  · rw [if_neg c101] at h; cases h
def f390_17   (f : Nat)  (M : xj_M) : Option (Int × xj_M) := f390_18   f (0) M
theorem k390_17 {d f : Nat}      {M : xj_M} {R : Int × xj_M}  (h : f390_17   f  M = some R) : xW (d + 0) (none, d + 0, none) xr_390 (17, [], [], M) (xQi R) := by
  unfold f390_17 at h
  refine xe_iconst (n := 0) (by decide +kernel) rfl ?_
  refine xW_lv rfl (l := []) (xsb_of trivial (show [].Nodup by decide)) ?_
  exact k390_18   (show xin (0) by decide) h
def f390  (f : Nat) (a0 : Nat) (M : xj_M) : Option (Int × xj_M) := (if (1 : Int) = 0 then f390_17   f  M else ((xq_st (a0)).bind fun _ => (if ¬ (0 : Int) = 0 then f390_17   f  M else f390_18   f (1) M)))
theorem k390 {d f : Nat}   {a0 : Nat} {M : xj_M} {R : Int × xj_M}  (h : f390  f a0 M = some R) : xT (d + 1) 390 [xR_ a0] M (xQi R) := by
  refine xT_m xr_390_e (X := (none, d + 0, none)) rfl (xa_1 (xR_cat _) xa_n) (by decide) ?_
  unfold f390 at h
  refine xe_gst rfl (by decide +kernel) rfl ?_
  refine xe_ifeq (off := 14) (t := 17) (by decide +kernel) (by decide) rfl (show xin 1 by decide) (fun c102 => ?_) (fun c102 => ?_)
  · rw [if_pos c102] at h
    refine xW_lv rfl (l := []) (xsb_of trivial (show [0].Nodup by decide)) ?_
    exact k390_17    h
  · rw [if_neg c102] at h
    refine xe_alr (ins := .aload_n 0) (len := 1) (i := 0) (by decide +kernel) rfl rfl rfl rfl rfl ?_
    obtain ⟨_, e103, h⟩ := xbnd h
    refine xe_scod rfl (by decide +kernel) e103 rfl ?_
    refine xe_ifne (off := 7) (t := 17) (by decide +kernel) (by decide) rfl (show xin 0 by decide) (fun c104 => ?_) (fun c104 => ?_)
    · rw [if_pos c104] at h
      refine xW_lv rfl (l := []) (xsb_of trivial (show [0].Nodup by decide)) ?_
      exact k390_17    h
    · rw [if_neg c104] at h
      refine xe_iconst (n := 1) (by decide +kernel) rfl ?_
      refine xe_goto (off := 4) (nx := 18) (by decide +kernel) (by decide) ?_
      refine xW_lv rfl (l := []) (xsb_of trivial (show [0].Nodup by decide)) ?_
      exact k390_18   (show xin (1) by decide) h
/-- String.checkIndex -/
def xr_391 : xj_mR := (18, yJ0_checkIndex_df160, cJ0_checkIndex_df160, 2, (Option.none : Option Jvm.ClassFile.FieldType), 2, false, (3, 178), (1, 13))
set_option maxRecDepth 20000 in
theorem xr_391_e : xj_row 391 = some xr_391 := rfl
def f391  (f : Nat) (a0 : Int) (a1 : Int) (M : xj_M) : Option (xj_M) := ((xq_ck (a0) (a1)).bind fun _ => (some M))
theorem k391 {d f : Nat}   {a0 : Int} {a1 : Int} {M : xj_M} {R : xj_M} (ha0 : xin a0) (ha1 : xin a1) (h : f391  f a0 a1 M = some R) : xT (d + 2) 391 [xI a0, xI a1] M (xQv R) := by
  refine xT_m xr_391_e (X := (none, d + 1, none)) rfl (xa_1 (xI_cat _) (xa_1 (xI_cat _) xa_n)) (by decide) ?_
  unfold f391 at h
  refine xe_ldn (ins := .iload_n 0) (len := 1) (by decide +kernel) rfl rfl rfl rfl ?_
  refine xe_ldn (ins := .iload_n 1) (len := 1) (by decide +kernel) rfl rfl rfl rfl ?_
  obtain ⟨_, e101, h⟩ := xbnd h
  refine xe_ck rfl (show 1 ≤ d + 1 by omega) (by decide +kernel) (by decide +kernel) (by decide +kernel) (by rfl) ha0 ha1 e101 rfl ?_
  cases h
  exact xe_ret_v (by decide +kernel) rfl ⟨rfl, rfl⟩
/-- StringLatin1.charAt -/
def xr_393 : xj_mR := (19, yJ1_charAt_3b067, cJ1_charAt_3b067, 2, (Option.some Jvm.ClassFile.FieldType.char), 2, false, (3, 175), (1, 14))
set_option maxRecDepth 20000 in
theorem xr_393_e : xj_row 393 = some xr_393 := rfl
def f393  (f : Nat) (a0 : Nat) (a1 : Int) (M : xj_M) : Option (Int × xj_M) := ((xq_bl (a0) M).bind fun v101 => ((f391  f (a1) (v101) M).bind fun M104 => ((xq_bb (a0) (a1) M104).bind fun v106 => (if xnar .char (xi2ch (xand (v106) (255))) = (xi2ch (xand (v106) (255))) then some (xi2ch (xand (v106) (255)), M104) else none))))
theorem k393 {d f : Nat}   {a0 : Nat} {a1 : Int} {M : xj_M} {R : Int × xj_M} (ha1 : xin a1) (h : f393  f a0 a1 M = some R) : xT (d + 3) 393 [xR_ a0, xI a1] M (xQi R) := by
  refine xT_m xr_393_e (X := (none, d + 2, none)) rfl (xa_1 (xR_cat _) (xa_1 (xI_cat _) xa_n)) (by decide) ?_
  unfold f393 at h
  refine xe_ldn (ins := .iload_n 1) (len := 1) (by decide +kernel) rfl rfl rfl rfl ?_
  refine xe_alr (ins := .aload_n 0) (len := 1) (i := 0) (by decide +kernel) rfl rfl rfl rfl rfl ?_
  obtain ⟨v101, e102, h⟩ := xbnd h
  refine xs_blen rfl (by decide +kernel) e102 rfl ?_
  obtain ⟨M104, e103, h⟩ := xbnd h
  refine xs_cs (kd := 2) (by decide) (i := 9) (j := 391) (ar := [xI (v101), xI (a1)]) (rest := []) (r2 := xr_391) (by decide +kernel) (by decide +kernel) (by decide +kernel) xr_391_e rfl (by decide) ?_
  refine xc_v (k391 (d := d + 0)  ha1 (xq_bl_in e102) e103) rfl ?_
  refine xe_alr (ins := .aload_n 0) (len := 1) (i := 0) (by decide +kernel) rfl rfl rfl rfl rfl ?_
  refine xe_ldn (ins := .iload_n 1) (len := 1) (by decide +kernel) rfl rfl rfl rfl ?_
  obtain ⟨v106, e107, h⟩ := xbnd h
  refine xs_bbald (by decide +kernel) ha1 e107 rfl ?_
  refine xe_sipush (n := 255) (by decide +kernel) (by decide) rfl ?_
  refine xe_iand (by decide +kernel) rfl ?_
  refine xe_i2c (by decide +kernel) rfl ?_
  by_cases c108 : xnar .char (xi2ch (xand (v106) (255))) = (xi2ch (xand (v106) (255)))
  · rw [if_pos c108] at h; cases h; exact xe_ret_i (ty := .char) (by decide +kernel) rfl (xnar_ret (by simp) c108) ⟨rfl, rfl, (xin_of _)⟩
  · rw [if_neg c108] at h; cases h
/-- StringLatin1.canEncode -/
def xr_394 : xj_mR := (19, yJ1_canEncode_9a6ad, cJ1_canEncode_9a6ad, 1, (Option.some Jvm.ClassFile.FieldType.boolean), 1, false, (4, 15), (1, 14))
set_option maxRecDepth 20000 in
theorem xr_394_e : xj_row 394 = some xr_394 := rfl
def f394_16   (f : Nat) (y0 : Int) (M : xj_M) : Option (Int × xj_M) := (if (y0) = 0 ∨ (y0) = 1 then some (y0, M) else none)
theorem k394_16 {d f : Nat}     {y0 : Int} {M : xj_M} {R : Int × xj_M} (hy0 : xin y0) (h : f394_16   f y0 M = some R) : xW (d + 0) (none, d + 0, none) xr_394 (16, [], [xI y0], M) (xQi R) := by
  unfold f394_16 at h
  by_cases c101 : (y0) = 0 ∨ (y0) = 1
  · rw [if_pos c101] at h; cases h; exact xe_ret_i (ty := .boolean) (by decide +kernel) rfl (xbool c101) ⟨rfl, rfl, hy0⟩
  · rw [if_neg c101] at h; cases h
def f394_15   (f : Nat)  (M : xj_M) : Option (Int × xj_M) := f394_16   f (0) M
theorem k394_15 {d f : Nat}      {M : xj_M} {R : Int × xj_M}  (h : f394_15   f  M = some R) : xW (d + 0) (none, d + 0, none) xr_394 (15, [], [], M) (xQi R) := by
  unfold f394_15 at h
  refine xe_iconst (n := 0) (by decide +kernel) rfl ?_
  refine xW_lv rfl (l := []) (xsb_of trivial (show [].Nodup by decide)) ?_
  exact k394_16   (show xin (0) by decide) h
def f394  (f : Nat) (a0 : Int) (M : xj_M) : Option (Int × xj_M) := (if (a0) < 0 then f394_15   f  M else (if (255) < (a0) then f394_15   f  M else f394_16   f (1) M))
theorem k394 {d f : Nat}   {a0 : Int} {M : xj_M} {R : Int × xj_M} (ha0 : xin a0) (h : f394  f a0 M = some R) : xT (d + 1) 394 [xI a0] M (xQi R) := by
  refine xT_m xr_394_e (X := (none, d + 0, none)) rfl (xa_1 (xI_cat _) xa_n) (by decide) ?_
  unfold f394 at h
  refine xe_ldn (ins := .iload_n 0) (len := 1) (by decide +kernel) rfl rfl rfl rfl ?_
  refine xe_iflt (off := 14) (t := 15) (by decide +kernel) (by decide) rfl ha0 (fun c102 => ?_) (fun c102 => ?_)
  · rw [if_pos c102] at h
    refine xW_lv rfl (l := []) (xsb_of trivial (show [0].Nodup by decide)) ?_
    exact k394_15    h
  · rw [if_neg c102] at h
    refine xe_ldn (ins := .iload_n 0) (len := 1) (by decide +kernel) rfl rfl rfl rfl ?_
    refine xe_sipush (n := 255) (by decide +kernel) (by decide) rfl ?_
    refine xe_icmpgt (off := 7) (t := 15) (by decide +kernel) (by decide) rfl ha0 (show xin (255) by decide) (fun c103 => ?_) (fun c103 => ?_)
    · rw [if_pos c103] at h
      refine xW_lv rfl (l := []) (xsb_of trivial (show [0].Nodup by decide)) ?_
      exact k394_15    h
    · rw [if_neg c103] at h
      refine xe_iconst (n := 1) (by decide +kernel) rfl ?_
      refine xe_goto (off := 4) (nx := 16) (by decide +kernel) (by decide) ?_
      refine xW_lv rfl (l := []) (xsb_of trivial (show [0].Nodup by decide)) ?_
      exact k394_16   (show xin (1) by decide) h
/-- StringLatin1.indexOfChar -/
def xr_396 : xj_mR := (19, yJ1_indexOfChar_4cfef, cJ1_indexOfChar_4cfef, 6, (Option.some Jvm.ClassFile.FieldType.int), 4, false, (4, 24), (1, 14))
set_option maxRecDepth 20000 in
theorem xr_396_e : xj_row 396 = some xr_396 := rfl
def f396_7b  (r7 : Nat → Int → Int → Int → xj_M → Option (Int × xj_M)) (f : Nat) (x0 : Nat) (x3 : Int) (x4 : Int) (x5 : Int) (M : xj_M) : Option (Int × xj_M) := (if (x3) ≤ (x5) then (some (-1, M)) else ((xq_bb (x0) (x5) M).bind fun v102 => (if ¬ (v102) = (x4) then r7 (x0) (x3) (x4) (xwr ((x5) + (1))) M else (some (x5, M)))))
theorem k396_7b {d f : Nat}  {r7 : Nat → Int → Int → Int → xj_M → Option (Int × xj_M)}  (hr7 : ∀ {x0 : Nat} {x3 : Int} {x4 : Int} {x5 : Int} {M : xj_M} {R : Int × xj_M}, xin x3 → xin x4 → xin x5 → r7 x0 x3 x4 x5 M = some R → xW (d + 0) (none, d + 0, none) xr_396 (7, [(0, xR_ x0), (3, xI x3), (4, xI x4), (5, xI x5)], [], M) (xQi R)) {x0 : Nat} {x3 : Int} {x4 : Int} {x5 : Int} {M : xj_M} {R : Int × xj_M} (hx3 : xin x3) (hx4 : xin x4) (hx5 : xin x5) (h : f396_7b  r7 f x0 x3 x4 x5 M = some R) : xW (d + 0) (none, d + 0, none) xr_396 (7, [(0, xR_ x0), (3, xI x3), (4, xI x4), (5, xI x5)], [], M) (xQi R) := by
  unfold f396_7b at h
  refine xe_ldn (ins := .iload 5) (len := 2) (by decide +kernel) rfl rfl rfl rfl ?_
  refine xe_ldn (ins := .iload_n 3) (len := 1) (by decide +kernel) rfl rfl rfl rfl ?_
  refine xe_icmpge (off := 21) (t := 31) (by decide +kernel) (by decide) rfl hx5 hx3 (fun c101 => ?_) (fun c101 => ?_)
  · rw [if_pos c101] at h
    refine xe_iconst (n := -1) (by decide +kernel) rfl ?_
    cases h
    exact xe_ret_i (ty := .int) (by decide +kernel) rfl rfl ⟨rfl, rfl, (show xin (-1) by decide)⟩
  · rw [if_neg c101] at h
    refine xe_alr (ins := .aload_n 0) (len := 1) (i := 0) (by decide +kernel) rfl rfl rfl rfl rfl ?_
    refine xe_ldn (ins := .iload 5) (len := 2) (by decide +kernel) rfl rfl rfl rfl ?_
    obtain ⟨v102, e103, h⟩ := xbnd h
    refine xs_bbald (by decide +kernel) hx5 e103 rfl ?_
    refine xe_ldn (ins := .iload 4) (len := 2) (by decide +kernel) rfl rfl rfl rfl ?_
    refine xe_icmpne (off := 6) (t := 25) (by decide +kernel) (by decide) rfl (xq_bb_in e103) hx4 (fun c104 => ?_) (fun c104 => ?_)
    · rw [if_pos c104] at h
      refine xe_iincr (i := 5) (n := 1) (by decide +kernel) (by decide) rfl (xk_k (show ¬ (0 : Nat) = 5 by decide) (Or.inl (show ¬ (0 + 1 : Nat) = 5 by decide)) (xk_k (show ¬ (3 : Nat) = 5 by decide) (Or.inl (show ¬ (3 + 1 : Nat) = 5 by decide)) (xk_k (show ¬ (4 : Nat) = 5 by decide) (Or.inr (xI_cat _)) (xk_d rfl xk_n)))) rfl ?_
      refine xe_goto (off := -21) (nx := 7) (by decide +kernel) (by decide) ?_
      refine xW_lv rfl (l := [(0, xR_ (x0)), (3, xI (x3)), (4, xI (x4)), (5, xI (xwr ((x5) + (1))))]) (xsb_of ⟨rfl, rfl, rfl, rfl, trivial⟩ (show [5, 0, 3, 4].Nodup by decide)) ?_
      exact hr7 hx3 hx4 (xin_wr _) h
    · rw [if_neg c104] at h
      refine xe_ldn (ins := .iload 5) (len := 2) (by decide +kernel) rfl rfl rfl rfl ?_
      cases h
      exact xe_ret_i (ty := .int) (by decide +kernel) rfl rfl ⟨rfl, rfl, hx5⟩
def f396_7   (f : Nat) : Nat → Nat → Int → Int → Int → xj_M → Option (Int × xj_M)
  | 0, _, _, _, _, _ => none
  | n + 1, x0, x3, x4, x5, M => f396_7b   (f396_7   f n) f x0 x3 x4 x5 M
theorem k396_7 {d f : Nat}     : ∀ {n : Nat} {x0 : Nat} {x3 : Int} {x4 : Int} {x5 : Int} {M : xj_M} {R : Int × xj_M}, xin x3 → xin x4 → xin x5 → f396_7   f n x0 x3 x4 x5 M = some R → xW (d + 0) (none, d + 0, none) xr_396 (7, [(0, xR_ x0), (3, xI x3), (4, xI x4), (5, xI x5)], [], M) (xQi R) := by
  intro n
  induction n with
  | zero => intros; rename_i h; cases h
  | succ n ih => intros; rename_i h; exact k396_7b   ih (by assumption) (by assumption) (by assumption) h
def f396  (f : Nat) (a0 : Nat) (a1 : Int) (a2 : Int) (a3 : Int) (M : xj_M) : Option (Int × xj_M) := f396_7   f f (a0) (a3) (xi2b (a1)) (a2) M
theorem k396 {d f : Nat}   {a0 : Nat} {a1 : Int} {a2 : Int} {a3 : Int} {M : xj_M} {R : Int × xj_M} (ha1 : xin a1) (ha2 : xin a2) (ha3 : xin a3) (h : f396  f a0 a1 a2 a3 M = some R) : xT (d + 1) 396 [xR_ a0, xI a1, xI a2, xI a3] M (xQi R) := by
  refine xT_m xr_396_e (X := (none, d + 0, none)) rfl (xa_1 (xR_cat _) (xa_1 (xI_cat _) (xa_1 (xI_cat _) (xa_1 (xI_cat _) xa_n)))) (by decide) ?_
  unfold f396 at h
  refine xe_ldn (ins := .iload_n 1) (len := 1) (by decide +kernel) rfl rfl rfl rfl ?_
  refine xe_i2b (by decide +kernel) rfl ?_
  refine xe_isr (ins := .istore 4) (len := 2) (i := 4) (by decide +kernel) rfl rfl rfl (by decide) (xk_k (show ¬ (0 : Nat) = 4 by decide) (Or.inl (show ¬ (0 + 1 : Nat) = 4 by decide)) (xk_k (show ¬ (1 : Nat) = 4 by decide) (Or.inl (show ¬ (1 + 1 : Nat) = 4 by decide)) (xk_k (show ¬ (2 : Nat) = 4 by decide) (Or.inl (show ¬ (2 + 1 : Nat) = 4 by decide)) (xk_k (show ¬ (3 : Nat) = 4 by decide) (Or.inr (xI_cat _)) xk_n)))) rfl ?_
  refine xe_ldn (ins := .iload_n 2) (len := 1) (by decide +kernel) rfl rfl rfl rfl ?_
  refine xe_isr (ins := .istore 5) (len := 2) (i := 5) (by decide +kernel) rfl rfl rfl (by decide) (xk_k (show ¬ (4 : Nat) = 5 by decide) (Or.inr (xI_cat _)) (xk_k (show ¬ (0 : Nat) = 5 by decide) (Or.inl (show ¬ (0 + 1 : Nat) = 5 by decide)) (xk_k (show ¬ (1 : Nat) = 5 by decide) (Or.inl (show ¬ (1 + 1 : Nat) = 5 by decide)) (xk_k (show ¬ (2 : Nat) = 5 by decide) (Or.inl (show ¬ (2 + 1 : Nat) = 5 by decide)) (xk_k (show ¬ (3 : Nat) = 5 by decide) (Or.inl (show ¬ (3 + 1 : Nat) = 5 by decide)) xk_n))))) rfl ?_
  refine xW_lv rfl (l := [(0, xR_ (a0)), (3, xI (a3)), (4, xI (xi2b (a1))), (5, xI (a2))]) (xsb_of ⟨rfl, rfl, rfl, rfl, trivial⟩ (show [5, 4, 0, 1, 2, 3].Nodup by decide)) ?_
  exact k396_7   ha3 (xin_of _) ha2 h
-- ChangeHouseModel$Facts.add
def xr_198 : xj_mR := (12, yX12_add, cX12_add, 8, (Option.none : Option Jvm.ClassFile.FieldType), 4, false, (10, 32), (1, 19))
set_option maxRecDepth 20000 in
theorem xr_198_e : xj_row 198 = some xr_198 := rfl
def f198_139  (r104 : Nat → Int → Nat → Int → Int → Int → xj_M → Option (xj_M)) (f : Nat) (x0 : Nat) (x3 : Int) (x4 : Nat) (x5 : Int) (x6 : Int) (x7 : Int) (y0 : Int) (y1 : Int) (y2 : Nat) (M : xj_M) : Option (xj_M) := ((xq_sl (y2) (y1) (y0) M).bind fun M101 => r104 (x0) (x3) (x4) (x5) (x6) (xwr ((x7) + (1))) M101)
theorem k198_139 {d f : Nat}  {r104 : Nat → Int → Nat → Int → Int → Int → xj_M → Option (xj_M)}  (hr104 : ∀ {x0 : Nat} {x3 : Int} {x4 : Nat} {x5 : Int} {x6 : Int} {x7 : Int} {M : xj_M} {R : xj_M}, xin x3 → xin x5 → xin x6 → xin x7 → r104 x0 x3 x4 x5 x6 x7 M = some R → xW (d + 2) (none, d + 2, none) xr_198 (104, [(0, xR_ x0), (3, xI x3), (4, xR_ x4), (5, xI x5), (6, xI x6), (7, xI x7)], [], M) (xQv R)) {x0 : Nat} {x3 : Int} {x4 : Nat} {x5 : Int} {x6 : Int} {x7 : Int} {y0 : Int} {y1 : Int} {y2 : Nat} {M : xj_M} {R : xj_M} (hx3 : xin x3) (hx5 : xin x5) (hx6 : xin x6) (hx7 : xin x7) (hy0 : xiN y0) (hy1 : xin y1) (h : f198_139  r104 f x0 x3 x4 x5 x6 x7 y0 y1 y2 M = some R) : xW (d + 2) (none, d + 2, none) xr_198 (139, [(0, xR_ x0), (3, xI x3), (4, xR_ x4), (5, xI x5), (6, xI x6), (7, xI x7)], [xZ y0, xI y1, xR_ y2], M) (xQv R) := by
  unfold f198_139 at h
  obtain ⟨M101, e102, h⟩ := xbnd h
  refine xs_last (by decide +kernel) hy1 e102 rfl ?_
  refine xe_iincr (i := 7) (n := 1) (by decide +kernel) (by decide) rfl (xk_k (show ¬ (0 : Nat) = 7 by decide) (Or.inl (show ¬ (0 + 1 : Nat) = 7 by decide)) (xk_k (show ¬ (3 : Nat) = 7 by decide) (Or.inl (show ¬ (3 + 1 : Nat) = 7 by decide)) (xk_k (show ¬ (4 : Nat) = 7 by decide) (Or.inl (show ¬ (4 + 1 : Nat) = 7 by decide)) (xk_k (show ¬ (5 : Nat) = 7 by decide) (Or.inl (show ¬ (5 + 1 : Nat) = 7 by decide)) (xk_k (show ¬ (6 : Nat) = 7 by decide) (Or.inr (xI_cat _)) (xk_d rfl xk_n)))))) rfl ?_
  refine xe_goto (off := -39) (nx := 104) (by decide +kernel) (by decide) ?_
  refine xW_lv rfl (l := [(0, xR_ (x0)), (3, xI (x3)), (4, xR_ (x4)), (5, xI (x5)), (6, xI (x6)), (7, xI (xwr ((x7) + (1))))]) (xsb_of ⟨rfl, rfl, rfl, rfl, rfl, rfl, trivial⟩ (show [7, 0, 3, 4, 5, 6].Nodup by decide)) ?_
  exact hr104 hx3 hx5 hx6 (xin_wr _) h
def f198_104b  (r104 : Nat → Int → Nat → Int → Int → Int → xj_M → Option (xj_M)) (f : Nat) (x0 : Nat) (x3 : Int) (x4 : Nat) (x5 : Int) (x6 : Int) (x7 : Int) (M : xj_M) : Option (xj_M) := (if (4) ≤ (x7) then ((xq_gi 12 3 (x0) M).bind fun v104 => ((xq_pi 12 3 (x0) (xwr ((v104) + (1))) M).bind fun M106 => (some M106))) else ((xq_gr 12 1 (x0) M).bind fun v108 => (if (x3) ≤ (x7) then f198_139  r104 f (x0) (x3) (x4) (x5) (x6) (x7) (0) (xwr ((xwr ((4) * (x6))) + (x7))) (v108) M else ((xq_al (x4) (xwr ((x5) + (x7))) M).bind fun v111 => f198_139  r104 f (x0) (x3) (x4) (x5) (x6) (x7) (v111) (xwr ((xwr ((4) * (x6))) + (x7))) (v108) M))))
theorem k198_104b {d f : Nat}  {r104 : Nat → Int → Nat → Int → Int → Int → xj_M → Option (xj_M)}  (hr104 : ∀ {x0 : Nat} {x3 : Int} {x4 : Nat} {x5 : Int} {x6 : Int} {x7 : Int} {M : xj_M} {R : xj_M}, xin x3 → xin x5 → xin x6 → xin x7 → r104 x0 x3 x4 x5 x6 x7 M = some R → xW (d + 2) (none, d + 2, none) xr_198 (104, [(0, xR_ x0), (3, xI x3), (4, xR_ x4), (5, xI x5), (6, xI x6), (7, xI x7)], [], M) (xQv R)) {x0 : Nat} {x3 : Int} {x4 : Nat} {x5 : Int} {x6 : Int} {x7 : Int} {M : xj_M} {R : xj_M} (hx3 : xin x3) (hx5 : xin x5) (hx6 : xin x6) (hx7 : xin x7) (h : f198_104b  r104 f x0 x3 x4 x5 x6 x7 M = some R) : xW (d + 2) (none, d + 2, none) xr_198 (104, [(0, xR_ x0), (3, xI x3), (4, xR_ x4), (5, xI x5), (6, xI x6), (7, xI x7)], [], M) (xQv R) := by
  unfold f198_104b at h
  refine xe_ldn (ins := .iload 7) (len := 2) (by decide +kernel) rfl rfl rfl rfl ?_
  refine xe_iconst (n := 4) (by decide +kernel) rfl ?_
  refine xe_icmpge (off := 39) (t := 146) (by decide +kernel) (by decide) rfl hx7 (show xin (4) by decide) (fun c103 => ?_) (fun c103 => ?_)
  · rw [if_pos c103] at h
    refine xe_alr (ins := .aload_n 0) (len := 1) (i := 0) (by decide +kernel) rfl rfl rfl rfl rfl ?_
    refine xe_dupr (by decide +kernel) rfl ?_
    obtain ⟨v104, e105, h⟩ := xbnd h
    refine xs_gi (i := 22) (c := 12) (k := 3) (by decide +kernel) (by decide) (by decide +kernel) e105 rfl ?_
    refine xe_iconst (n := 1) (by decide +kernel) rfl ?_
    refine xe_iadd (by decide +kernel) rfl ?_
    obtain ⟨M106, e107, h⟩ := xbnd h
    refine xs_p (i := 22) (c := 12) (k := 3) (by decide +kernel) (by decide +kernel) (by decide +kernel) e107 rfl ?_
    cases h
    exact xe_ret_v (by decide +kernel) rfl ⟨rfl, rfl⟩
  · rw [if_neg c103] at h
    refine xe_alr (ins := .aload_n 0) (len := 1) (i := 0) (by decide +kernel) rfl rfl rfl rfl rfl ?_
    obtain ⟨v108, e109, h⟩ := xbnd h
    refine xs_gr (i := 15) (c := 12) (k := 1) (by decide +kernel) (by decide) (by decide +kernel) e109 rfl ?_
    refine xe_iconst (n := 4) (by decide +kernel) rfl ?_
    refine xe_ldn (ins := .iload 6) (len := 2) (by decide +kernel) rfl rfl rfl rfl ?_
    refine xe_imul (by decide +kernel) rfl ?_
    refine xe_ldn (ins := .iload 7) (len := 2) (by decide +kernel) rfl rfl rfl rfl ?_
    refine xe_iadd (by decide +kernel) rfl ?_
    refine xe_ldn (ins := .iload 7) (len := 2) (by decide +kernel) rfl rfl rfl rfl ?_
    refine xe_ldn (ins := .iload_n 3) (len := 1) (by decide +kernel) rfl rfl rfl rfl ?_
    refine xe_icmpge (off := 14) (t := 138) (by decide +kernel) (by decide) rfl hx7 hx3 (fun c110 => ?_) (fun c110 => ?_)
    · rw [if_pos c110] at h
      refine xe_lconst (n := 0) (z := 0) (by decide +kernel) rfl rfl ?_
      refine xW_lv rfl (l := [(0, xR_ (x0)), (3, xI (x3)), (4, xR_ (x4)), (5, xI (x5)), (6, xI (x6)), (7, xI (x7))]) (xsb_of ⟨rfl, rfl, rfl, rfl, rfl, rfl, trivial⟩ (show [0, 3, 4, 5, 6, 7].Nodup by decide)) ?_
      exact k198_139  hr104 hx3 hx5 hx6 hx7 (show xiN (0) by decide) (xin_wr _) h
    · rw [if_neg c110] at h
      refine xe_alr (ins := .aload 4) (len := 2) (i := 4) (by decide +kernel) rfl rfl rfl rfl rfl ?_
      refine xe_ldn (ins := .iload 5) (len := 2) (by decide +kernel) rfl rfl rfl rfl ?_
      refine xe_ldn (ins := .iload 7) (len := 2) (by decide +kernel) rfl rfl rfl rfl ?_
      refine xe_iadd (by decide +kernel) rfl ?_
      obtain ⟨v111, e112, h⟩ := xbnd h
      refine xs_lald (by decide +kernel) (xin_wr _) e112 rfl ?_
      refine xe_goto (off := 4) (nx := 139) (by decide +kernel) (by decide) ?_
      refine xW_lv rfl (l := [(0, xR_ (x0)), (3, xI (x3)), (4, xR_ (x4)), (5, xI (x5)), (6, xI (x6)), (7, xI (x7))]) (xsb_of ⟨rfl, rfl, rfl, rfl, rfl, rfl, trivial⟩ (show [0, 3, 4, 5, 6, 7].Nodup by decide)) ?_
      exact k198_139  hr104 hx3 hx5 hx6 hx7 (xq_al_in e112) (xin_wr _) h
def f198_104   (f : Nat) : Nat → Nat → Int → Nat → Int → Int → Int → xj_M → Option (xj_M)
  | 0, _, _, _, _, _, _, _ => none
  | n + 1, x0, x3, x4, x5, x6, x7, M => f198_104b   (f198_104   f n) f x0 x3 x4 x5 x6 x7 M
theorem k198_104 {d f : Nat}     : ∀ {n : Nat} {x0 : Nat} {x3 : Int} {x4 : Nat} {x5 : Int} {x6 : Int} {x7 : Int} {M : xj_M} {R : xj_M}, xin x3 → xin x5 → xin x6 → xin x7 → f198_104   f n x0 x3 x4 x5 x6 x7 M = some R → xW (d + 2) (none, d + 2, none) xr_198 (104, [(0, xR_ x0), (3, xI x3), (4, xR_ x4), (5, xI x5), (6, xI x6), (7, xI x7)], [], M) (xQv R) := by
  intro n
  induction n with
  | zero => intros; rename_i h; cases h
  | succ n ih => intros; rename_i h; exact k198_104b   ih (by assumption) (by assumption) (by assumption) (by assumption) h
def f198_62b  (r62 : Nat → Int → Int → Nat → Int → Int → Int → xj_M → Option (xj_M)) (f : Nat) (x0 : Nat) (x1 : Int) (x3 : Int) (x4 : Nat) (x5 : Int) (x6 : Int) (x7 : Int) (M : xj_M) : Option (xj_M) := (if (x7) ≤ (x6) then ((xq_gr 12 0 (x0) M).bind fun v114 => ((xq_sl (v114) (x6) (x1) M).bind fun M116 => ((xq_gr 12 2 (x0) M116).bind fun v118 => ((xq_si (v118) (x6) (x3) M116).bind fun M120 => f198_104   f f (x0) (x3) (x4) (x5) (x6) (0) M120)))) else ((xq_is 12 (x0) M).bind fun _ => ((f200  f (x0) (xwr ((x7) - (1))) (x7) M).bind fun M124 => r62 (x0) (x1) (x3) (x4) (x5) (x6) (xwr ((x7) + (-1))) M124)))
theorem k198_62b {d f : Nat}  {r62 : Nat → Int → Int → Nat → Int → Int → Int → xj_M → Option (xj_M)}  (hr62 : ∀ {x0 : Nat} {x1 : Int} {x3 : Int} {x4 : Nat} {x5 : Int} {x6 : Int} {x7 : Int} {M : xj_M} {R : xj_M}, xiN x1 → xin x3 → xin x5 → xin x6 → xin x7 → r62 x0 x1 x3 x4 x5 x6 x7 M = some R → xW (d + 2) (none, d + 2, none) xr_198 (62, [(0, xR_ x0), (1, xZ x1), (3, xI x3), (4, xR_ x4), (5, xI x5), (6, xI x6), (7, xI x7)], [], M) (xQv R)) {x0 : Nat} {x1 : Int} {x3 : Int} {x4 : Nat} {x5 : Int} {x6 : Int} {x7 : Int} {M : xj_M} {R : xj_M} (hx1 : xiN x1) (hx3 : xin x3) (hx5 : xin x5) (hx6 : xin x6) (hx7 : xin x7) (h : f198_62b  r62 f x0 x1 x3 x4 x5 x6 x7 M = some R) : xW (d + 2) (none, d + 2, none) xr_198 (62, [(0, xR_ x0), (1, xZ x1), (3, xI x3), (4, xR_ x4), (5, xI x5), (6, xI x6), (7, xI x7)], [], M) (xQv R) := by
  unfold f198_62b at h
  refine xe_ldn (ins := .iload 7) (len := 2) (by decide +kernel) rfl rfl rfl rfl ?_
  refine xe_ldn (ins := .iload 6) (len := 2) (by decide +kernel) rfl rfl rfl rfl ?_
  refine xe_icmple (off := 19) (t := 85) (by decide +kernel) (by decide) rfl hx7 hx6 (fun c113 => ?_) (fun c113 => ?_)
  · rw [if_pos c113] at h
    refine xe_alr (ins := .aload_n 0) (len := 1) (i := 0) (by decide +kernel) rfl rfl rfl rfl rfl ?_
    obtain ⟨v114, e115, h⟩ := xbnd h
    refine xs_gr (i := 9) (c := 12) (k := 0) (by decide +kernel) (by decide) (by decide +kernel) e115 rfl ?_
    refine xe_ldn (ins := .iload 6) (len := 2) (by decide +kernel) rfl rfl rfl rfl ?_
    refine xe_ldn (ins := .lload_n 1) (len := 1) (by decide +kernel) rfl rfl rfl rfl ?_
    obtain ⟨M116, e117, h⟩ := xbnd h
    refine xs_last (by decide +kernel) hx6 e117 rfl ?_
    refine xe_alr (ins := .aload_n 0) (len := 1) (i := 0) (by decide +kernel) rfl rfl rfl rfl rfl ?_
    obtain ⟨v118, e119, h⟩ := xbnd h
    refine xs_gr (i := 18) (c := 12) (k := 2) (by decide +kernel) (by decide) (by decide +kernel) e119 rfl ?_
    refine xe_ldn (ins := .iload 6) (len := 2) (by decide +kernel) rfl rfl rfl rfl ?_
    refine xe_ldn (ins := .iload_n 3) (len := 1) (by decide +kernel) rfl rfl rfl rfl ?_
    obtain ⟨M120, e121, h⟩ := xbnd h
    refine xs_iast (by decide +kernel) hx6 e121 rfl ?_
    refine xe_iconst (n := 0) (by decide +kernel) rfl ?_
    refine xe_isr (ins := .istore 7) (len := 2) (i := 7) (by decide +kernel) rfl rfl rfl (by decide) (xk_k (show ¬ (0 : Nat) = 7 by decide) (Or.inl (show ¬ (0 + 1 : Nat) = 7 by decide)) (xk_k (show ¬ (1 : Nat) = 7 by decide) (Or.inl (show ¬ (1 + 1 : Nat) = 7 by decide)) (xk_k (show ¬ (3 : Nat) = 7 by decide) (Or.inl (show ¬ (3 + 1 : Nat) = 7 by decide)) (xk_k (show ¬ (4 : Nat) = 7 by decide) (Or.inl (show ¬ (4 + 1 : Nat) = 7 by decide)) (xk_k (show ¬ (5 : Nat) = 7 by decide) (Or.inl (show ¬ (5 + 1 : Nat) = 7 by decide)) (xk_k (show ¬ (6 : Nat) = 7 by decide) (Or.inr (xI_cat _)) (xk_d rfl xk_n))))))) rfl ?_
    refine xW_lv rfl (l := [(0, xR_ (x0)), (3, xI (x3)), (4, xR_ (x4)), (5, xI (x5)), (6, xI (x6)), (7, xI (0))]) (xsb_of ⟨rfl, rfl, rfl, rfl, rfl, rfl, trivial⟩ (show [7, 0, 1, 3, 4, 5, 6].Nodup by decide)) ?_
    exact k198_104   hx3 hx5 hx6 (show xin (0) by decide) h
  · rw [if_neg c113] at h
    refine xe_alr (ins := .aload_n 0) (len := 1) (i := 0) (by decide +kernel) rfl rfl rfl rfl rfl ?_
    refine xe_ldn (ins := .iload 7) (len := 2) (by decide +kernel) rfl rfl rfl rfl ?_
    refine xe_iconst (n := 1) (by decide +kernel) rfl ?_
    refine xe_isub (by decide +kernel) rfl ?_
    refine xe_ldn (ins := .iload 7) (len := 2) (by decide +kernel) rfl rfl rfl rfl ?_
    obtain ⟨_, e123, h⟩ := xbnd h
    obtain ⟨M124, e122, h⟩ := xbnd h
    refine xs_cv (i := 34) (j := 200) (ar := [xI (x7), xI (xwr ((x7) - (1)))]) (rest := []) (r2 := xr_200) (by decide +kernel) (by decide +kernel) (by decide +kernel) xr_200_e rfl (by decide) (by decide) e123 ?_
    refine xc_v (k200 (d := d + 1)  (xin_wr _) hx7 e122) rfl ?_
    refine xe_iincr (i := 7) (n := -1) (by decide +kernel) (by decide) rfl (xk_k (show ¬ (0 : Nat) = 7 by decide) (Or.inl (show ¬ (0 + 1 : Nat) = 7 by decide)) (xk_k (show ¬ (1 : Nat) = 7 by decide) (Or.inl (show ¬ (1 + 1 : Nat) = 7 by decide)) (xk_k (show ¬ (3 : Nat) = 7 by decide) (Or.inl (show ¬ (3 + 1 : Nat) = 7 by decide)) (xk_k (show ¬ (4 : Nat) = 7 by decide) (Or.inl (show ¬ (4 + 1 : Nat) = 7 by decide)) (xk_k (show ¬ (5 : Nat) = 7 by decide) (Or.inl (show ¬ (5 + 1 : Nat) = 7 by decide)) (xk_k (show ¬ (6 : Nat) = 7 by decide) (Or.inr (xI_cat _)) (xk_d rfl xk_n))))))) rfl ?_
    refine xe_goto (off := -20) (nx := 62) (by decide +kernel) (by decide) ?_
    refine xW_lv rfl (l := [(0, xR_ (x0)), (1, xZ (x1)), (3, xI (x3)), (4, xR_ (x4)), (5, xI (x5)), (6, xI (x6)), (7, xI (xwr ((x7) + (-1))))]) (xsb_of ⟨rfl, rfl, rfl, rfl, rfl, rfl, rfl, trivial⟩ (show [7, 0, 1, 3, 4, 5, 6].Nodup by decide)) ?_
    exact hr62 hx1 hx3 hx5 hx6 (xin_wr _) h
def f198_62   (f : Nat) : Nat → Nat → Int → Int → Nat → Int → Int → Int → xj_M → Option (xj_M)
  | 0, _, _, _, _, _, _, _, _ => none
  | n + 1, x0, x1, x3, x4, x5, x6, x7, M => f198_62b   (f198_62   f n) f x0 x1 x3 x4 x5 x6 x7 M
theorem k198_62 {d f : Nat}     : ∀ {n : Nat} {x0 : Nat} {x1 : Int} {x3 : Int} {x4 : Nat} {x5 : Int} {x6 : Int} {x7 : Int} {M : xj_M} {R : xj_M}, xiN x1 → xin x3 → xin x5 → xin x6 → xin x7 → f198_62   f n x0 x1 x3 x4 x5 x6 x7 M = some R → xW (d + 2) (none, d + 2, none) xr_198 (62, [(0, xR_ x0), (1, xZ x1), (3, xI x3), (4, xR_ x4), (5, xI x5), (6, xI x6), (7, xI x7)], [], M) (xQv R) := by
  intro n
  induction n with
  | zero => intros; rename_i h; cases h
  | succ n ih => intros; rename_i h; exact k198_62b   ih (by assumption) (by assumption) (by assumption) (by assumption) (by assumption) h
def f198_56   (f : Nat) (x0 : Nat) (x1 : Int) (x3 : Int) (x4 : Nat) (x5 : Int) (x6 : Int) (M : xj_M) : Option (xj_M) := ((xq_gi 12 3 (x0) M).bind fun v126 => f198_62   f f (x0) (x1) (x3) (x4) (x5) (x6) (v126) M)
theorem k198_56 {d f : Nat}     {x0 : Nat} {x1 : Int} {x3 : Int} {x4 : Nat} {x5 : Int} {x6 : Int} {M : xj_M} {R : xj_M} (hx1 : xiN x1) (hx3 : xin x3) (hx5 : xin x5) (hx6 : xin x6) (h : f198_56   f x0 x1 x3 x4 x5 x6 M = some R) : xW (d + 2) (none, d + 2, none) xr_198 (56, [(0, xR_ x0), (1, xZ x1), (3, xI x3), (4, xR_ x4), (5, xI x5), (6, xI x6)], [], M) (xQv R) := by
  unfold f198_56 at h
  refine xe_alr (ins := .aload_n 0) (len := 1) (i := 0) (by decide +kernel) rfl rfl rfl rfl rfl ?_
  obtain ⟨v126, e127, h⟩ := xbnd h
  refine xs_gi (i := 22) (c := 12) (k := 3) (by decide +kernel) (by decide) (by decide +kernel) e127 rfl ?_
  refine xe_isr (ins := .istore 7) (len := 2) (i := 7) (by decide +kernel) rfl rfl rfl (by decide) (xk_k (show ¬ (0 : Nat) = 7 by decide) (Or.inl (show ¬ (0 + 1 : Nat) = 7 by decide)) (xk_k (show ¬ (1 : Nat) = 7 by decide) (Or.inl (show ¬ (1 + 1 : Nat) = 7 by decide)) (xk_k (show ¬ (3 : Nat) = 7 by decide) (Or.inl (show ¬ (3 + 1 : Nat) = 7 by decide)) (xk_k (show ¬ (4 : Nat) = 7 by decide) (Or.inl (show ¬ (4 + 1 : Nat) = 7 by decide)) (xk_k (show ¬ (5 : Nat) = 7 by decide) (Or.inl (show ¬ (5 + 1 : Nat) = 7 by decide)) (xk_k (show ¬ (6 : Nat) = 7 by decide) (Or.inr (xI_cat _)) xk_n)))))) rfl ?_
  refine xW_lv rfl (l := [(0, xR_ (x0)), (1, xZ (x1)), (3, xI (x3)), (4, xR_ (x4)), (5, xI (x5)), (6, xI (x6)), (7, xI (v126))]) (xsb_of ⟨rfl, rfl, rfl, rfl, rfl, rfl, rfl, trivial⟩ (show [7, 0, 1, 3, 4, 5, 6].Nodup by decide)) ?_
  exact k198_62   hx1 hx3 hx5 hx6 (xq_gi_in e127) h
def f198  (f : Nat) (a0 : Nat) (a1 : Int) (a2 : Int) (a3 : Nat) (a4 : Int) (M : xj_M) : Option (xj_M) := ((xq_is 12 (a0) M).bind fun _ => ((f196  f (a0) (a1) (a2) (a3) (a4) M).bind fun R130 => ((xq_gi 12 3 (a0) R130.2).bind fun v132 => (if (v132) ≤ (R130.1) then f198_56   f (a0) (a1) (a2) (a3) (a4) (R130.1) R130.2 else ((xq_gr 12 0 (a0) R130.2).bind fun v135 => ((xq_al (v135) (R130.1) R130.2).bind fun v137 => ((xq_gr 12 2 (a0) R130.2).bind fun v139 => ((xq_ai 3 (v139) (R130.1) R130.2).bind fun v141 => ((xq_gr 12 1 (a0) R130.2).bind fun v143 => ((f195  f (v137) (v141) (v143) (xwr ((4) * (R130.1))) (a1) (a2) (a3) (a4) R130.2).bind fun R146 => (if ¬ (R146.1) = 0 then f198_56   f (a0) (a1) (a2) (a3) (a4) (R130.1) R146.2 else (some R146.2))))))))))))
theorem k198 {d f : Nat}   {a0 : Nat} {a1 : Int} {a2 : Int} {a3 : Nat} {a4 : Int} {M : xj_M} {R : xj_M} (ha1 : xiN a1) (ha2 : xin a2) (ha4 : xin a4) (h : f198  f a0 a1 a2 a3 a4 M = some R) : xT (d + 3) 198 [xR_ a0, xZ a1, xI a2, xR_ a3, xI a4] M (xQv R) := by
  refine xT_m xr_198_e (X := (none, d + 2, none)) rfl (xa_1 (xR_cat _) (xa_2 (xZ_cat _) (xa_1 (xI_cat _) (xa_1 (xR_cat _) (xa_1 (xI_cat _) xa_n))))) (by decide) ?_
  unfold f198 at h
  refine xe_alr (ins := .aload_n 0) (len := 1) (i := 0) (by decide +kernel) rfl rfl rfl rfl rfl ?_
  refine xe_ldn (ins := .lload_n 1) (len := 1) (by decide +kernel) rfl rfl rfl rfl ?_
  refine xe_ldn (ins := .iload_n 3) (len := 1) (by decide +kernel) rfl rfl rfl rfl ?_
  refine xe_alr (ins := .aload 4) (len := 2) (i := 4) (by decide +kernel) rfl rfl rfl rfl rfl ?_
  refine xe_ldn (ins := .iload 5) (len := 2) (by decide +kernel) rfl rfl rfl rfl ?_
  obtain ⟨_, e129, h⟩ := xbnd h
  obtain ⟨R130, e128, h⟩ := xbnd h
  refine xs_cv (i := 30) (j := 196) (ar := [xI (a4), xR_ (a3), xI (a2), xZ (a1)]) (rest := []) (r2 := xr_196) (by decide +kernel) (by decide +kernel) (by decide +kernel) xr_196_e rfl (by decide) (by decide) e129 ?_
  refine xc_i (k196 (d := d + 0)  ha1 ha2 ha4 e128) rfl (fun hi131 => ?_)
  refine xe_isr (ins := .istore 6) (len := 2) (i := 6) (by decide +kernel) rfl rfl rfl (by decide) (xk_k (show ¬ (0 : Nat) = 6 by decide) (Or.inl (show ¬ (0 + 1 : Nat) = 6 by decide)) (xk_k (show ¬ (1 : Nat) = 6 by decide) (Or.inl (show ¬ (1 + 1 : Nat) = 6 by decide)) (xk_k (show ¬ (3 : Nat) = 6 by decide) (Or.inl (show ¬ (3 + 1 : Nat) = 6 by decide)) (xk_k (show ¬ (4 : Nat) = 6 by decide) (Or.inl (show ¬ (4 + 1 : Nat) = 6 by decide)) (xk_k (show ¬ (5 : Nat) = 6 by decide) (Or.inr (xI_cat _)) xk_n))))) rfl ?_
  refine xe_ldn (ins := .iload 6) (len := 2) (by decide +kernel) rfl rfl rfl rfl ?_
  refine xe_alr (ins := .aload_n 0) (len := 1) (i := 0) (by decide +kernel) rfl rfl rfl rfl rfl ?_
  obtain ⟨v132, e133, h⟩ := xbnd h
  refine xs_gi (i := 22) (c := 12) (k := 3) (by decide +kernel) (by decide) (by decide +kernel) e133 rfl ?_
  refine xe_icmpge (off := 38) (t := 56) (by decide +kernel) (by decide) rfl hi131 (xq_gi_in e133) (fun c134 => ?_) (fun c134 => ?_)
  · rw [if_pos c134] at h
    refine xW_lv rfl (l := [(0, xR_ (a0)), (1, xZ (a1)), (3, xI (a2)), (4, xR_ (a3)), (5, xI (a4)), (6, xI (R130.1))]) (xsb_of ⟨rfl, rfl, rfl, rfl, rfl, rfl, trivial⟩ (show [6, 0, 1, 3, 4, 5].Nodup by decide)) ?_
    exact k198_56   ha1 ha2 ha4 hi131 h
  · rw [if_neg c134] at h
    refine xe_alr (ins := .aload_n 0) (len := 1) (i := 0) (by decide +kernel) rfl rfl rfl rfl rfl ?_
    obtain ⟨v135, e136, h⟩ := xbnd h
    refine xs_gr (i := 9) (c := 12) (k := 0) (by decide +kernel) (by decide) (by decide +kernel) e136 rfl ?_
    refine xe_ldn (ins := .iload 6) (len := 2) (by decide +kernel) rfl rfl rfl rfl ?_
    obtain ⟨v137, e138, h⟩ := xbnd h
    refine xs_lald (by decide +kernel) hi131 e138 rfl ?_
    refine xe_alr (ins := .aload_n 0) (len := 1) (i := 0) (by decide +kernel) rfl rfl rfl rfl rfl ?_
    obtain ⟨v139, e140, h⟩ := xbnd h
    refine xs_gr (i := 18) (c := 12) (k := 2) (by decide +kernel) (by decide) (by decide +kernel) e140 rfl ?_
    refine xe_ldn (ins := .iload 6) (len := 2) (by decide +kernel) rfl rfl rfl rfl ?_
    obtain ⟨v141, e142, h⟩ := xbnd h
    refine xs_iald rfl (by decide +kernel) hi131 e142 rfl ?_
    refine xe_alr (ins := .aload_n 0) (len := 1) (i := 0) (by decide +kernel) rfl rfl rfl rfl rfl ?_
    obtain ⟨v143, e144, h⟩ := xbnd h
    refine xs_gr (i := 15) (c := 12) (k := 1) (by decide +kernel) (by decide) (by decide +kernel) e144 rfl ?_
    refine xe_iconst (n := 4) (by decide +kernel) rfl ?_
    refine xe_ldn (ins := .iload 6) (len := 2) (by decide +kernel) rfl rfl rfl rfl ?_
    refine xe_imul (by decide +kernel) rfl ?_
    refine xe_ldn (ins := .lload_n 1) (len := 1) (by decide +kernel) rfl rfl rfl rfl ?_
    refine xe_ldn (ins := .iload_n 3) (len := 1) (by decide +kernel) rfl rfl rfl rfl ?_
    refine xe_alr (ins := .aload 4) (len := 2) (i := 4) (by decide +kernel) rfl rfl rfl rfl rfl ?_
    refine xe_ldn (ins := .iload 5) (len := 2) (by decide +kernel) rfl rfl rfl rfl ?_
    obtain ⟨R146, e145, h⟩ := xbnd h
    refine xs_cs (kd := 2) (by decide) (i := 26) (j := 195) (ar := [xI (a4), xR_ (a3), xI (a2), xZ (a1), xI (xwr ((4) * (R130.1))), xR_ (v143), xI (v141), xZ (v137)]) (rest := []) (r2 := xr_195) (by decide +kernel) (by decide +kernel) (by decide +kernel) xr_195_e rfl (by decide) ?_
    refine xc_i (k195 (d := d + 1)  (xq_al_in e138) (xq_ai_in e142) (xin_wr _) ha1 ha2 ha4 e145) rfl (fun hi147 => ?_)
    refine xe_ifne (off := 4) (t := 56) (by decide +kernel) (by decide) rfl hi147 (fun c148 => ?_) (fun c148 => ?_)
    · rw [if_pos c148] at h
      refine xW_lv rfl (l := [(0, xR_ (a0)), (1, xZ (a1)), (3, xI (a2)), (4, xR_ (a3)), (5, xI (a4)), (6, xI (R130.1))]) (xsb_of ⟨rfl, rfl, rfl, rfl, rfl, rfl, trivial⟩ (show [6, 0, 1, 3, 4, 5].Nodup by decide)) ?_
      exact k198_56   ha1 ha2 ha4 hi131 h
    · rw [if_neg c148] at h
      cases h
      exact xe_ret_v (by decide +kernel) rfl ⟨rfl, rfl⟩
-- ChangeHouseModel$Facts.remove
def xr_199 : xj_mR := (12, yX12_remove, cX12_remove, 8, (Option.none : Option Jvm.ClassFile.FieldType), 4, false, (10, 193), (1, 19))
set_option maxRecDepth 20000 in
theorem xr_199_e : xj_row 199 = some xr_199 := rfl
def f199_55   (f : Nat)  (M : xj_M) : Option (xj_M) := (some M)
theorem k199_55 {d f : Nat}      {M : xj_M} {R : xj_M}  (h : f199_55   f  M = some R) : xW (d + 2) (none, d + 2, none) xr_199 (55, [], [], M) (xQv R) := by
  unfold f199_55 at h
  cases h
  exact xe_ret_v (by decide +kernel) rfl ⟨rfl, rfl⟩
def f199_70b  (r70 : Nat → Int → xj_M → Option (xj_M)) (f : Nat) (x0 : Nat) (x7 : Int) (M : xj_M) : Option (xj_M) := ((xq_gi 12 3 (x0) M).bind fun v101 => (if (v101) ≤ (x7) then (some M) else ((xq_is 12 (x0) M).bind fun _ => ((f200  f (x0) (xwr ((x7) + (1))) (x7) M).bind fun M106 => r70 (x0) (xwr ((x7) + (1))) M106))))
theorem k199_70b {d f : Nat}  {r70 : Nat → Int → xj_M → Option (xj_M)}  (hr70 : ∀ {x0 : Nat} {x7 : Int} {M : xj_M} {R : xj_M}, xin x7 → r70 x0 x7 M = some R → xW (d + 2) (none, d + 2, none) xr_199 (70, [(0, xR_ x0), (7, xI x7)], [], M) (xQv R)) {x0 : Nat} {x7 : Int} {M : xj_M} {R : xj_M} (hx7 : xin x7) (h : f199_70b  r70 f x0 x7 M = some R) : xW (d + 2) (none, d + 2, none) xr_199 (70, [(0, xR_ x0), (7, xI x7)], [], M) (xQv R) := by
  unfold f199_70b at h
  refine xe_ldn (ins := .iload 7) (len := 2) (by decide +kernel) rfl rfl rfl rfl ?_
  refine xe_alr (ins := .aload_n 0) (len := 1) (i := 0) (by decide +kernel) rfl rfl rfl rfl rfl ?_
  obtain ⟨v101, e102, h⟩ := xbnd h
  refine xs_gi (i := 22) (c := 12) (k := 3) (by decide +kernel) (by decide) (by decide +kernel) e102 rfl ?_
  refine xe_icmpge (off := 19) (t := 95) (by decide +kernel) (by decide) rfl hx7 (xq_gi_in e102) (fun c103 => ?_) (fun c103 => ?_)
  · rw [if_pos c103] at h
    cases h
    exact xe_ret_v (by decide +kernel) rfl ⟨rfl, rfl⟩
  · rw [if_neg c103] at h
    refine xe_alr (ins := .aload_n 0) (len := 1) (i := 0) (by decide +kernel) rfl rfl rfl rfl rfl ?_
    refine xe_ldn (ins := .iload 7) (len := 2) (by decide +kernel) rfl rfl rfl rfl ?_
    refine xe_iconst (n := 1) (by decide +kernel) rfl ?_
    refine xe_iadd (by decide +kernel) rfl ?_
    refine xe_ldn (ins := .iload 7) (len := 2) (by decide +kernel) rfl rfl rfl rfl ?_
    obtain ⟨_, e105, h⟩ := xbnd h
    obtain ⟨M106, e104, h⟩ := xbnd h
    refine xs_cv (i := 34) (j := 200) (ar := [xI (x7), xI (xwr ((x7) + (1)))]) (rest := []) (r2 := xr_200) (by decide +kernel) (by decide +kernel) (by decide +kernel) xr_200_e rfl (by decide) (by decide) e105 ?_
    refine xc_v (k200 (d := d + 1)  (xin_wr _) hx7 e104) rfl ?_
    refine xe_iincr (i := 7) (n := 1) (by decide +kernel) (by decide) rfl (xk_k (show ¬ (0 : Nat) = 7 by decide) (Or.inl (show ¬ (0 + 1 : Nat) = 7 by decide)) (xk_d rfl xk_n)) rfl ?_
    refine xe_goto (off := -22) (nx := 70) (by decide +kernel) (by decide) ?_
    refine xW_lv rfl (l := [(0, xR_ (x0)), (7, xI (xwr ((x7) + (1))))]) (xsb_of ⟨rfl, rfl, trivial⟩ (show [7, 0].Nodup by decide)) ?_
    exact hr70 (xin_wr _) h
def f199_70   (f : Nat) : Nat → Nat → Int → xj_M → Option (xj_M)
  | 0, _, _, _ => none
  | n + 1, x0, x7, M => f199_70b   (f199_70   f n) f x0 x7 M
theorem k199_70 {d f : Nat}     : ∀ {n : Nat} {x0 : Nat} {x7 : Int} {M : xj_M} {R : xj_M}, xin x7 → f199_70   f n x0 x7 M = some R → xW (d + 2) (none, d + 2, none) xr_199 (70, [(0, xR_ x0), (7, xI x7)], [], M) (xQv R) := by
  intro n
  induction n with
  | zero => intros; rename_i h; cases h
  | succ n ih => intros; rename_i h; exact k199_70b   ih (by assumption) h
def f199  (f : Nat) (a0 : Nat) (a1 : Int) (a2 : Int) (a3 : Nat) (a4 : Int) (M : xj_M) : Option (xj_M) := ((xq_is 12 (a0) M).bind fun _ => ((f196  f (a0) (a1) (a2) (a3) (a4) M).bind fun R110 => ((xq_gi 12 3 (a0) R110.2).bind fun v112 => (if (R110.1) = (v112) then f199_55   f  R110.2 else ((xq_gr 12 0 (a0) R110.2).bind fun v115 => ((xq_al (v115) (R110.1) R110.2).bind fun v117 => ((xq_gr 12 2 (a0) R110.2).bind fun v119 => ((xq_ai 3 (v119) (R110.1) R110.2).bind fun v121 => ((xq_gr 12 1 (a0) R110.2).bind fun v123 => ((f195  f (v117) (v121) (v123) (xwr ((4) * (R110.1))) (a1) (a2) (a3) (a4) R110.2).bind fun R126 => (if (R126.1) = 0 then ((xq_gi 12 3 (a0) R126.2).bind fun v129 => ((xq_pi 12 3 (a0) (xwr ((v129) - (1))) R126.2).bind fun M131 => f199_70   f f (a0) (R110.1) M131)) else f199_55   f  R126.2)))))))))))
theorem k199 {d f : Nat}   {a0 : Nat} {a1 : Int} {a2 : Int} {a3 : Nat} {a4 : Int} {M : xj_M} {R : xj_M} (ha1 : xiN a1) (ha2 : xin a2) (ha4 : xin a4) (h : f199  f a0 a1 a2 a3 a4 M = some R) : xT (d + 3) 199 [xR_ a0, xZ a1, xI a2, xR_ a3, xI a4] M (xQv R) := by
  refine xT_m xr_199_e (X := (none, d + 2, none)) rfl (xa_1 (xR_cat _) (xa_2 (xZ_cat _) (xa_1 (xI_cat _) (xa_1 (xR_cat _) (xa_1 (xI_cat _) xa_n))))) (by decide) ?_
  unfold f199 at h
  refine xe_alr (ins := .aload_n 0) (len := 1) (i := 0) (by decide +kernel) rfl rfl rfl rfl rfl ?_
  refine xe_ldn (ins := .lload_n 1) (len := 1) (by decide +kernel) rfl rfl rfl rfl ?_
  refine xe_ldn (ins := .iload_n 3) (len := 1) (by decide +kernel) rfl rfl rfl rfl ?_
  refine xe_alr (ins := .aload 4) (len := 2) (i := 4) (by decide +kernel) rfl rfl rfl rfl rfl ?_
  refine xe_ldn (ins := .iload 5) (len := 2) (by decide +kernel) rfl rfl rfl rfl ?_
  obtain ⟨_, e109, h⟩ := xbnd h
  obtain ⟨R110, e108, h⟩ := xbnd h
  refine xs_cv (i := 30) (j := 196) (ar := [xI (a4), xR_ (a3), xI (a2), xZ (a1)]) (rest := []) (r2 := xr_196) (by decide +kernel) (by decide +kernel) (by decide +kernel) xr_196_e rfl (by decide) (by decide) e109 ?_
  refine xc_i (k196 (d := d + 0)  ha1 ha2 ha4 e108) rfl (fun hi111 => ?_)
  refine xe_isr (ins := .istore 6) (len := 2) (i := 6) (by decide +kernel) rfl rfl rfl (by decide) (xk_k (show ¬ (0 : Nat) = 6 by decide) (Or.inl (show ¬ (0 + 1 : Nat) = 6 by decide)) (xk_k (show ¬ (1 : Nat) = 6 by decide) (Or.inl (show ¬ (1 + 1 : Nat) = 6 by decide)) (xk_k (show ¬ (3 : Nat) = 6 by decide) (Or.inl (show ¬ (3 + 1 : Nat) = 6 by decide)) (xk_k (show ¬ (4 : Nat) = 6 by decide) (Or.inl (show ¬ (4 + 1 : Nat) = 6 by decide)) (xk_k (show ¬ (5 : Nat) = 6 by decide) (Or.inr (xI_cat _)) xk_n))))) rfl ?_
  refine xe_ldn (ins := .iload 6) (len := 2) (by decide +kernel) rfl rfl rfl rfl ?_
  refine xe_alr (ins := .aload_n 0) (len := 1) (i := 0) (by decide +kernel) rfl rfl rfl rfl rfl ?_
  obtain ⟨v112, e113, h⟩ := xbnd h
  refine xs_gi (i := 22) (c := 12) (k := 3) (by decide +kernel) (by decide) (by decide +kernel) e113 rfl ?_
  refine xe_icmpeq (off := 37) (t := 55) (by decide +kernel) (by decide) rfl hi111 (xq_gi_in e113) (fun c114 => ?_) (fun c114 => ?_)
  · rw [if_pos c114] at h
    refine xW_lv rfl (l := []) (xsb_of trivial (show [6, 0, 1, 3, 4, 5].Nodup by decide)) ?_
    exact k199_55    h
  · rw [if_neg c114] at h
    refine xe_alr (ins := .aload_n 0) (len := 1) (i := 0) (by decide +kernel) rfl rfl rfl rfl rfl ?_
    obtain ⟨v115, e116, h⟩ := xbnd h
    refine xs_gr (i := 9) (c := 12) (k := 0) (by decide +kernel) (by decide) (by decide +kernel) e116 rfl ?_
    refine xe_ldn (ins := .iload 6) (len := 2) (by decide +kernel) rfl rfl rfl rfl ?_
    obtain ⟨v117, e118, h⟩ := xbnd h
    refine xs_lald (by decide +kernel) hi111 e118 rfl ?_
    refine xe_alr (ins := .aload_n 0) (len := 1) (i := 0) (by decide +kernel) rfl rfl rfl rfl rfl ?_
    obtain ⟨v119, e120, h⟩ := xbnd h
    refine xs_gr (i := 18) (c := 12) (k := 2) (by decide +kernel) (by decide) (by decide +kernel) e120 rfl ?_
    refine xe_ldn (ins := .iload 6) (len := 2) (by decide +kernel) rfl rfl rfl rfl ?_
    obtain ⟨v121, e122, h⟩ := xbnd h
    refine xs_iald rfl (by decide +kernel) hi111 e122 rfl ?_
    refine xe_alr (ins := .aload_n 0) (len := 1) (i := 0) (by decide +kernel) rfl rfl rfl rfl rfl ?_
    obtain ⟨v123, e124, h⟩ := xbnd h
    refine xs_gr (i := 15) (c := 12) (k := 1) (by decide +kernel) (by decide) (by decide +kernel) e124 rfl ?_
    refine xe_iconst (n := 4) (by decide +kernel) rfl ?_
    refine xe_ldn (ins := .iload 6) (len := 2) (by decide +kernel) rfl rfl rfl rfl ?_
    refine xe_imul (by decide +kernel) rfl ?_
    refine xe_ldn (ins := .lload_n 1) (len := 1) (by decide +kernel) rfl rfl rfl rfl ?_
    refine xe_ldn (ins := .iload_n 3) (len := 1) (by decide +kernel) rfl rfl rfl rfl ?_
    refine xe_alr (ins := .aload 4) (len := 2) (i := 4) (by decide +kernel) rfl rfl rfl rfl rfl ?_
    refine xe_ldn (ins := .iload 5) (len := 2) (by decide +kernel) rfl rfl rfl rfl ?_
    obtain ⟨R126, e125, h⟩ := xbnd h
    refine xs_cs (kd := 2) (by decide) (i := 26) (j := 195) (ar := [xI (a4), xR_ (a3), xI (a2), xZ (a1), xI (xwr ((4) * (R110.1))), xR_ (v123), xI (v121), xZ (v117)]) (rest := []) (r2 := xr_195) (by decide +kernel) (by decide +kernel) (by decide +kernel) xr_195_e rfl (by decide) ?_
    refine xc_i (k195 (d := d + 1)  (xq_al_in e118) (xq_ai_in e122) (xin_wr _) ha1 ha2 ha4 e125) rfl (fun hi127 => ?_)
    refine xe_ifeq (off := 4) (t := 56) (by decide +kernel) (by decide) rfl hi127 (fun c128 => ?_) (fun c128 => ?_)
    · rw [if_pos c128] at h
      refine xe_alr (ins := .aload_n 0) (len := 1) (i := 0) (by decide +kernel) rfl rfl rfl rfl rfl ?_
      refine xe_dupr (by decide +kernel) rfl ?_
      obtain ⟨v129, e130, h⟩ := xbnd h
      refine xs_gi (i := 22) (c := 12) (k := 3) (by decide +kernel) (by decide) (by decide +kernel) e130 rfl ?_
      refine xe_iconst (n := 1) (by decide +kernel) rfl ?_
      refine xe_isub (by decide +kernel) rfl ?_
      obtain ⟨M131, e132, h⟩ := xbnd h
      refine xs_p (i := 22) (c := 12) (k := 3) (by decide +kernel) (by decide +kernel) (by decide +kernel) e132 rfl ?_
      refine xe_ldn (ins := .iload 6) (len := 2) (by decide +kernel) rfl rfl rfl rfl ?_
      refine xe_isr (ins := .istore 7) (len := 2) (i := 7) (by decide +kernel) rfl rfl rfl (by decide) (xk_k (show ¬ (6 : Nat) = 7 by decide) (Or.inr (xI_cat _)) (xk_k (show ¬ (0 : Nat) = 7 by decide) (Or.inl (show ¬ (0 + 1 : Nat) = 7 by decide)) (xk_k (show ¬ (1 : Nat) = 7 by decide) (Or.inl (show ¬ (1 + 1 : Nat) = 7 by decide)) (xk_k (show ¬ (3 : Nat) = 7 by decide) (Or.inl (show ¬ (3 + 1 : Nat) = 7 by decide)) (xk_k (show ¬ (4 : Nat) = 7 by decide) (Or.inl (show ¬ (4 + 1 : Nat) = 7 by decide)) (xk_k (show ¬ (5 : Nat) = 7 by decide) (Or.inl (show ¬ (5 + 1 : Nat) = 7 by decide)) xk_n)))))) rfl ?_
      refine xW_lv rfl (l := [(0, xR_ (a0)), (7, xI (R110.1))]) (xsb_of ⟨rfl, rfl, trivial⟩ (show [7, 6, 0, 1, 3, 4, 5].Nodup by decide)) ?_
      exact k199_70   hi111 h
    · rw [if_neg c128] at h
      refine xW_lv rfl (l := []) (xsb_of trivial (show [6, 0, 1, 3, 4, 5].Nodup by decide)) ?_
      exact k199_55    h
-- ChangeHouseModel.findFaults
def xr_252 : xj_mR := (15, yX15_findFaults, cX15_findFaults, 4, (Option.none : Option Jvm.ClassFile.FieldType), 1, false, (9, 77), (1, 12))
set_option maxRecDepth 20000 in
theorem xr_252_e : xj_row 252 = some xr_252 := rfl
def f252_66  (r7 : Nat → Nat → Int → xj_M → Option (xj_M)) (r17 : Nat → Nat → Int → Int → xj_M → Option (xj_M)) (f : Nat) (x0 : Nat) (x1 : Nat) (x2 : Int) (x3 : Int) (M : xj_M) : Option (xj_M) := r17 (x0) (x1) (x2) (xwr ((x3) + (1))) M
theorem k252_66 {d f : Nat}  {r7 : Nat → Nat → Int → xj_M → Option (xj_M)} {r17 : Nat → Nat → Int → Int → xj_M → Option (xj_M)}  (hr7 : ∀ {x0 : Nat} {x1 : Nat} {x2 : Int} {M : xj_M} {R : xj_M}, xin x2 → r7 x0 x1 x2 M = some R → xW (d + 3) (none, d + 3, none) xr_252 (7, [(0, xR_ x0), (1, xR_ x1), (2, xI x2)], [], M) (xQv R)) (hr17 : ∀ {x0 : Nat} {x1 : Nat} {x2 : Int} {x3 : Int} {M : xj_M} {R : xj_M}, xin x2 → xin x3 → r17 x0 x1 x2 x3 M = some R → xW (d + 3) (none, d + 3, none) xr_252 (17, [(0, xR_ x0), (1, xR_ x1), (2, xI x2), (3, xI x3)], [], M) (xQv R)) {x0 : Nat} {x1 : Nat} {x2 : Int} {x3 : Int} {M : xj_M} {R : xj_M} (hx2 : xin x2) (hx3 : xin x3) (h : f252_66  r7 r17 f x0 x1 x2 x3 M = some R) : xW (d + 3) (none, d + 3, none) xr_252 (66, [(0, xR_ x0), (1, xR_ x1), (2, xI x2), (3, xI x3)], [], M) (xQv R) := by
  unfold f252_66 at h
  refine xe_iincr (i := 3) (n := 1) (by decide +kernel) (by decide) rfl (xk_k (show ¬ (0 : Nat) = 3 by decide) (Or.inl (show ¬ (0 + 1 : Nat) = 3 by decide)) (xk_k (show ¬ (1 : Nat) = 3 by decide) (Or.inl (show ¬ (1 + 1 : Nat) = 3 by decide)) (xk_k (show ¬ (2 : Nat) = 3 by decide) (Or.inr (xI_cat _)) (xk_d rfl xk_n)))) rfl ?_
  refine xe_goto (off := -52) (nx := 17) (by decide +kernel) (by decide) ?_
  refine xW_lv rfl (l := [(0, xR_ (x0)), (1, xR_ (x1)), (2, xI (x2)), (3, xI (xwr ((x3) + (1))))]) (xsb_of ⟨rfl, rfl, rfl, rfl, trivial⟩ (show [3, 0, 1, 2].Nodup by decide)) ?_
  exact hr17 hx2 (xin_wr _) h
def f252_128  (r7 : Nat → Nat → Int → xj_M → Option (xj_M)) (f : Nat) (x0 : Nat) (x1 : Nat) (x2 : Int) (M : xj_M) : Option (xj_M) := r7 (x0) (x1) (xwr ((x2) + (1))) M
theorem k252_128 {d f : Nat}  {r7 : Nat → Nat → Int → xj_M → Option (xj_M)}  (hr7 : ∀ {x0 : Nat} {x1 : Nat} {x2 : Int} {M : xj_M} {R : xj_M}, xin x2 → r7 x0 x1 x2 M = some R → xW (d + 3) (none, d + 3, none) xr_252 (7, [(0, xR_ x0), (1, xR_ x1), (2, xI x2)], [], M) (xQv R)) {x0 : Nat} {x1 : Nat} {x2 : Int} {M : xj_M} {R : xj_M} (hx2 : xin x2) (h : f252_128  r7 f x0 x1 x2 M = some R) : xW (d + 3) (none, d + 3, none) xr_252 (128, [(0, xR_ x0), (1, xR_ x1), (2, xI x2)], [], M) (xQv R) := by
  unfold f252_128 at h
  refine xe_iincr (i := 2) (n := 1) (by decide +kernel) (by decide) rfl (xk_k (show ¬ (0 : Nat) = 2 by decide) (Or.inl (show ¬ (0 + 1 : Nat) = 2 by decide)) (xk_k (show ¬ (1 : Nat) = 2 by decide) (Or.inr (xR_cat _)) (xk_d rfl xk_n))) rfl ?_
  refine xe_goto (off := -124) (nx := 7) (by decide +kernel) (by decide) ?_
  refine xW_lv rfl (l := [(0, xR_ (x0)), (1, xR_ (x1)), (2, xI (xwr ((x2) + (1))))]) (xsb_of ⟨rfl, rfl, rfl, trivial⟩ (show [2, 0, 1].Nodup by decide)) ?_
  exact hr7 (xin_wr _) h
def f252_99  (r7 : Nat → Nat → Int → xj_M → Option (xj_M)) (f : Nat) (x0 : Nat) (x1 : Nat) (x2 : Int) (x3 : Int) (M : xj_M) : Option (xj_M) := ((xq_gr 14 5 (x1) M).bind fun v101 => ((xq_ab (v101) (x3) M).bind fun v103 => (if ¬ (v103) = 0 then f252_128  r7 f (x0) (x1) (x2) M else ((xq_gr 14 7 (x1) M).bind fun v106 => ((xq_ab (v106) (x3) M).bind fun v108 => (if ¬ (v108) = 0 then f252_128  r7 f (x0) (x1) (x2) M else ((xq_gr 14 11 (x1) M).bind fun v111 => ((xq_ai 3 (v111) (x2) M).bind fun v113 => ((xq_is 15 (x0) M).bind fun _ => ((f251  f (x0) (2) (v113) M).bind fun M117 => f252_128  r7 f (x0) (x1) (x2) M117))))))))))
theorem k252_99 {d f : Nat}  {r7 : Nat → Nat → Int → xj_M → Option (xj_M)}  (hr7 : ∀ {x0 : Nat} {x1 : Nat} {x2 : Int} {M : xj_M} {R : xj_M}, xin x2 → r7 x0 x1 x2 M = some R → xW (d + 3) (none, d + 3, none) xr_252 (7, [(0, xR_ x0), (1, xR_ x1), (2, xI x2)], [], M) (xQv R)) {x0 : Nat} {x1 : Nat} {x2 : Int} {x3 : Int} {M : xj_M} {R : xj_M} (hx2 : xin x2) (hx3 : xin x3) (h : f252_99  r7 f x0 x1 x2 x3 M = some R) : xW (d + 3) (none, d + 3, none) xr_252 (99, [(0, xR_ x0), (1, xR_ x1), (2, xI x2), (3, xI x3)], [], M) (xQv R) := by
  unfold f252_99 at h
  refine xe_alr (ins := .aload_n 1) (len := 1) (i := 1) (by decide +kernel) rfl rfl rfl rfl rfl ?_
  obtain ⟨v101, e102, h⟩ := xbnd h
  refine xs_gr (i := 187) (c := 14) (k := 5) (by decide +kernel) (by decide) (by decide +kernel) e102 rfl ?_
  refine xe_ldn (ins := .iload_n 3) (len := 1) (by decide +kernel) rfl rfl rfl rfl ?_
  obtain ⟨v103, e104, h⟩ := xbnd h
  refine xs_bald (by decide +kernel) hx3 e104 rfl ?_
  refine xe_ifne (off := 23) (t := 128) (by decide +kernel) (by decide) rfl (xq_ab_in e104) (fun c105 => ?_) (fun c105 => ?_)
  · rw [if_pos c105] at h
    refine xW_lv rfl (l := [(0, xR_ (x0)), (1, xR_ (x1)), (2, xI (x2))]) (xsb_of ⟨rfl, rfl, rfl, trivial⟩ (show [0, 1, 2, 3].Nodup by decide)) ?_
    exact k252_128  hr7 hx2 h
  · rw [if_neg c105] at h
    refine xe_alr (ins := .aload_n 1) (len := 1) (i := 1) (by decide +kernel) rfl rfl rfl rfl rfl ?_
    obtain ⟨v106, e107, h⟩ := xbnd h
    refine xs_gr (i := 194) (c := 14) (k := 7) (by decide +kernel) (by decide) (by decide +kernel) e107 rfl ?_
    refine xe_ldn (ins := .iload_n 3) (len := 1) (by decide +kernel) rfl rfl rfl rfl ?_
    obtain ⟨v108, e109, h⟩ := xbnd h
    refine xs_bald (by decide +kernel) hx3 e109 rfl ?_
    refine xe_ifne (off := 14) (t := 128) (by decide +kernel) (by decide) rfl (xq_ab_in e109) (fun c110 => ?_) (fun c110 => ?_)
    · rw [if_pos c110] at h
      refine xW_lv rfl (l := [(0, xR_ (x0)), (1, xR_ (x1)), (2, xI (x2))]) (xsb_of ⟨rfl, rfl, rfl, trivial⟩ (show [0, 1, 2, 3].Nodup by decide)) ?_
      exact k252_128  hr7 hx2 h
    · rw [if_neg c110] at h
      refine xe_alr (ins := .aload_n 0) (len := 1) (i := 0) (by decide +kernel) rfl rfl rfl rfl rfl ?_
      refine xe_iconst (n := 2) (by decide +kernel) rfl ?_
      refine xe_alr (ins := .aload_n 1) (len := 1) (i := 1) (by decide +kernel) rfl rfl rfl rfl rfl ?_
      obtain ⟨v111, e112, h⟩ := xbnd h
      refine xs_gr (i := 204) (c := 14) (k := 11) (by decide +kernel) (by decide) (by decide +kernel) e112 rfl ?_
      refine xe_ldn (ins := .iload_n 2) (len := 1) (by decide +kernel) rfl rfl rfl rfl ?_
      obtain ⟨v113, e114, h⟩ := xbnd h
      refine xs_iald rfl (by decide +kernel) hx2 e114 rfl ?_
      obtain ⟨_, e116, h⟩ := xbnd h
      obtain ⟨M117, e115, h⟩ := xbnd h
      refine xs_cv (i := 392) (j := 251) (ar := [xI (v113), xI (2)]) (rest := []) (r2 := xr_251) (by decide +kernel) (by decide +kernel) (by decide +kernel) xr_251_e rfl (by decide) (by decide) e116 ?_
      refine xc_v (k251 (d := d + 2)  (show xin (2) by decide) (xq_ai_in e114) e115) rfl ?_
      refine xW_lv rfl (l := [(0, xR_ (x0)), (1, xR_ (x1)), (2, xI (x2))]) (xsb_of ⟨rfl, rfl, rfl, trivial⟩ (show [0, 1, 2, 3].Nodup by decide)) ?_
      exact k252_128  hr7 hx2 h
def f252_17b  (r7 : Nat → Nat → Int → xj_M → Option (xj_M)) (r17 : Nat → Nat → Int → Int → xj_M → Option (xj_M)) (f : Nat) (x0 : Nat) (x1 : Nat) (x2 : Int) (x3 : Int) (M : xj_M) : Option (xj_M) := (if (x2) ≤ (x3) then ((xq_gr 14 10 (x1) M).bind fun v120 => ((xq_ai 3 (v120) (x2) M).bind fun v122 => ((xq_gr 14 13 (x1) M).bind fun v124 => ((xq_ai 3 (v124) (x2) M).bind fun v126 => (if (v126) = (4) then f252_99  r7 f (x0) (x1) (x2) (v122) M else ((xq_gr 14 13 (x1) M).bind fun v129 => ((xq_ai 3 (v129) (x2) M).bind fun v131 => (if ¬ (v131) = (2) then f252_128  r7 f (x0) (x1) (x2) M else f252_99  r7 f (x0) (x1) (x2) (v122) M)))))))) else ((xq_gr 14 10 (x1) M).bind fun v134 => ((xq_ai 3 (v134) (x3) M).bind fun v136 => ((xq_gr 14 10 (x1) M).bind fun v138 => ((xq_ai 3 (v138) (x2) M).bind fun v140 => (if ¬ (v136) = (v140) then f252_66  r7 r17 f (x0) (x1) (x2) (x3) M else ((xq_gr 14 13 (x1) M).bind fun v143 => ((xq_ai 3 (v143) (x3) M).bind fun v145 => ((xq_gr 14 13 (x1) M).bind fun v147 => ((xq_ai 3 (v147) (x2) M).bind fun v149 => ((f253  f (v145) (v149) M).bind fun R152 => (if (R152.1) = 0 then f252_66  r7 r17 f (x0) (x1) (x2) (x3) R152.2 else ((xq_gr 14 11 (x1) R152.2).bind fun v155 => ((xq_ai 3 (v155) (x2) R152.2).bind fun v157 => ((xq_is 15 (x0) R152.2).bind fun _ => ((f251  f (x0) (1) (v157) R152.2).bind fun M161 => f252_66  r7 r17 f (x0) (x1) (x2) (x3) M161))))))))))))))))
theorem k252_17b {d f : Nat}  {r7 : Nat → Nat → Int → xj_M → Option (xj_M)} {r17 : Nat → Nat → Int → Int → xj_M → Option (xj_M)}  (hr7 : ∀ {x0 : Nat} {x1 : Nat} {x2 : Int} {M : xj_M} {R : xj_M}, xin x2 → r7 x0 x1 x2 M = some R → xW (d + 3) (none, d + 3, none) xr_252 (7, [(0, xR_ x0), (1, xR_ x1), (2, xI x2)], [], M) (xQv R)) (hr17 : ∀ {x0 : Nat} {x1 : Nat} {x2 : Int} {x3 : Int} {M : xj_M} {R : xj_M}, xin x2 → xin x3 → r17 x0 x1 x2 x3 M = some R → xW (d + 3) (none, d + 3, none) xr_252 (17, [(0, xR_ x0), (1, xR_ x1), (2, xI x2), (3, xI x3)], [], M) (xQv R)) {x0 : Nat} {x1 : Nat} {x2 : Int} {x3 : Int} {M : xj_M} {R : xj_M} (hx2 : xin x2) (hx3 : xin x3) (h : f252_17b  r7 r17 f x0 x1 x2 x3 M = some R) : xW (d + 3) (none, d + 3, none) xr_252 (17, [(0, xR_ x0), (1, xR_ x1), (2, xI x2), (3, xI x3)], [], M) (xQv R) := by
  unfold f252_17b at h
  refine xe_ldn (ins := .iload_n 3) (len := 1) (by decide +kernel) rfl rfl rfl rfl ?_
  refine xe_ldn (ins := .iload_n 2) (len := 1) (by decide +kernel) rfl rfl rfl rfl ?_
  refine xe_icmpge (off := 53) (t := 72) (by decide +kernel) (by decide) rfl hx3 hx2 (fun c119 => ?_) (fun c119 => ?_)
  · rw [if_pos c119] at h
    refine xe_alr (ins := .aload_n 1) (len := 1) (i := 1) (by decide +kernel) rfl rfl rfl rfl rfl ?_
    obtain ⟨v120, e121, h⟩ := xbnd h
    refine xs_gr (i := 201) (c := 14) (k := 10) (by decide +kernel) (by decide) (by decide +kernel) e121 rfl ?_
    refine xe_ldn (ins := .iload_n 2) (len := 1) (by decide +kernel) rfl rfl rfl rfl ?_
    obtain ⟨v122, e123, h⟩ := xbnd h
    refine xs_iald rfl (by decide +kernel) hx2 e123 rfl ?_
    refine xe_isr (ins := .istore_n 3) (len := 1) (i := 3) (by decide +kernel) rfl rfl rfl (by decide) (xk_k (show ¬ (0 : Nat) = 3 by decide) (Or.inl (show ¬ (0 + 1 : Nat) = 3 by decide)) (xk_k (show ¬ (1 : Nat) = 3 by decide) (Or.inl (show ¬ (1 + 1 : Nat) = 3 by decide)) (xk_k (show ¬ (2 : Nat) = 3 by decide) (Or.inr (xI_cat _)) (xk_d rfl xk_n)))) rfl ?_
    refine xe_alr (ins := .aload_n 1) (len := 1) (i := 1) (by decide +kernel) rfl rfl rfl rfl rfl ?_
    obtain ⟨v124, e125, h⟩ := xbnd h
    refine xs_gr (i := 210) (c := 14) (k := 13) (by decide +kernel) (by decide) (by decide +kernel) e125 rfl ?_
    refine xe_ldn (ins := .iload_n 2) (len := 1) (by decide +kernel) rfl rfl rfl rfl ?_
    obtain ⟨v126, e127, h⟩ := xbnd h
    refine xs_iald rfl (by decide +kernel) hx2 e127 rfl ?_
    refine xe_iconst (n := 4) (by decide +kernel) rfl ?_
    refine xe_icmpeq (off := 13) (t := 99) (by decide +kernel) (by decide) rfl (xq_ai_in e127) (show xin (4) by decide) (fun c128 => ?_) (fun c128 => ?_)
    · rw [if_pos c128] at h
      refine xW_lv rfl (l := [(0, xR_ (x0)), (1, xR_ (x1)), (2, xI (x2)), (3, xI (v122))]) (xsb_of ⟨rfl, rfl, rfl, rfl, trivial⟩ (show [3, 0, 1, 2].Nodup by decide)) ?_
      exact k252_99  hr7 hx2 (xq_ai_in e123) h
    · rw [if_neg c128] at h
      refine xe_alr (ins := .aload_n 1) (len := 1) (i := 1) (by decide +kernel) rfl rfl rfl rfl rfl ?_
      obtain ⟨v129, e130, h⟩ := xbnd h
      refine xs_gr (i := 210) (c := 14) (k := 13) (by decide +kernel) (by decide) (by decide +kernel) e130 rfl ?_
      refine xe_ldn (ins := .iload_n 2) (len := 1) (by decide +kernel) rfl rfl rfl rfl ?_
      obtain ⟨v131, e132, h⟩ := xbnd h
      refine xs_iald rfl (by decide +kernel) hx2 e132 rfl ?_
      refine xe_iconst (n := 2) (by decide +kernel) rfl ?_
      refine xe_icmpne (off := 32) (t := 128) (by decide +kernel) (by decide) rfl (xq_ai_in e132) (show xin (2) by decide) (fun c133 => ?_) (fun c133 => ?_)
      · rw [if_pos c133] at h
        refine xW_lv rfl (l := [(0, xR_ (x0)), (1, xR_ (x1)), (2, xI (x2))]) (xsb_of ⟨rfl, rfl, rfl, trivial⟩ (show [3, 0, 1, 2].Nodup by decide)) ?_
        exact k252_128  hr7 hx2 h
      · rw [if_neg c133] at h
        refine xW_lv rfl (l := [(0, xR_ (x0)), (1, xR_ (x1)), (2, xI (x2)), (3, xI (v122))]) (xsb_of ⟨rfl, rfl, rfl, rfl, trivial⟩ (show [3, 0, 1, 2].Nodup by decide)) ?_
        exact k252_99  hr7 hx2 (xq_ai_in e123) h
  · rw [if_neg c119] at h
    refine xe_alr (ins := .aload_n 1) (len := 1) (i := 1) (by decide +kernel) rfl rfl rfl rfl rfl ?_
    obtain ⟨v134, e135, h⟩ := xbnd h
    refine xs_gr (i := 201) (c := 14) (k := 10) (by decide +kernel) (by decide) (by decide +kernel) e135 rfl ?_
    refine xe_ldn (ins := .iload_n 3) (len := 1) (by decide +kernel) rfl rfl rfl rfl ?_
    obtain ⟨v136, e137, h⟩ := xbnd h
    refine xs_iald rfl (by decide +kernel) hx3 e137 rfl ?_
    refine xe_alr (ins := .aload_n 1) (len := 1) (i := 1) (by decide +kernel) rfl rfl rfl rfl rfl ?_
    obtain ⟨v138, e139, h⟩ := xbnd h
    refine xs_gr (i := 201) (c := 14) (k := 10) (by decide +kernel) (by decide) (by decide +kernel) e139 rfl ?_
    refine xe_ldn (ins := .iload_n 2) (len := 1) (by decide +kernel) rfl rfl rfl rfl ?_
    obtain ⟨v140, e141, h⟩ := xbnd h
    refine xs_iald rfl (by decide +kernel) hx2 e141 rfl ?_
    refine xe_icmpne (off := 32) (t := 66) (by decide +kernel) (by decide) rfl (xq_ai_in e137) (xq_ai_in e141) (fun c142 => ?_) (fun c142 => ?_)
    · rw [if_pos c142] at h
      refine xW_lv rfl (l := [(0, xR_ (x0)), (1, xR_ (x1)), (2, xI (x2)), (3, xI (x3))]) (xsb_of ⟨rfl, rfl, rfl, rfl, trivial⟩ (show [0, 1, 2, 3].Nodup by decide)) ?_
      exact k252_66  hr7 hr17 hx2 hx3 h
    · rw [if_neg c142] at h
      refine xe_alr (ins := .aload_n 1) (len := 1) (i := 1) (by decide +kernel) rfl rfl rfl rfl rfl ?_
      obtain ⟨v143, e144, h⟩ := xbnd h
      refine xs_gr (i := 210) (c := 14) (k := 13) (by decide +kernel) (by decide) (by decide +kernel) e144 rfl ?_
      refine xe_ldn (ins := .iload_n 3) (len := 1) (by decide +kernel) rfl rfl rfl rfl ?_
      obtain ⟨v145, e146, h⟩ := xbnd h
      refine xs_iald rfl (by decide +kernel) hx3 e146 rfl ?_
      refine xe_alr (ins := .aload_n 1) (len := 1) (i := 1) (by decide +kernel) rfl rfl rfl rfl rfl ?_
      obtain ⟨v147, e148, h⟩ := xbnd h
      refine xs_gr (i := 210) (c := 14) (k := 13) (by decide +kernel) (by decide) (by decide +kernel) e148 rfl ?_
      refine xe_ldn (ins := .iload_n 2) (len := 1) (by decide +kernel) rfl rfl rfl rfl ?_
      obtain ⟨v149, e150, h⟩ := xbnd h
      refine xs_iald rfl (by decide +kernel) hx2 e150 rfl ?_
      obtain ⟨R152, e151, h⟩ := xbnd h
      refine xs_cs (kd := 2) (by decide) (i := 388) (j := 253) (ar := [xI (v149), xI (v145)]) (rest := []) (r2 := xr_253) (by decide +kernel) (by decide +kernel) (by decide +kernel) xr_253_e rfl (by decide) ?_
      refine xc_i (k253 (d := d + 2)  (xq_ai_in e146) (xq_ai_in e150) e151) rfl (fun hi153 => ?_)
      refine xe_ifeq (off := 14) (t := 66) (by decide +kernel) (by decide) rfl hi153 (fun c154 => ?_) (fun c154 => ?_)
      · rw [if_pos c154] at h
        refine xW_lv rfl (l := [(0, xR_ (x0)), (1, xR_ (x1)), (2, xI (x2)), (3, xI (x3))]) (xsb_of ⟨rfl, rfl, rfl, rfl, trivial⟩ (show [0, 1, 2, 3].Nodup by decide)) ?_
        exact k252_66  hr7 hr17 hx2 hx3 h
      · rw [if_neg c154] at h
        refine xe_alr (ins := .aload_n 0) (len := 1) (i := 0) (by decide +kernel) rfl rfl rfl rfl rfl ?_
        refine xe_iconst (n := 1) (by decide +kernel) rfl ?_
        refine xe_alr (ins := .aload_n 1) (len := 1) (i := 1) (by decide +kernel) rfl rfl rfl rfl rfl ?_
        obtain ⟨v155, e156, h⟩ := xbnd h
        refine xs_gr (i := 204) (c := 14) (k := 11) (by decide +kernel) (by decide) (by decide +kernel) e156 rfl ?_
        refine xe_ldn (ins := .iload_n 2) (len := 1) (by decide +kernel) rfl rfl rfl rfl ?_
        obtain ⟨v157, e158, h⟩ := xbnd h
        refine xs_iald rfl (by decide +kernel) hx2 e158 rfl ?_
        obtain ⟨_, e160, h⟩ := xbnd h
        obtain ⟨M161, e159, h⟩ := xbnd h
        refine xs_cv (i := 392) (j := 251) (ar := [xI (v157), xI (1)]) (rest := []) (r2 := xr_251) (by decide +kernel) (by decide +kernel) (by decide +kernel) xr_251_e rfl (by decide) (by decide) e160 ?_
        refine xc_v (k251 (d := d + 2)  (show xin (1) by decide) (xq_ai_in e158) e159) rfl ?_
        refine xW_lv rfl (l := [(0, xR_ (x0)), (1, xR_ (x1)), (2, xI (x2)), (3, xI (x3))]) (xsb_of ⟨rfl, rfl, rfl, rfl, trivial⟩ (show [0, 1, 2, 3].Nodup by decide)) ?_
        exact k252_66  hr7 hr17 hx2 hx3 h
def f252_17  (r7 : Nat → Nat → Int → xj_M → Option (xj_M)) (f : Nat) : Nat → Nat → Nat → Int → Int → xj_M → Option (xj_M)
  | 0, _, _, _, _, _ => none
  | n + 1, x0, x1, x2, x3, M => f252_17b  r7 (f252_17  r7 f n) f x0 x1 x2 x3 M
theorem k252_17 {d f : Nat}  {r7 : Nat → Nat → Int → xj_M → Option (xj_M)}  (hr7 : ∀ {x0 : Nat} {x1 : Nat} {x2 : Int} {M : xj_M} {R : xj_M}, xin x2 → r7 x0 x1 x2 M = some R → xW (d + 3) (none, d + 3, none) xr_252 (7, [(0, xR_ x0), (1, xR_ x1), (2, xI x2)], [], M) (xQv R)) : ∀ {n : Nat} {x0 : Nat} {x1 : Nat} {x2 : Int} {x3 : Int} {M : xj_M} {R : xj_M}, xin x2 → xin x3 → f252_17  r7 f n x0 x1 x2 x3 M = some R → xW (d + 3) (none, d + 3, none) xr_252 (17, [(0, xR_ x0), (1, xR_ x1), (2, xI x2), (3, xI x3)], [], M) (xQv R) := by
  intro n
  induction n with
  | zero => intros; rename_i h; cases h
  | succ n ih => intros; rename_i h; exact k252_17b  hr7 ih (by assumption) (by assumption) h
def f252_203  (r176 : Nat → Nat → Int → xj_M → Option (xj_M)) (f : Nat) (x0 : Nat) (x1 : Nat) (x2 : Int) (M : xj_M) : Option (xj_M) := r176 (x0) (x1) (xwr ((x2) + (1))) M
theorem k252_203 {d f : Nat}  {r176 : Nat → Nat → Int → xj_M → Option (xj_M)}  (hr176 : ∀ {x0 : Nat} {x1 : Nat} {x2 : Int} {M : xj_M} {R : xj_M}, xin x2 → r176 x0 x1 x2 M = some R → xW (d + 3) (none, d + 3, none) xr_252 (176, [(0, xR_ x0), (1, xR_ x1), (2, xI x2)], [], M) (xQv R)) {x0 : Nat} {x1 : Nat} {x2 : Int} {M : xj_M} {R : xj_M} (hx2 : xin x2) (h : f252_203  r176 f x0 x1 x2 M = some R) : xW (d + 3) (none, d + 3, none) xr_252 (203, [(0, xR_ x0), (1, xR_ x1), (2, xI x2)], [], M) (xQv R) := by
  unfold f252_203 at h
  refine xe_iincr (i := 2) (n := 1) (by decide +kernel) (by decide) rfl (xk_k (show ¬ (0 : Nat) = 2 by decide) (Or.inl (show ¬ (0 + 1 : Nat) = 2 by decide)) (xk_k (show ¬ (1 : Nat) = 2 by decide) (Or.inr (xR_cat _)) (xk_d rfl xk_n))) rfl ?_
  refine xe_goto (off := -30) (nx := 176) (by decide +kernel) (by decide) ?_
  refine xW_lv rfl (l := [(0, xR_ (x0)), (1, xR_ (x1)), (2, xI (xwr ((x2) + (1))))]) (xsb_of ⟨rfl, rfl, rfl, trivial⟩ (show [2, 0, 1].Nodup by decide)) ?_
  exact hr176 (xin_wr _) h
def f252_176b  (r176 : Nat → Nat → Int → xj_M → Option (xj_M)) (f : Nat) (x0 : Nat) (x1 : Nat) (x2 : Int) (M : xj_M) : Option (xj_M) := ((xq_gi 14 9 (x1) M).bind fun v163 => (if (v163) ≤ (x2) then (some M) else ((f260  f (x1) (x2) M).bind fun R167 => (if (R167.1) = 0 then f252_203  r176 f (x0) (x1) (x2) R167.2 else ((xq_gr 14 16 (x1) R167.2).bind fun v170 => ((xq_ai 3 (v170) (x2) R167.2).bind fun v172 => ((xq_is 15 (x0) R167.2).bind fun _ => ((f251  f (x0) (5) (v172) R167.2).bind fun M176 => f252_203  r176 f (x0) (x1) (x2) M176))))))))
theorem k252_176b {d f : Nat}  {r176 : Nat → Nat → Int → xj_M → Option (xj_M)}  (hr176 : ∀ {x0 : Nat} {x1 : Nat} {x2 : Int} {M : xj_M} {R : xj_M}, xin x2 → r176 x0 x1 x2 M = some R → xW (d + 3) (none, d + 3, none) xr_252 (176, [(0, xR_ x0), (1, xR_ x1), (2, xI x2)], [], M) (xQv R)) {x0 : Nat} {x1 : Nat} {x2 : Int} {M : xj_M} {R : xj_M} (hx2 : xin x2) (h : f252_176b  r176 f x0 x1 x2 M = some R) : xW (d + 3) (none, d + 3, none) xr_252 (176, [(0, xR_ x0), (1, xR_ x1), (2, xI x2)], [], M) (xQv R) := by
  unfold f252_176b at h
  refine xe_ldn (ins := .iload_n 2) (len := 1) (by decide +kernel) rfl rfl rfl rfl ?_
  refine xe_alr (ins := .aload_n 1) (len := 1) (i := 1) (by decide +kernel) rfl rfl rfl rfl rfl ?_
  obtain ⟨v163, e164, h⟩ := xbnd h
  refine xs_gi (i := 171) (c := 14) (k := 9) (by decide +kernel) (by decide) (by decide +kernel) e164 rfl ?_
  refine xe_icmpge (off := 28) (t := 209) (by decide +kernel) (by decide) rfl hx2 (xq_gi_in e164) (fun c165 => ?_) (fun c165 => ?_)
  · rw [if_pos c165] at h
    cases h
    exact xe_ret_v (by decide +kernel) rfl ⟨rfl, rfl⟩
  · rw [if_neg c165] at h
    refine xe_alr (ins := .aload_n 1) (len := 1) (i := 1) (by decide +kernel) rfl rfl rfl rfl rfl ?_
    refine xe_ldn (ins := .iload_n 2) (len := 1) (by decide +kernel) rfl rfl rfl rfl ?_
    obtain ⟨R167, e166, h⟩ := xbnd h
    refine xs_cs (kd := 2) (by decide) (i := 405) (j := 260) (ar := [xI (x2), xR_ (x1)]) (rest := []) (r2 := xr_260) (by decide +kernel) (by decide +kernel) (by decide +kernel) xr_260_e rfl (by decide) ?_
    refine xc_i (k260 (d := d + 2)  hx2 e166) rfl (fun hi168 => ?_)
    refine xe_ifeq (off := 14) (t := 203) (by decide +kernel) (by decide) rfl hi168 (fun c169 => ?_) (fun c169 => ?_)
    · rw [if_pos c169] at h
      refine xW_lv rfl (l := [(0, xR_ (x0)), (1, xR_ (x1)), (2, xI (x2))]) (xsb_of ⟨rfl, rfl, rfl, trivial⟩ (show [0, 1, 2].Nodup by decide)) ?_
      exact k252_203  hr176 hx2 h
    · rw [if_neg c169] at h
      refine xe_alr (ins := .aload_n 0) (len := 1) (i := 0) (by decide +kernel) rfl rfl rfl rfl rfl ?_
      refine xe_iconst (n := 5) (by decide +kernel) rfl ?_
      refine xe_alr (ins := .aload_n 1) (len := 1) (i := 1) (by decide +kernel) rfl rfl rfl rfl rfl ?_
      obtain ⟨v170, e171, h⟩ := xbnd h
      refine xs_gr (i := 295) (c := 14) (k := 16) (by decide +kernel) (by decide) (by decide +kernel) e171 rfl ?_
      refine xe_ldn (ins := .iload_n 2) (len := 1) (by decide +kernel) rfl rfl rfl rfl ?_
      obtain ⟨v172, e173, h⟩ := xbnd h
      refine xs_iald rfl (by decide +kernel) hx2 e173 rfl ?_
      obtain ⟨_, e175, h⟩ := xbnd h
      obtain ⟨M176, e174, h⟩ := xbnd h
      refine xs_cv (i := 392) (j := 251) (ar := [xI (v172), xI (5)]) (rest := []) (r2 := xr_251) (by decide +kernel) (by decide +kernel) (by decide +kernel) xr_251_e rfl (by decide) (by decide) e175 ?_
      refine xc_v (k251 (d := d + 2)  (show xin (5) by decide) (xq_ai_in e173) e174) rfl ?_
      refine xW_lv rfl (l := [(0, xR_ (x0)), (1, xR_ (x1)), (2, xI (x2))]) (xsb_of ⟨rfl, rfl, rfl, trivial⟩ (show [0, 1, 2].Nodup by decide)) ?_
      exact k252_203  hr176 hx2 h
def f252_176   (f : Nat) : Nat → Nat → Nat → Int → xj_M → Option (xj_M)
  | 0, _, _, _, _ => none
  | n + 1, x0, x1, x2, M => f252_176b   (f252_176   f n) f x0 x1 x2 M
theorem k252_176 {d f : Nat}     : ∀ {n : Nat} {x0 : Nat} {x1 : Nat} {x2 : Int} {M : xj_M} {R : xj_M}, xin x2 → f252_176   f n x0 x1 x2 M = some R → xW (d + 3) (none, d + 3, none) xr_252 (176, [(0, xR_ x0), (1, xR_ x1), (2, xI x2)], [], M) (xQv R) := by
  intro n
  induction n with
  | zero => intros; rename_i h; cases h
  | succ n ih => intros; rename_i h; exact k252_176b   ih (by assumption) h
def f252_141b  (r141 : Nat → Nat → Int → xj_M → Option (xj_M)) (f : Nat) (x0 : Nat) (x1 : Nat) (x2 : Int) (M : xj_M) : Option (xj_M) := ((xq_gi 14 9 (x1) M).bind fun v178 => (if (v178) ≤ (x2) then ((xq_gi 15 26 (x0) M).bind fun v181 => (if (v181) = 0 then ((xq_is 15 (x0) M).bind fun _ => ((f259  f (x0) (x1) M).bind fun M186 => f252_176   f f (x0) (x1) (0) M186)) else (some M))) else ((xq_is 15 (x0) M).bind fun _ => ((f258  f (x0) (x1) (x2) M).bind fun M190 => r141 (x0) (x1) (xwr ((x2) + (1))) M190))))
theorem k252_141b {d f : Nat}  {r141 : Nat → Nat → Int → xj_M → Option (xj_M)}  (hr141 : ∀ {x0 : Nat} {x1 : Nat} {x2 : Int} {M : xj_M} {R : xj_M}, xin x2 → r141 x0 x1 x2 M = some R → xW (d + 3) (none, d + 3, none) xr_252 (141, [(0, xR_ x0), (1, xR_ x1), (2, xI x2)], [], M) (xQv R)) {x0 : Nat} {x1 : Nat} {x2 : Int} {M : xj_M} {R : xj_M} (hx2 : xin x2) (h : f252_141b  r141 f x0 x1 x2 M = some R) : xW (d + 3) (none, d + 3, none) xr_252 (141, [(0, xR_ x0), (1, xR_ x1), (2, xI x2)], [], M) (xQv R) := by
  unfold f252_141b at h
  refine xe_ldn (ins := .iload_n 2) (len := 1) (by decide +kernel) rfl rfl rfl rfl ?_
  refine xe_alr (ins := .aload_n 1) (len := 1) (i := 1) (by decide +kernel) rfl rfl rfl rfl rfl ?_
  obtain ⟨v178, e179, h⟩ := xbnd h
  refine xs_gi (i := 171) (c := 14) (k := 9) (by decide +kernel) (by decide) (by decide +kernel) e179 rfl ?_
  refine xe_icmpge (off := 15) (t := 161) (by decide +kernel) (by decide) rfl hx2 (xq_gi_in e179) (fun c180 => ?_) (fun c180 => ?_)
  · rw [if_pos c180] at h
    refine xe_alr (ins := .aload_n 0) (len := 1) (i := 0) (by decide +kernel) rfl rfl rfl rfl rfl ?_
    obtain ⟨v181, e182, h⟩ := xbnd h
    refine xs_gi (i := 382) (c := 15) (k := 26) (by decide +kernel) (by decide) (by decide +kernel) e182 rfl ?_
    refine xe_ifeq (off := 4) (t := 169) (by decide +kernel) (by decide) rfl (xq_gi_in e182) (fun c183 => ?_) (fun c183 => ?_)
    · rw [if_pos c183] at h
      refine xe_alr (ins := .aload_n 0) (len := 1) (i := 0) (by decide +kernel) rfl rfl rfl rfl rfl ?_
      refine xe_alr (ins := .aload_n 1) (len := 1) (i := 1) (by decide +kernel) rfl rfl rfl rfl rfl ?_
      obtain ⟨_, e185, h⟩ := xbnd h
      obtain ⟨M186, e184, h⟩ := xbnd h
      refine xs_cv (i := 402) (j := 259) (ar := [xR_ (x1)]) (rest := []) (r2 := xr_259) (by decide +kernel) (by decide +kernel) (by decide +kernel) xr_259_e rfl (by decide) (by decide) e185 ?_
      refine xc_v (k259 (d := d + 2)   e184) rfl ?_
      refine xe_iconst (n := 0) (by decide +kernel) rfl ?_
      refine xe_isr (ins := .istore_n 2) (len := 1) (i := 2) (by decide +kernel) rfl rfl rfl (by decide) (xk_k (show ¬ (0 : Nat) = 2 by decide) (Or.inl (show ¬ (0 + 1 : Nat) = 2 by decide)) (xk_k (show ¬ (1 : Nat) = 2 by decide) (Or.inr (xR_cat _)) (xk_d rfl xk_n))) rfl ?_
      refine xW_lv rfl (l := [(0, xR_ (x0)), (1, xR_ (x1)), (2, xI (0))]) (xsb_of ⟨rfl, rfl, rfl, trivial⟩ (show [2, 0, 1].Nodup by decide)) ?_
      exact k252_176   (show xin (0) by decide) h
    · rw [if_neg c183] at h
      cases h
      exact xe_ret_v (by decide +kernel) rfl ⟨rfl, rfl⟩
  · rw [if_neg c180] at h
    refine xe_alr (ins := .aload_n 0) (len := 1) (i := 0) (by decide +kernel) rfl rfl rfl rfl rfl ?_
    refine xe_alr (ins := .aload_n 1) (len := 1) (i := 1) (by decide +kernel) rfl rfl rfl rfl rfl ?_
    refine xe_ldn (ins := .iload_n 2) (len := 1) (by decide +kernel) rfl rfl rfl rfl ?_
    obtain ⟨_, e189, h⟩ := xbnd h
    obtain ⟨M190, e188, h⟩ := xbnd h
    refine xs_cv (i := 398) (j := 258) (ar := [xI (x2), xR_ (x1)]) (rest := []) (r2 := xr_258) (by decide +kernel) (by decide +kernel) (by decide +kernel) xr_258_e rfl (by decide) (by decide) e189 ?_
    refine xc_v (k258 (d := d + 0)  hx2 e188) rfl ?_
    refine xe_iincr (i := 2) (n := 1) (by decide +kernel) (by decide) rfl (xk_k (show ¬ (0 : Nat) = 2 by decide) (Or.inl (show ¬ (0 + 1 : Nat) = 2 by decide)) (xk_k (show ¬ (1 : Nat) = 2 by decide) (Or.inr (xR_cat _)) (xk_d rfl xk_n))) rfl ?_
    refine xe_goto (off := -17) (nx := 141) (by decide +kernel) (by decide) ?_
    refine xW_lv rfl (l := [(0, xR_ (x0)), (1, xR_ (x1)), (2, xI (xwr ((x2) + (1))))]) (xsb_of ⟨rfl, rfl, rfl, trivial⟩ (show [2, 0, 1].Nodup by decide)) ?_
    exact hr141 (xin_wr _) h
def f252_141   (f : Nat) : Nat → Nat → Nat → Int → xj_M → Option (xj_M)
  | 0, _, _, _, _ => none
  | n + 1, x0, x1, x2, M => f252_141b   (f252_141   f n) f x0 x1 x2 M
theorem k252_141 {d f : Nat}     : ∀ {n : Nat} {x0 : Nat} {x1 : Nat} {x2 : Int} {M : xj_M} {R : xj_M}, xin x2 → f252_141   f n x0 x1 x2 M = some R → xW (d + 3) (none, d + 3, none) xr_252 (141, [(0, xR_ x0), (1, xR_ x1), (2, xI x2)], [], M) (xQv R) := by
  intro n
  induction n with
  | zero => intros; rename_i h; cases h
  | succ n ih => intros; rename_i h; exact k252_141b   ih (by assumption) h
def f252_7b  (r7 : Nat → Nat → Int → xj_M → Option (xj_M)) (f : Nat) (x0 : Nat) (x1 : Nat) (x2 : Int) (M : xj_M) : Option (xj_M) := ((xq_gi 14 14 (x1) M).bind fun v192 => (if (v192) ≤ (x2) then ((xq_is 15 (x0) M).bind fun _ => ((f254  f (x0) (x1) M).bind fun M197 => f252_141   f f (x0) (x1) (0) M197)) else f252_17  r7 f f (x0) (x1) (x2) (0) M))
theorem k252_7b {d f : Nat}  {r7 : Nat → Nat → Int → xj_M → Option (xj_M)}  (hr7 : ∀ {x0 : Nat} {x1 : Nat} {x2 : Int} {M : xj_M} {R : xj_M}, xin x2 → r7 x0 x1 x2 M = some R → xW (d + 3) (none, d + 3, none) xr_252 (7, [(0, xR_ x0), (1, xR_ x1), (2, xI x2)], [], M) (xQv R)) {x0 : Nat} {x1 : Nat} {x2 : Int} {M : xj_M} {R : xj_M} (hx2 : xin x2) (h : f252_7b  r7 f x0 x1 x2 M = some R) : xW (d + 3) (none, d + 3, none) xr_252 (7, [(0, xR_ x0), (1, xR_ x1), (2, xI x2)], [], M) (xQv R) := by
  unfold f252_7b at h
  refine xe_ldn (ins := .iload_n 2) (len := 1) (by decide +kernel) rfl rfl rfl rfl ?_
  refine xe_alr (ins := .aload_n 1) (len := 1) (i := 1) (by decide +kernel) rfl rfl rfl rfl rfl ?_
  obtain ⟨v192, e193, h⟩ := xbnd h
  refine xs_gi (i := 174) (c := 14) (k := 14) (by decide +kernel) (by decide) (by decide +kernel) e193 rfl ?_
  refine xe_icmpge (off := 122) (t := 134) (by decide +kernel) (by decide) rfl hx2 (xq_gi_in e193) (fun c194 => ?_) (fun c194 => ?_)
  · rw [if_pos c194] at h
    refine xe_alr (ins := .aload_n 0) (len := 1) (i := 0) (by decide +kernel) rfl rfl rfl rfl rfl ?_
    refine xe_alr (ins := .aload_n 1) (len := 1) (i := 1) (by decide +kernel) rfl rfl rfl rfl rfl ?_
    obtain ⟨_, e196, h⟩ := xbnd h
    obtain ⟨M197, e195, h⟩ := xbnd h
    refine xs_cv (i := 395) (j := 254) (ar := [xR_ (x1)]) (rest := []) (r2 := xr_254) (by decide +kernel) (by decide +kernel) (by decide +kernel) xr_254_e rfl (by decide) (by decide) e196 ?_
    refine xc_v (k254 (d := d + 1)   e195) rfl ?_
    refine xe_iconst (n := 0) (by decide +kernel) rfl ?_
    refine xe_isr (ins := .istore_n 2) (len := 1) (i := 2) (by decide +kernel) rfl rfl rfl (by decide) (xk_k (show ¬ (0 : Nat) = 2 by decide) (Or.inl (show ¬ (0 + 1 : Nat) = 2 by decide)) (xk_k (show ¬ (1 : Nat) = 2 by decide) (Or.inr (xR_cat _)) (xk_d rfl xk_n))) rfl ?_
    refine xW_lv rfl (l := [(0, xR_ (x0)), (1, xR_ (x1)), (2, xI (0))]) (xsb_of ⟨rfl, rfl, rfl, trivial⟩ (show [2, 0, 1].Nodup by decide)) ?_
    exact k252_141   (show xin (0) by decide) h
  · rw [if_neg c194] at h
    refine xe_iconst (n := 0) (by decide +kernel) rfl ?_
    refine xe_isr (ins := .istore_n 3) (len := 1) (i := 3) (by decide +kernel) rfl rfl rfl (by decide) (xk_k (show ¬ (0 : Nat) = 3 by decide) (Or.inl (show ¬ (0 + 1 : Nat) = 3 by decide)) (xk_k (show ¬ (1 : Nat) = 3 by decide) (Or.inl (show ¬ (1 + 1 : Nat) = 3 by decide)) (xk_k (show ¬ (2 : Nat) = 3 by decide) (Or.inr (xI_cat _)) xk_n))) rfl ?_
    refine xW_lv rfl (l := [(0, xR_ (x0)), (1, xR_ (x1)), (2, xI (x2)), (3, xI (0))]) (xsb_of ⟨rfl, rfl, rfl, rfl, trivial⟩ (show [3, 0, 1, 2].Nodup by decide)) ?_
    exact k252_17  hr7 hx2 (show xin (0) by decide) h
def f252_7   (f : Nat) : Nat → Nat → Nat → Int → xj_M → Option (xj_M)
  | 0, _, _, _, _ => none
  | n + 1, x0, x1, x2, M => f252_7b   (f252_7   f n) f x0 x1 x2 M
theorem k252_7 {d f : Nat}     : ∀ {n : Nat} {x0 : Nat} {x1 : Nat} {x2 : Int} {M : xj_M} {R : xj_M}, xin x2 → f252_7   f n x0 x1 x2 M = some R → xW (d + 3) (none, d + 3, none) xr_252 (7, [(0, xR_ x0), (1, xR_ x1), (2, xI x2)], [], M) (xQv R) := by
  intro n
  induction n with
  | zero => intros; rename_i h; cases h
  | succ n ih => intros; rename_i h; exact k252_7b   ih (by assumption) h
def f252  (f : Nat) (a0 : Nat) (a1 : Nat) (M : xj_M) : Option (xj_M) := ((xq_pi 15 26 (a0) (0) M).bind fun M199 => f252_7   f f (a0) (a1) (0) M199)
theorem k252 {d f : Nat}   {a0 : Nat} {a1 : Nat} {M : xj_M} {R : xj_M}  (h : f252  f a0 a1 M = some R) : xT (d + 4) 252 [xR_ a0, xR_ a1] M (xQv R) := by
  refine xT_m xr_252_e (X := (none, d + 3, none)) rfl (xa_1 (xR_cat _) (xa_1 (xR_cat _) xa_n)) (by decide) ?_
  unfold f252 at h
  refine xe_alr (ins := .aload_n 0) (len := 1) (i := 0) (by decide +kernel) rfl rfl rfl rfl rfl ?_
  refine xe_iconst (n := 0) (by decide +kernel) rfl ?_
  obtain ⟨M199, e200, h⟩ := xbnd h
  refine xs_p (i := 382) (c := 15) (k := 26) (by decide +kernel) (by decide +kernel) (by decide +kernel) e200 rfl ?_
  refine xe_iconst (n := 0) (by decide +kernel) rfl ?_
  refine xe_isr (ins := .istore_n 2) (len := 1) (i := 2) (by decide +kernel) rfl rfl rfl (by decide) (xk_k (show ¬ (0 : Nat) = 2 by decide) (Or.inl (show ¬ (0 + 1 : Nat) = 2 by decide)) (xk_k (show ¬ (1 : Nat) = 2 by decide) (Or.inr (xR_cat _)) xk_n)) rfl ?_
  refine xW_lv rfl (l := [(0, xR_ (a0)), (1, xR_ (a1)), (2, xI (0))]) (xsb_of ⟨rfl, rfl, rfl, trivial⟩ (show [2, 0, 1].Nodup by decide)) ?_
  exact k252_7   (show xin (0) by decide) h
-- ChangeHouseModel.worked
def xr_268 : xj_mR := (15, yX15_worked, cX15_worked, 8, (Option.some Jvm.ClassFile.FieldType.long), 3, false, (9, 195), (1, 12))
set_option maxRecDepth 20000 in
theorem xr_268_e : xj_row 268 = some xr_268 := rfl
def f268_49   (f : Nat) (x0 : Nat) (M : xj_M) : Option (Int × xj_M) := ((xq_pi 15 42 (x0) (1) M).bind fun M101 => (some (0, M101)))
theorem k268_49 {d f : Nat}     {x0 : Nat} {M : xj_M} {R : Int × xj_M}  (h : f268_49   f x0 M = some R) : xW (d + 1) (none, d + 1, none) xr_268 (49, [(0, xR_ x0)], [], M) (xQl R) := by
  unfold f268_49 at h
  refine xe_alr (ins := .aload_n 0) (len := 1) (i := 0) (by decide +kernel) rfl rfl rfl rfl rfl ?_
  refine xe_iconst (n := 1) (by decide +kernel) rfl ?_
  obtain ⟨M101, e102, h⟩ := xbnd h
  refine xs_p (i := 453) (c := 15) (k := 42) (by decide +kernel) (by decide +kernel) (by decide +kernel) e102 rfl ?_
  refine xe_lconst (n := 0) (z := 0) (by decide +kernel) rfl rfl ?_
  cases h
  exact xe_ret_l (by decide +kernel) rfl ⟨rfl, rfl, (show xiN (0) by decide)⟩
def f268_138   (f : Nat) (x6 : Int) (y0 : Int) (y1 : Nat) (M : xj_M) : Option (Int × xj_M) := ((xq_pi 15 42 (y1) (y0) M).bind fun M103 => (some (x6, M103)))
theorem k268_138 {d f : Nat}     {x6 : Int} {y0 : Int} {y1 : Nat} {M : xj_M} {R : Int × xj_M} (hx6 : xiN x6) (hy0 : xin y0) (h : f268_138   f x6 y0 y1 M = some R) : xW (d + 1) (none, d + 1, none) xr_268 (138, [(6, xZ x6)], [xI y0, xR_ y1], M) (xQl R) := by
  unfold f268_138 at h
  obtain ⟨M103, e104, h⟩ := xbnd h
  refine xs_p (i := 453) (c := 15) (k := 42) (by decide +kernel) (by decide +kernel) (by decide +kernel) e104 rfl ?_
  refine xe_ldn (ins := .lload 6) (len := 2) (by decide +kernel) rfl rfl rfl rfl ?_
  cases h
  exact xe_ret_l (by decide +kernel) rfl ⟨rfl, rfl, hx6⟩
def f268_133   (f : Nat) (x6 : Int) (y0 : Nat) (M : xj_M) : Option (Int × xj_M) := f268_138   f (x6) (1) (y0) M
theorem k268_133 {d f : Nat}     {x6 : Int} {y0 : Nat} {M : xj_M} {R : Int × xj_M} (hx6 : xiN x6) (h : f268_133   f x6 y0 M = some R) : xW (d + 1) (none, d + 1, none) xr_268 (133, [(6, xZ x6)], [xR_ y0], M) (xQl R) := by
  unfold f268_133 at h
  refine xe_iconst (n := 1) (by decide +kernel) rfl ?_
  refine xe_goto (off := 4) (nx := 138) (by decide +kernel) (by decide) ?_
  refine xW_lv rfl (l := [(6, xZ (x6))]) (xsb_of ⟨rfl, trivial⟩ (show [6].Nodup by decide)) ?_
  exact k268_138   hx6 (show xin (1) by decide) h
def f268_112   (f : Nat) (x0 : Nat) (y0 : Int) (M : xj_M) : Option (Int × xj_M) := (if (1000000000000) < (y0) then f268_133   f (y0) (x0) M else (if (-1000000000000) ≤ (y0) then f268_138   f (y0) (0) (x0) M else f268_133   f (y0) (x0) M))
theorem k268_112 {d f : Nat}     {x0 : Nat} {y0 : Int} {M : xj_M} {R : Int × xj_M} (hy0 : xiN y0) (h : f268_112   f x0 y0 M = some R) : xW (d + 1) (none, d + 1, none) xr_268 (112, [(0, xR_ x0)], [xZ y0], M) (xQl R) := by
  unfold f268_112 at h
  refine xe_lsr (ins := .lstore 6) (len := 2) (i := 6) (by decide +kernel) rfl rfl rfl (by decide) (xk2_k (show ¬ (0 : Nat) = 6 by decide) (show ¬ (0 : Nat) = 6 + 1 by decide) (Or.inl (show ¬ (0 + 1 : Nat) = 6 by decide)) xk2_n) rfl ?_
  refine xe_alr (ins := .aload_n 0) (len := 1) (i := 0) (by decide +kernel) rfl rfl rfl rfl rfl ?_
  refine xe_ldn (ins := .lload 6) (len := 2) (by decide +kernel) rfl rfl rfl rfl ?_
  refine xe_ldc2 (i := 103) (n := 1000000000000) (by decide +kernel) (by decide +kernel) rfl ?_
  refine xe_lcmp (by decide +kernel) rfl hy0 (show xiN (1000000000000) by decide) ?_
  refine xe_ifgt (off := 12) (t := 133) (by decide +kernel) (by decide) rfl (xin_cmp8 _ _) (fun c105 => ?_) (fun c105 => ?_)
  · have c105 := xcmp8_gt.mp c105; rw [if_pos c105] at h
    refine xW_lv rfl (l := [(6, xZ (y0))]) (xsb_of ⟨rfl, trivial⟩ (show [6, 0].Nodup by decide)) ?_
    exact k268_133   hy0 h
  · have c105 := (not_congr xcmp8_gt).mp c105; rw [if_neg c105] at h
    refine xe_ldn (ins := .lload 6) (len := 2) (by decide +kernel) rfl rfl rfl rfl ?_
    refine xe_ldc2 (i := 473) (n := -1000000000000) (by decide +kernel) (by decide +kernel) rfl ?_
    refine xe_lcmp (by decide +kernel) rfl hy0 (show xiN (-1000000000000) by decide) ?_
    refine xe_ifge (off := 7) (t := 137) (by decide +kernel) (by decide) rfl (xin_cmp8 _ _) (fun c106 => ?_) (fun c106 => ?_)
    · have c106 := xcmp8_ge.mp c106; rw [if_pos c106] at h
      refine xe_iconst (n := 0) (by decide +kernel) rfl ?_
      refine xW_lv rfl (l := [(6, xZ (y0))]) (xsb_of ⟨rfl, trivial⟩ (show [6, 0].Nodup by decide)) ?_
      exact k268_138   hy0 (show xin (0) by decide) h
    · have c106 := (not_congr xcmp8_ge).mp c106; rw [if_neg c106] at h
      refine xW_lv rfl (l := [(6, xZ (y0))]) (xsb_of ⟨rfl, trivial⟩ (show [6, 0].Nodup by decide)) ?_
      exact k268_133   hy0 h
def f268_56   (f : Nat) (x0 : Nat) (x1 : Int) (x2 : Int) (x4 : Int) (M : xj_M) : Option (Int × xj_M) := (if ¬ (x1) = (43) then (if ¬ (x1) = (45) then (if ¬ (x1) = (42) then (if ¬ (x1) = (47) then (if (x4) = 0 then none else f268_112   f (x0) (xrem8 (x2) (x4)) M) else (if (x4) = 0 then none else f268_112   f (x0) (xdiv8 (x2) (x4)) M)) else f268_112   f (x0) (xwl ((x2) * (x4))) M) else f268_112   f (x0) (xwl ((x2) - (x4))) M) else f268_112   f (x0) (xwl ((x2) + (x4))) M)
theorem k268_56 {d f : Nat}     {x0 : Nat} {x1 : Int} {x2 : Int} {x4 : Int} {M : xj_M} {R : Int × xj_M} (hx1 : xin x1) (hx2 : xiN x2) (hx4 : xiN x4) (h : f268_56   f x0 x1 x2 x4 M = some R) : xW (d + 1) (none, d + 1, none) xr_268 (56, [(0, xR_ x0), (1, xI x1), (2, xZ x2), (4, xZ x4)], [], M) (xQl R) := by
  unfold f268_56 at h
  refine xe_ldn (ins := .iload_n 1) (len := 1) (by decide +kernel) rfl rfl rfl rfl ?_
  refine xe_bipush (n := 43) (by decide +kernel) (by decide) rfl ?_
  refine xe_icmpne (off := 10) (t := 69) (by decide +kernel) (by decide) rfl hx1 (show xin (43) by decide) (fun c107 => ?_) (fun c107 => ?_)
  · rw [if_pos c107] at h
    refine xe_ldn (ins := .iload_n 1) (len := 1) (by decide +kernel) rfl rfl rfl rfl ?_
    refine xe_bipush (n := 45) (by decide +kernel) (by decide) rfl ?_
    refine xe_icmpne (off := 10) (t := 82) (by decide +kernel) (by decide) rfl hx1 (show xin (45) by decide) (fun c108 => ?_) (fun c108 => ?_)
    · rw [if_pos c108] at h
      refine xe_ldn (ins := .iload_n 1) (len := 1) (by decide +kernel) rfl rfl rfl rfl ?_
      refine xe_bipush (n := 42) (by decide +kernel) (by decide) rfl ?_
      refine xe_icmpne (off := 10) (t := 95) (by decide +kernel) (by decide) rfl hx1 (show xin (42) by decide) (fun c109 => ?_) (fun c109 => ?_)
      · rw [if_pos c109] at h
        refine xe_ldn (ins := .iload_n 1) (len := 1) (by decide +kernel) rfl rfl rfl rfl ?_
        refine xe_bipush (n := 47) (by decide +kernel) (by decide) rfl ?_
        refine xe_icmpne (off := 10) (t := 108) (by decide +kernel) (by decide) rfl hx1 (show xin (47) by decide) (fun c110 => ?_) (fun c110 => ?_)
        · rw [if_pos c110] at h
          refine xe_ldn (ins := .lload_n 2) (len := 1) (by decide +kernel) rfl rfl rfl rfl ?_
          refine xe_ldn (ins := .lload 4) (len := 2) (by decide +kernel) rfl rfl rfl rfl ?_
          by_cases c111 : (x4) = 0
          · rw [if_pos c111] at h; cases h
          rw [if_neg c111] at h
          refine xe_lrem (by decide +kernel) rfl hx4 c111 ?_
          refine xW_lv rfl (l := [(0, xR_ (x0))]) (xsb_of ⟨rfl, trivial⟩ (show [0, 1, 2, 4].Nodup by decide)) ?_
          exact k268_112   (xiN_of _) h
        · rw [if_neg c110] at h
          refine xe_ldn (ins := .lload_n 2) (len := 1) (by decide +kernel) rfl rfl rfl rfl ?_
          refine xe_ldn (ins := .lload 4) (len := 2) (by decide +kernel) rfl rfl rfl rfl ?_
          by_cases c112 : (x4) = 0
          · rw [if_pos c112] at h; cases h
          rw [if_neg c112] at h
          refine xe_ldiv (by decide +kernel) rfl hx4 c112 ?_
          refine xe_goto (off := 7) (nx := 112) (by decide +kernel) (by decide) ?_
          refine xW_lv rfl (l := [(0, xR_ (x0))]) (xsb_of ⟨rfl, trivial⟩ (show [0, 1, 2, 4].Nodup by decide)) ?_
          exact k268_112   (xiN_of _) h
      · rw [if_neg c109] at h
        refine xe_ldn (ins := .lload_n 2) (len := 1) (by decide +kernel) rfl rfl rfl rfl ?_
        refine xe_ldn (ins := .lload 4) (len := 2) (by decide +kernel) rfl rfl rfl rfl ?_
        refine xe_lmul (by decide +kernel) rfl ?_
        refine xe_goto (off := 20) (nx := 112) (by decide +kernel) (by decide) ?_
        refine xW_lv rfl (l := [(0, xR_ (x0))]) (xsb_of ⟨rfl, trivial⟩ (show [0, 1, 2, 4].Nodup by decide)) ?_
        exact k268_112   (xiN_wl _) h
    · rw [if_neg c108] at h
      refine xe_ldn (ins := .lload_n 2) (len := 1) (by decide +kernel) rfl rfl rfl rfl ?_
      refine xe_ldn (ins := .lload 4) (len := 2) (by decide +kernel) rfl rfl rfl rfl ?_
      refine xe_lsub (by decide +kernel) rfl ?_
      refine xe_goto (off := 33) (nx := 112) (by decide +kernel) (by decide) ?_
      refine xW_lv rfl (l := [(0, xR_ (x0))]) (xsb_of ⟨rfl, trivial⟩ (show [0, 1, 2, 4].Nodup by decide)) ?_
      exact k268_112   (xiN_wl _) h
  · rw [if_neg c107] at h
    refine xe_ldn (ins := .lload_n 2) (len := 1) (by decide +kernel) rfl rfl rfl rfl ?_
    refine xe_ldn (ins := .lload 4) (len := 2) (by decide +kernel) rfl rfl rfl rfl ?_
    refine xe_ladd (by decide +kernel) rfl ?_
    refine xe_goto (off := 46) (nx := 112) (by decide +kernel) (by decide) ?_
    refine xW_lv rfl (l := [(0, xR_ (x0))]) (xsb_of ⟨rfl, trivial⟩ (show [0, 1, 2, 4].Nodup by decide)) ?_
    exact k268_112   (xiN_wl _) h
def f268_34   (f : Nat) (x0 : Nat) (x1 : Int) (x2 : Int) (x4 : Int) (M : xj_M) : Option (Int × xj_M) := (if ¬ (x1) = (42) then f268_56   f (x0) (x1) (x2) (x4) M else ((f269  f (x2) (x4) M).bind fun R115 => (if (R115.1) = 0 then f268_56   f (x0) (x1) (x2) (x4) R115.2 else f268_49   f (x0) R115.2)))
theorem k268_34 {d f : Nat}     {x0 : Nat} {x1 : Int} {x2 : Int} {x4 : Int} {M : xj_M} {R : Int × xj_M} (hx1 : xin x1) (hx2 : xiN x2) (hx4 : xiN x4) (h : f268_34   f x0 x1 x2 x4 M = some R) : xW (d + 1) (none, d + 1, none) xr_268 (34, [(0, xR_ x0), (1, xI x1), (2, xZ x2), (4, xZ x4)], [], M) (xQl R) := by
  unfold f268_34 at h
  refine xe_ldn (ins := .iload_n 1) (len := 1) (by decide +kernel) rfl rfl rfl rfl ?_
  refine xe_bipush (n := 42) (by decide +kernel) (by decide) rfl ?_
  refine xe_icmpne (off := 19) (t := 56) (by decide +kernel) (by decide) rfl hx1 (show xin (42) by decide) (fun c113 => ?_) (fun c113 => ?_)
  · rw [if_pos c113] at h
    refine xW_lv rfl (l := [(0, xR_ (x0)), (1, xI (x1)), (2, xZ (x2)), (4, xZ (x4))]) (xsb_of ⟨rfl, rfl, rfl, rfl, trivial⟩ (show [0, 1, 2, 4].Nodup by decide)) ?_
    exact k268_56   hx1 hx2 hx4 h
  · rw [if_neg c113] at h
    refine xe_ldn (ins := .lload_n 2) (len := 1) (by decide +kernel) rfl rfl rfl rfl ?_
    refine xe_ldn (ins := .lload 4) (len := 2) (by decide +kernel) rfl rfl rfl rfl ?_
    obtain ⟨R115, e114, h⟩ := xbnd h
    refine xs_cs (kd := 2) (by decide) (i := 469) (j := 269) (ar := [xZ (x4), xZ (x2)]) (rest := []) (r2 := xr_269) (by decide +kernel) (by decide +kernel) (by decide +kernel) xr_269_e rfl (by decide) ?_
    refine xc_i (k269 (d := d + 0)  hx2 hx4 e114) rfl (fun hi116 => ?_)
    refine xe_ifeq (off := 10) (t := 56) (by decide +kernel) (by decide) rfl hi116 (fun c117 => ?_) (fun c117 => ?_)
    · rw [if_pos c117] at h
      refine xW_lv rfl (l := [(0, xR_ (x0)), (1, xI (x1)), (2, xZ (x2)), (4, xZ (x4))]) (xsb_of ⟨rfl, rfl, rfl, rfl, trivial⟩ (show [0, 1, 2, 4].Nodup by decide)) ?_
      exact k268_56   hx1 hx2 hx4 h
    · rw [if_neg c117] at h
      refine xW_lv rfl (l := [(0, xR_ (x0))]) (xsb_of ⟨rfl, trivial⟩ (show [0, 1, 2, 4].Nodup by decide)) ?_
      exact k268_49    h
def f268_27   (f : Nat) (x0 : Nat) (x1 : Int) (x2 : Int) (x4 : Int) (M : xj_M) : Option (Int × xj_M) := (if (x4) = (0) then f268_49   f (x0) M else f268_34   f (x0) (x1) (x2) (x4) M)
theorem k268_27 {d f : Nat}     {x0 : Nat} {x1 : Int} {x2 : Int} {x4 : Int} {M : xj_M} {R : Int × xj_M} (hx1 : xin x1) (hx2 : xiN x2) (hx4 : xiN x4) (h : f268_27   f x0 x1 x2 x4 M = some R) : xW (d + 1) (none, d + 1, none) xr_268 (27, [(0, xR_ x0), (1, xI x1), (2, xZ x2), (4, xZ x4)], [], M) (xQl R) := by
  unfold f268_27 at h
  refine xe_ldn (ins := .lload 4) (len := 2) (by decide +kernel) rfl rfl rfl rfl ?_
  refine xe_lconst (n := 0) (z := 0) (by decide +kernel) rfl rfl ?_
  refine xe_lcmp (by decide +kernel) rfl hx4 (show xiN (0) by decide) ?_
  refine xe_ifeq (off := 18) (t := 49) (by decide +kernel) (by decide) rfl (xin_cmp8 _ _) (fun c118 => ?_) (fun c118 => ?_)
  · have c118 := xcmp8_eq.mp c118; rw [if_pos c118] at h
    refine xW_lv rfl (l := [(0, xR_ (x0))]) (xsb_of ⟨rfl, trivial⟩ (show [0, 1, 2, 4].Nodup by decide)) ?_
    exact k268_49    h
  · have c118 := (not_congr xcmp8_eq).mp c118; rw [if_neg c118] at h
    refine xW_lv rfl (l := [(0, xR_ (x0)), (1, xI (x1)), (2, xZ (x2)), (4, xZ (x4))]) (xsb_of ⟨rfl, rfl, rfl, rfl, trivial⟩ (show [0, 1, 2, 4].Nodup by decide)) ?_
    exact k268_34   hx1 hx2 hx4 h
def f268  (f : Nat) (a0 : Nat) (a1 : Int) (a2 : Int) (a3 : Int) (M : xj_M) : Option (Int × xj_M) := ((f267  f (a2) M).bind fun R120 => (if ¬ (R120.1) = 0 then f268_49   f (a0) R120.2 else ((f267  f (a3) R120.2).bind fun R124 => (if ¬ (R124.1) = 0 then f268_49   f (a0) R124.2 else (if (a1) = (47) then f268_27   f (a0) (a1) (a2) (a3) R124.2 else (if ¬ (a1) = (37) then f268_34   f (a0) (a1) (a2) (a3) R124.2 else f268_27   f (a0) (a1) (a2) (a3) R124.2))))))
theorem k268 {d f : Nat}   {a0 : Nat} {a1 : Int} {a2 : Int} {a3 : Int} {M : xj_M} {R : Int × xj_M} (ha1 : xin a1) (ha2 : xiN a2) (ha3 : xiN a3) (h : f268  f a0 a1 a2 a3 M = some R) : xT (d + 2) 268 [xR_ a0, xI a1, xZ a2, xZ a3] M (xQl R) := by
  refine xT_m xr_268_e (X := (none, d + 1, none)) rfl (xa_1 (xR_cat _) (xa_1 (xI_cat _) (xa_2 (xZ_cat _) (xa_2 (xZ_cat _) xa_n)))) (by decide) ?_
  unfold f268 at h
  refine xe_ldn (ins := .lload_n 2) (len := 1) (by decide +kernel) rfl rfl rfl rfl ?_
  obtain ⟨R120, e119, h⟩ := xbnd h
  refine xs_cs (kd := 2) (by decide) (i := 466) (j := 267) (ar := [xZ (a2)]) (rest := []) (r2 := xr_267) (by decide +kernel) (by decide +kernel) (by decide +kernel) xr_267_e rfl (by decide) ?_
  refine xc_i (k267 (d := d + 0)  ha2 e119) rfl (fun hi121 => ?_)
  refine xe_ifne (off := 45) (t := 49) (by decide +kernel) (by decide) rfl hi121 (fun c122 => ?_) (fun c122 => ?_)
  · rw [if_pos c122] at h
    refine xW_lv rfl (l := [(0, xR_ (a0))]) (xsb_of ⟨rfl, trivial⟩ (show [0, 1, 2, 4].Nodup by decide)) ?_
    exact k268_49    h
  · rw [if_neg c122] at h
    refine xe_ldn (ins := .lload 4) (len := 2) (by decide +kernel) rfl rfl rfl rfl ?_
    obtain ⟨R124, e123, h⟩ := xbnd h
    refine xs_cs (kd := 2) (by decide) (i := 466) (j := 267) (ar := [xZ (a3)]) (rest := []) (r2 := xr_267) (by decide +kernel) (by decide +kernel) (by decide +kernel) xr_267_e rfl (by decide) ?_
    refine xc_i (k267 (d := d + 0)  ha3 e123) rfl (fun hi125 => ?_)
    refine xe_ifne (off := 37) (t := 49) (by decide +kernel) (by decide) rfl hi125 (fun c126 => ?_) (fun c126 => ?_)
    · rw [if_pos c126] at h
      refine xW_lv rfl (l := [(0, xR_ (a0))]) (xsb_of ⟨rfl, trivial⟩ (show [0, 1, 2, 4].Nodup by decide)) ?_
      exact k268_49    h
    · rw [if_neg c126] at h
      refine xe_ldn (ins := .iload_n 1) (len := 1) (by decide +kernel) rfl rfl rfl rfl ?_
      refine xe_bipush (n := 47) (by decide +kernel) (by decide) rfl ?_
      refine xe_icmpeq (off := 9) (t := 27) (by decide +kernel) (by decide) rfl ha1 (show xin (47) by decide) (fun c127 => ?_) (fun c127 => ?_)
      · rw [if_pos c127] at h
        refine xW_lv rfl (l := [(0, xR_ (a0)), (1, xI (a1)), (2, xZ (a2)), (4, xZ (a3))]) (xsb_of ⟨rfl, rfl, rfl, rfl, trivial⟩ (show [0, 1, 2, 4].Nodup by decide)) ?_
        exact k268_27   ha1 ha2 ha3 h
      · rw [if_neg c127] at h
        refine xe_ldn (ins := .iload_n 1) (len := 1) (by decide +kernel) rfl rfl rfl rfl ?_
        refine xe_bipush (n := 37) (by decide +kernel) (by decide) rfl ?_
        refine xe_icmpne (off := 10) (t := 34) (by decide +kernel) (by decide) rfl ha1 (show xin (37) by decide) (fun c128 => ?_) (fun c128 => ?_)
        · rw [if_pos c128] at h
          refine xW_lv rfl (l := [(0, xR_ (a0)), (1, xI (a1)), (2, xZ (a2)), (4, xZ (a3))]) (xsb_of ⟨rfl, rfl, rfl, rfl, trivial⟩ (show [0, 1, 2, 4].Nodup by decide)) ?_
          exact k268_34   ha1 ha2 ha3 h
        · rw [if_neg c128] at h
          refine xW_lv rfl (l := [(0, xR_ (a0)), (1, xI (a1)), (2, xZ (a2)), (4, xZ (a3))]) (xsb_of ⟨rfl, rfl, rfl, rfl, trivial⟩ (show [0, 1, 2, 4].Nodup by decide)) ?_
          exact k268_27   ha1 ha2 ha3 h
-- ChangeHouseModel.nextRing
def xr_291 : xj_mR := (15, yX15_nextRing, cX15_nextRing, 3, (Option.some Jvm.ClassFile.FieldType.int), 1, false, (9, 155), (1, 12))
set_option maxRecDepth 20000 in
theorem xr_291_e : xj_row 291 = some xr_291 := rfl
def f291_36  (r2 : Nat → Int → Int → xj_M → Option (Int × xj_M)) (f : Nat) (x0 : Nat) (x1 : Int) (x2 : Int) (M : xj_M) : Option (Int × xj_M) := r2 (x0) (x1) (xwr ((x2) + (1))) M
theorem k291_36 {d f : Nat}  {r2 : Nat → Int → Int → xj_M → Option (Int × xj_M)}  (hr2 : ∀ {x0 : Nat} {x1 : Int} {x2 : Int} {M : xj_M} {R : Int × xj_M}, xin x1 → xin x2 → r2 x0 x1 x2 M = some R → xW (d + 1) (none, d + 1, none) xr_291 (2, [(0, xR_ x0), (1, xI x1), (2, xI x2)], [], M) (xQi R)) {x0 : Nat} {x1 : Int} {x2 : Int} {M : xj_M} {R : Int × xj_M} (hx1 : xin x1) (hx2 : xin x2) (h : f291_36  r2 f x0 x1 x2 M = some R) : xW (d + 1) (none, d + 1, none) xr_291 (36, [(0, xR_ x0), (1, xI x1), (2, xI x2)], [], M) (xQi R) := by
  unfold f291_36 at h
  refine xe_iincr (i := 2) (n := 1) (by decide +kernel) (by decide) rfl (xk_k (show ¬ (0 : Nat) = 2 by decide) (Or.inl (show ¬ (0 + 1 : Nat) = 2 by decide)) (xk_k (show ¬ (1 : Nat) = 2 by decide) (Or.inr (xI_cat _)) (xk_d rfl xk_n))) rfl ?_
  refine xe_goto (off := -37) (nx := 2) (by decide +kernel) (by decide) ?_
  refine xW_lv rfl (l := [(0, xR_ (x0)), (1, xI (x1)), (2, xI (xwr ((x2) + (1))))]) (xsb_of ⟨rfl, rfl, rfl, trivial⟩ (show [2, 0, 1].Nodup by decide)) ?_
  exact hr2 hx1 (xin_wr _) h
def f291_2b  (r2 : Nat → Int → Int → xj_M → Option (Int × xj_M)) (f : Nat) (x0 : Nat) (x1 : Int) (x2 : Int) (M : xj_M) : Option (Int × xj_M) := ((xq_gr 15 29 (x0) M).bind fun v101 => ((xq_gr 14 4 (v101) M).bind fun v103 => ((xq_ai 3 (v103) (x2) M).bind fun v105 => (if ¬ (v105) = (x2) then f291_36  r2 f (x0) (x1) (x2) M else (if (xand (xshr (x1) (x2)) (1)) = (1) then f291_36  r2 f (x0) (x1) (x2) M else ((xq_is 15 (x0) M).bind fun _ => ((f292  f (x0) (x2) M).bind fun R111 => (if (xand (R111.1) (xxor (x1) (-1))) = 0 then (some (x2, R111.2)) else f291_36  r2 f (x0) (x1) (x2) R111.2))))))))
theorem k291_2b {d f : Nat}  {r2 : Nat → Int → Int → xj_M → Option (Int × xj_M)}  (hr2 : ∀ {x0 : Nat} {x1 : Int} {x2 : Int} {M : xj_M} {R : Int × xj_M}, xin x1 → xin x2 → r2 x0 x1 x2 M = some R → xW (d + 1) (none, d + 1, none) xr_291 (2, [(0, xR_ x0), (1, xI x1), (2, xI x2)], [], M) (xQi R)) {x0 : Nat} {x1 : Int} {x2 : Int} {M : xj_M} {R : Int × xj_M} (hx1 : xin x1) (hx2 : xin x2) (h : f291_2b  r2 f x0 x1 x2 M = some R) : xW (d + 1) (none, d + 1, none) xr_291 (2, [(0, xR_ x0), (1, xI x1), (2, xI x2)], [], M) (xQi R) := by
  unfold f291_2b at h
  refine xe_alr (ins := .aload_n 0) (len := 1) (i := 0) (by decide +kernel) rfl rfl rfl rfl rfl ?_
  obtain ⟨v101, e102, h⟩ := xbnd h
  refine xs_gr (i := 439) (c := 15) (k := 29) (by decide +kernel) (by decide) (by decide +kernel) e102 rfl ?_
  obtain ⟨v103, e104, h⟩ := xbnd h
  refine xs_gr (i := 427) (c := 14) (k := 4) (by decide +kernel) (by decide) (by decide +kernel) e104 rfl ?_
  refine xe_ldn (ins := .iload_n 2) (len := 1) (by decide +kernel) rfl rfl rfl rfl ?_
  obtain ⟨v105, e106, h⟩ := xbnd h
  refine xs_iald rfl (by decide +kernel) hx2 e106 rfl ?_
  refine xe_ldn (ins := .iload_n 2) (len := 1) (by decide +kernel) rfl rfl rfl rfl ?_
  refine xe_icmpne (off := 24) (t := 36) (by decide +kernel) (by decide) rfl (xq_ai_in e106) hx2 (fun c107 => ?_) (fun c107 => ?_)
  · rw [if_pos c107] at h
    refine xW_lv rfl (l := [(0, xR_ (x0)), (1, xI (x1)), (2, xI (x2))]) (xsb_of ⟨rfl, rfl, rfl, trivial⟩ (show [0, 1, 2].Nodup by decide)) ?_
    exact k291_36  hr2 hx1 hx2 h
  · rw [if_neg c107] at h
    refine xe_ldn (ins := .iload_n 1) (len := 1) (by decide +kernel) rfl rfl rfl rfl ?_
    refine xe_ldn (ins := .iload_n 2) (len := 1) (by decide +kernel) rfl rfl rfl rfl ?_
    refine xe_ishr (by decide +kernel) rfl ?_
    refine xe_iconst (n := 1) (by decide +kernel) rfl ?_
    refine xe_iand (by decide +kernel) rfl ?_
    refine xe_iconst (n := 1) (by decide +kernel) rfl ?_
    refine xe_icmpeq (off := 15) (t := 36) (by decide +kernel) (by decide) rfl (xin_of _) (show xin (1) by decide) (fun c108 => ?_) (fun c108 => ?_)
    · rw [if_pos c108] at h
      refine xW_lv rfl (l := [(0, xR_ (x0)), (1, xI (x1)), (2, xI (x2))]) (xsb_of ⟨rfl, rfl, rfl, trivial⟩ (show [0, 1, 2].Nodup by decide)) ?_
      exact k291_36  hr2 hx1 hx2 h
    · rw [if_neg c108] at h
      refine xe_alr (ins := .aload_n 0) (len := 1) (i := 0) (by decide +kernel) rfl rfl rfl rfl rfl ?_
      refine xe_ldn (ins := .iload_n 2) (len := 1) (by decide +kernel) rfl rfl rfl rfl ?_
      obtain ⟨_, e110, h⟩ := xbnd h
      obtain ⟨R111, e109, h⟩ := xbnd h
      refine xs_cv (i := 620) (j := 292) (ar := [xI (x2)]) (rest := []) (r2 := xr_292) (by decide +kernel) (by decide +kernel) (by decide +kernel) xr_292_e rfl (by decide) (by decide) e110 ?_
      refine xc_i (k292 (d := d + 0)  hx2 e109) rfl (fun hi112 => ?_)
      refine xe_ldn (ins := .iload_n 1) (len := 1) (by decide +kernel) rfl rfl rfl rfl ?_
      refine xe_iconst (n := -1) (by decide +kernel) rfl ?_
      refine xe_ixor (by decide +kernel) rfl ?_
      refine xe_iand (by decide +kernel) rfl ?_
      refine xe_ifeq (off := 9) (t := 42) (by decide +kernel) (by decide) rfl (xin_of _) (fun c113 => ?_) (fun c113 => ?_)
      · rw [if_pos c113] at h
        refine xe_ldn (ins := .iload_n 2) (len := 1) (by decide +kernel) rfl rfl rfl rfl ?_
        cases h
        exact xe_ret_i (ty := .int) (by decide +kernel) rfl rfl ⟨rfl, rfl, hx2⟩
      · rw [if_neg c113] at h
        refine xW_lv rfl (l := [(0, xR_ (x0)), (1, xI (x1)), (2, xI (x2))]) (xsb_of ⟨rfl, rfl, rfl, trivial⟩ (show [0, 1, 2].Nodup by decide)) ?_
        exact k291_36  hr2 hx1 hx2 h
def f291_2   (f : Nat) : Nat → Nat → Int → Int → xj_M → Option (Int × xj_M)
  | 0, _, _, _, _ => none
  | n + 1, x0, x1, x2, M => f291_2b   (f291_2   f n) f x0 x1 x2 M
theorem k291_2 {d f : Nat}     : ∀ {n : Nat} {x0 : Nat} {x1 : Int} {x2 : Int} {M : xj_M} {R : Int × xj_M}, xin x1 → xin x2 → f291_2   f n x0 x1 x2 M = some R → xW (d + 1) (none, d + 1, none) xr_291 (2, [(0, xR_ x0), (1, xI x1), (2, xI x2)], [], M) (xQi R) := by
  intro n
  induction n with
  | zero => intros; rename_i h; cases h
  | succ n ih => intros; rename_i h; exact k291_2b   ih (by assumption) (by assumption) h
def f291  (f : Nat) (a0 : Nat) (a1 : Int) (M : xj_M) : Option (Int × xj_M) := f291_2   f f (a0) (a1) (0) M
theorem k291 {d f : Nat}   {a0 : Nat} {a1 : Int} {M : xj_M} {R : Int × xj_M} (ha1 : xin a1) (h : f291  f a0 a1 M = some R) : xT (d + 2) 291 [xR_ a0, xI a1] M (xQi R) := by
  refine xT_m xr_291_e (X := (none, d + 1, none)) rfl (xa_1 (xR_cat _) (xa_1 (xI_cat _) xa_n)) (by decide) ?_
  unfold f291 at h
  refine xe_iconst (n := 0) (by decide +kernel) rfl ?_
  refine xe_isr (ins := .istore_n 2) (len := 1) (i := 2) (by decide +kernel) rfl rfl rfl (by decide) (xk_k (show ¬ (0 : Nat) = 2 by decide) (Or.inl (show ¬ (0 + 1 : Nat) = 2 by decide)) (xk_k (show ¬ (1 : Nat) = 2 by decide) (Or.inr (xI_cat _)) xk_n)) rfl ?_
  refine xW_lv rfl (l := [(0, xR_ (a0)), (1, xI (a1)), (2, xI (0))]) (xsb_of ⟨rfl, rfl, rfl, trivial⟩ (show [2, 0, 1].Nodup by decide)) ?_
  exact k291_2   ha1 (show xin (0) by decide) h
-- ChangeHouseModel.gatherFacts
def xr_302 : xj_mR := (15, yX15_gatherFacts, cX15_gatherFacts, 4, (Option.none : Option Jvm.ClassFile.FieldType), 1, false, (10, 28), (1, 12))
set_option maxRecDepth 20000 in
theorem xr_302_e : xj_row 302 = some xr_302 := rfl
def f302_20b  (r7 : Nat → Nat → Int → xj_M → Option (xj_M)) (r20 : Nat → Nat → Int → Int → xj_M → Option (xj_M)) (f : Nat) (x0 : Nat) (x1 : Nat) (x2 : Int) (x3 : Int) (M : xj_M) : Option (xj_M) := ((xq_gr 15 33 (x0) M).bind fun v101 => ((xq_ai 3 (v101) (x2) M).bind fun v103 => (if (v103) ≤ (x3) then r7 (x0) (x1) (xwr ((x2) + (1))) M else ((xq_gr 15 29 (x0) M).bind fun v106 => ((xq_gr 14 0 (v106) M).bind fun v108 => ((xq_al (v108) (x2) M).bind fun v110 => ((xq_gr 15 29 (x0) M).bind fun v112 => ((xq_gr 14 1 (v112) M).bind fun v114 => ((xq_ai 3 (v114) (x2) M).bind fun v116 => ((xq_gr 15 32 (x0) M).bind fun v118 => ((xq_is 15 (x0) M).bind fun _ => ((f261  f (x0) (x2) (x3) M).bind fun R122 => ((xq_is 12 (x1) R122.2).bind fun _ => ((f198  f (x1) (v110) (v116) (v118) (R122.1) R122.2).bind fun M126 => r20 (x0) (x1) (x2) (xwr ((x3) + (1))) M126))))))))))))))
theorem k302_20b {d f : Nat}  {r7 : Nat → Nat → Int → xj_M → Option (xj_M)} {r20 : Nat → Nat → Int → Int → xj_M → Option (xj_M)}  (hr7 : ∀ {x0 : Nat} {x1 : Nat} {x2 : Int} {M : xj_M} {R : xj_M}, xin x2 → r7 x0 x1 x2 M = some R → xW (d + 3) (none, d + 3, none) xr_302 (7, [(0, xR_ x0), (1, xR_ x1), (2, xI x2)], [], M) (xQv R)) (hr20 : ∀ {x0 : Nat} {x1 : Nat} {x2 : Int} {x3 : Int} {M : xj_M} {R : xj_M}, xin x2 → xin x3 → r20 x0 x1 x2 x3 M = some R → xW (d + 3) (none, d + 3, none) xr_302 (20, [(0, xR_ x0), (1, xR_ x1), (2, xI x2), (3, xI x3)], [], M) (xQv R)) {x0 : Nat} {x1 : Nat} {x2 : Int} {x3 : Int} {M : xj_M} {R : xj_M} (hx2 : xin x2) (hx3 : xin x3) (h : f302_20b  r7 r20 f x0 x1 x2 x3 M = some R) : xW (d + 3) (none, d + 3, none) xr_302 (20, [(0, xR_ x0), (1, xR_ x1), (2, xI x2), (3, xI x3)], [], M) (xQv R) := by
  unfold f302_20b at h
  refine xe_ldn (ins := .iload_n 3) (len := 1) (by decide +kernel) rfl rfl rfl rfl ?_
  refine xe_alr (ins := .aload_n 0) (len := 1) (i := 0) (by decide +kernel) rfl rfl rfl rfl rfl ?_
  obtain ⟨v101, e102, h⟩ := xbnd h
  refine xs_gr (i := 430) (c := 15) (k := 33) (by decide +kernel) (by decide) (by decide +kernel) e102 rfl ?_
  refine xe_ldn (ins := .iload_n 2) (len := 1) (by decide +kernel) rfl rfl rfl rfl ?_
  obtain ⟨v103, e104, h⟩ := xbnd h
  refine xs_iald rfl (by decide +kernel) hx2 e104 rfl ?_
  refine xe_icmpge (off := 41) (t := 68) (by decide +kernel) (by decide) rfl hx3 (xq_ai_in e104) (fun c105 => ?_) (fun c105 => ?_)
  · rw [if_pos c105] at h
    refine xe_iincr (i := 2) (n := 1) (by decide +kernel) (by decide) rfl (xk_k (show ¬ (0 : Nat) = 2 by decide) (Or.inl (show ¬ (0 + 1 : Nat) = 2 by decide)) (xk_k (show ¬ (1 : Nat) = 2 by decide) (Or.inr (xR_cat _)) (xk_d rfl (xk_k (show ¬ (3 : Nat) = 2 by decide) (Or.inl (show ¬ (3 + 1 : Nat) = 2 by decide)) xk_n)))) rfl ?_
    refine xe_goto (off := -64) (nx := 7) (by decide +kernel) (by decide) ?_
    refine xW_lv rfl (l := [(0, xR_ (x0)), (1, xR_ (x1)), (2, xI (xwr ((x2) + (1))))]) (xsb_of ⟨rfl, rfl, rfl, trivial⟩ (show [2, 0, 1, 3].Nodup by decide)) ?_
    exact hr7 (xin_wr _) h
  · rw [if_neg c105] at h
    refine xe_alr (ins := .aload_n 1) (len := 1) (i := 1) (by decide +kernel) rfl rfl rfl rfl rfl ?_
    refine xe_alr (ins := .aload_n 0) (len := 1) (i := 0) (by decide +kernel) rfl rfl rfl rfl rfl ?_
    obtain ⟨v106, e107, h⟩ := xbnd h
    refine xs_gr (i := 439) (c := 15) (k := 29) (by decide +kernel) (by decide) (by decide +kernel) e107 rfl ?_
    obtain ⟨v108, e109, h⟩ := xbnd h
    refine xs_gr (i := 217) (c := 14) (k := 0) (by decide +kernel) (by decide) (by decide +kernel) e109 rfl ?_
    refine xe_ldn (ins := .iload_n 2) (len := 1) (by decide +kernel) rfl rfl rfl rfl ?_
    obtain ⟨v110, e111, h⟩ := xbnd h
    refine xs_lald (by decide +kernel) hx2 e111 rfl ?_
    refine xe_alr (ins := .aload_n 0) (len := 1) (i := 0) (by decide +kernel) rfl rfl rfl rfl rfl ?_
    obtain ⟨v112, e113, h⟩ := xbnd h
    refine xs_gr (i := 439) (c := 15) (k := 29) (by decide +kernel) (by decide) (by decide +kernel) e113 rfl ?_
    obtain ⟨v114, e115, h⟩ := xbnd h
    refine xs_gr (i := 180) (c := 14) (k := 1) (by decide +kernel) (by decide) (by decide +kernel) e115 rfl ?_
    refine xe_ldn (ins := .iload_n 2) (len := 1) (by decide +kernel) rfl rfl rfl rfl ?_
    obtain ⟨v116, e117, h⟩ := xbnd h
    refine xs_iald rfl (by decide +kernel) hx2 e117 rfl ?_
    refine xe_alr (ins := .aload_n 0) (len := 1) (i := 0) (by decide +kernel) rfl rfl rfl rfl rfl ?_
    obtain ⟨v118, e119, h⟩ := xbnd h
    refine xs_gr (i := 433) (c := 15) (k := 32) (by decide +kernel) (by decide) (by decide +kernel) e119 rfl ?_
    refine xe_alr (ins := .aload_n 0) (len := 1) (i := 0) (by decide +kernel) rfl rfl rfl rfl rfl ?_
    refine xe_ldn (ins := .iload_n 2) (len := 1) (by decide +kernel) rfl rfl rfl rfl ?_
    refine xe_ldn (ins := .iload_n 3) (len := 1) (by decide +kernel) rfl rfl rfl rfl ?_
    obtain ⟨_, e121, h⟩ := xbnd h
    obtain ⟨R122, e120, h⟩ := xbnd h
    refine xs_cv (i := 436) (j := 261) (ar := [xI (x3), xI (x2)]) (rest := [xR_ (v118), xI (v116), xZ (v110), xR_ (x1)]) (r2 := xr_261) (by decide +kernel) (by decide +kernel) (by decide +kernel) xr_261_e rfl (by decide) (by simp only [List.map_cons, List.map_nil, List.sum_cons, List.sum_nil, xR_cat, xI_cat, xZ_cat]; decide) e121 ?_
    refine xc_i (k261 (d := d + 2)  hx2 hx3 e120) rfl (fun hi123 => ?_)
    obtain ⟨_, e125, h⟩ := xbnd h
    obtain ⟨M126, e124, h⟩ := xbnd h
    refine xs_cv (i := 785) (j := 198) (ar := [xI (R122.1), xR_ (v118), xI (v116), xZ (v110)]) (rest := []) (r2 := xr_198) (by decide +kernel) (by decide +kernel) (by decide +kernel) xr_198_e rfl (by decide) (by decide) e125 ?_
    refine xc_v (k198 (d := d + 0)  (xq_al_in e111) (xq_ai_in e117) hi123 e124) rfl ?_
    refine xe_iincr (i := 3) (n := 1) (by decide +kernel) (by decide) rfl (xk_k (show ¬ (0 : Nat) = 3 by decide) (Or.inl (show ¬ (0 + 1 : Nat) = 3 by decide)) (xk_k (show ¬ (1 : Nat) = 3 by decide) (Or.inl (show ¬ (1 + 1 : Nat) = 3 by decide)) (xk_k (show ¬ (2 : Nat) = 3 by decide) (Or.inr (xI_cat _)) (xk_d rfl xk_n)))) rfl ?_
    refine xe_goto (off := -45) (nx := 20) (by decide +kernel) (by decide) ?_
    refine xW_lv rfl (l := [(0, xR_ (x0)), (1, xR_ (x1)), (2, xI (x2)), (3, xI (xwr ((x3) + (1))))]) (xsb_of ⟨rfl, rfl, rfl, rfl, trivial⟩ (show [3, 0, 1, 2].Nodup by decide)) ?_
    exact hr20 hx2 (xin_wr _) h
def f302_20  (r7 : Nat → Nat → Int → xj_M → Option (xj_M)) (f : Nat) : Nat → Nat → Nat → Int → Int → xj_M → Option (xj_M)
  | 0, _, _, _, _, _ => none
  | n + 1, x0, x1, x2, x3, M => f302_20b  r7 (f302_20  r7 f n) f x0 x1 x2 x3 M
theorem k302_20 {d f : Nat}  {r7 : Nat → Nat → Int → xj_M → Option (xj_M)}  (hr7 : ∀ {x0 : Nat} {x1 : Nat} {x2 : Int} {M : xj_M} {R : xj_M}, xin x2 → r7 x0 x1 x2 M = some R → xW (d + 3) (none, d + 3, none) xr_302 (7, [(0, xR_ x0), (1, xR_ x1), (2, xI x2)], [], M) (xQv R)) : ∀ {n : Nat} {x0 : Nat} {x1 : Nat} {x2 : Int} {x3 : Int} {M : xj_M} {R : xj_M}, xin x2 → xin x3 → f302_20  r7 f n x0 x1 x2 x3 M = some R → xW (d + 3) (none, d + 3, none) xr_302 (20, [(0, xR_ x0), (1, xR_ x1), (2, xI x2), (3, xI x3)], [], M) (xQv R) := by
  intro n
  induction n with
  | zero => intros; rename_i h; cases h
  | succ n ih => intros; rename_i h; exact k302_20b  hr7 ih (by assumption) (by assumption) h
def f302_7b  (r7 : Nat → Nat → Int → xj_M → Option (xj_M)) (f : Nat) (x0 : Nat) (x1 : Nat) (x2 : Int) (M : xj_M) : Option (xj_M) := ((xq_gr 15 29 (x0) M).bind fun v128 => ((xq_gi 14 8 (v128) M).bind fun v130 => (if (v130) ≤ (x2) then (some M) else f302_20  r7 f f (x0) (x1) (x2) (0) M)))
theorem k302_7b {d f : Nat}  {r7 : Nat → Nat → Int → xj_M → Option (xj_M)}  (hr7 : ∀ {x0 : Nat} {x1 : Nat} {x2 : Int} {M : xj_M} {R : xj_M}, xin x2 → r7 x0 x1 x2 M = some R → xW (d + 3) (none, d + 3, none) xr_302 (7, [(0, xR_ x0), (1, xR_ x1), (2, xI x2)], [], M) (xQv R)) {x0 : Nat} {x1 : Nat} {x2 : Int} {M : xj_M} {R : xj_M} (hx2 : xin x2) (h : f302_7b  r7 f x0 x1 x2 M = some R) : xW (d + 3) (none, d + 3, none) xr_302 (7, [(0, xR_ x0), (1, xR_ x1), (2, xI x2)], [], M) (xQv R) := by
  unfold f302_7b at h
  refine xe_ldn (ins := .iload_n 2) (len := 1) (by decide +kernel) rfl rfl rfl rfl ?_
  refine xe_alr (ins := .aload_n 0) (len := 1) (i := 0) (by decide +kernel) rfl rfl rfl rfl rfl ?_
  obtain ⟨v128, e129, h⟩ := xbnd h
  refine xs_gr (i := 439) (c := 15) (k := 29) (by decide +kernel) (by decide) (by decide +kernel) e129 rfl ?_
  obtain ⟨v130, e131, h⟩ := xbnd h
  refine xs_gi (i := 166) (c := 14) (k := 8) (by decide +kernel) (by decide) (by decide +kernel) e131 rfl ?_
  refine xe_icmpge (off := 59) (t := 74) (by decide +kernel) (by decide) rfl hx2 (xq_gi_in e131) (fun c132 => ?_) (fun c132 => ?_)
  · rw [if_pos c132] at h
    cases h
    exact xe_ret_v (by decide +kernel) rfl ⟨rfl, rfl⟩
  · rw [if_neg c132] at h
    refine xe_iconst (n := 0) (by decide +kernel) rfl ?_
    refine xe_isr (ins := .istore_n 3) (len := 1) (i := 3) (by decide +kernel) rfl rfl rfl (by decide) (xk_k (show ¬ (0 : Nat) = 3 by decide) (Or.inl (show ¬ (0 + 1 : Nat) = 3 by decide)) (xk_k (show ¬ (1 : Nat) = 3 by decide) (Or.inl (show ¬ (1 + 1 : Nat) = 3 by decide)) (xk_k (show ¬ (2 : Nat) = 3 by decide) (Or.inr (xI_cat _)) xk_n))) rfl ?_
    refine xW_lv rfl (l := [(0, xR_ (x0)), (1, xR_ (x1)), (2, xI (x2)), (3, xI (0))]) (xsb_of ⟨rfl, rfl, rfl, rfl, trivial⟩ (show [3, 0, 1, 2].Nodup by decide)) ?_
    exact k302_20  hr7 hx2 (show xin (0) by decide) h
def f302_7   (f : Nat) : Nat → Nat → Nat → Int → xj_M → Option (xj_M)
  | 0, _, _, _, _ => none
  | n + 1, x0, x1, x2, M => f302_7b   (f302_7   f n) f x0 x1 x2 M
theorem k302_7 {d f : Nat}     : ∀ {n : Nat} {x0 : Nat} {x1 : Nat} {x2 : Int} {M : xj_M} {R : xj_M}, xin x2 → f302_7   f n x0 x1 x2 M = some R → xW (d + 3) (none, d + 3, none) xr_302 (7, [(0, xR_ x0), (1, xR_ x1), (2, xI x2)], [], M) (xQv R) := by
  intro n
  induction n with
  | zero => intros; rename_i h; cases h
  | succ n ih => intros; rename_i h; exact k302_7b   ih (by assumption) h
def f302  (f : Nat) (a0 : Nat) (a1 : Nat) (M : xj_M) : Option (xj_M) := ((xq_pi 12 3 (a1) (0) M).bind fun M133 => f302_7   f f (a0) (a1) (0) M133)
theorem k302 {d f : Nat}   {a0 : Nat} {a1 : Nat} {M : xj_M} {R : xj_M}  (h : f302  f a0 a1 M = some R) : xT (d + 4) 302 [xR_ a0, xR_ a1] M (xQv R) := by
  refine xT_m xr_302_e (X := (none, d + 3, none)) rfl (xa_1 (xR_cat _) (xa_1 (xR_cat _) xa_n)) (by decide) ?_
  unfold f302 at h
  refine xe_alr (ins := .aload_n 1) (len := 1) (i := 1) (by decide +kernel) rfl rfl rfl rfl rfl ?_
  refine xe_iconst (n := 0) (by decide +kernel) rfl ?_
  obtain ⟨M133, e134, h⟩ := xbnd h
  refine xs_p (i := 690) (c := 12) (k := 3) (by decide +kernel) (by decide +kernel) (by decide +kernel) e134 rfl ?_
  refine xe_iconst (n := 0) (by decide +kernel) rfl ?_
  refine xe_isr (ins := .istore_n 2) (len := 1) (i := 2) (by decide +kernel) rfl rfl rfl (by decide) (xk_k (show ¬ (0 : Nat) = 2 by decide) (Or.inl (show ¬ (0 + 1 : Nat) = 2 by decide)) (xk_k (show ¬ (1 : Nat) = 2 by decide) (Or.inr (xR_cat _)) xk_n)) rfl ?_
  refine xW_lv rfl (l := [(0, xR_ (a0)), (1, xR_ (a1)), (2, xI (0))]) (xsb_of ⟨rfl, rfl, rfl, trivial⟩ (show [2, 0, 1].Nodup by decide)) ?_
  exact k302_7   (show xin (0) by decide) h
-- ChangeHouseModel.tellEdits
def xr_306 : xj_mR := (15, yX15_tellEdits, cX15_tellEdits, 6, (Option.none : Option Jvm.ClassFile.FieldType), 1, false, (10, 68), (1, 12))
set_option maxRecDepth 20000 in
theorem xr_306_e : xj_row 306 = some xr_306 := rfl
def f306_217  (r2 : Nat → Nat → Int → xj_M → Option (xj_M)) (f : Nat) (x0 : Nat) (x1 : Nat) (x2 : Int) (M : xj_M) : Option (xj_M) := r2 (x0) (x1) (xwr ((x2) + (1))) M
theorem k306_217 {d f : Nat}  {r2 : Nat → Nat → Int → xj_M → Option (xj_M)}  (hr2 : ∀ {x0 : Nat} {x1 : Nat} {x2 : Int} {M : xj_M} {R : xj_M}, xin x2 → r2 x0 x1 x2 M = some R → xW (d + 1) (none, d + 1, none) xr_306 (2, [(0, xR_ x0), (1, xR_ x1), (2, xI x2)], [], M) (xQv R)) {x0 : Nat} {x1 : Nat} {x2 : Int} {M : xj_M} {R : xj_M} (hx2 : xin x2) (h : f306_217  r2 f x0 x1 x2 M = some R) : xW (d + 1) (none, d + 1, none) xr_306 (217, [(0, xR_ x0), (1, xR_ x1), (2, xI x2)], [], M) (xQv R) := by
  unfold f306_217 at h
  refine xe_iincr (i := 2) (n := 1) (by decide +kernel) (by decide) rfl (xk_k (show ¬ (0 : Nat) = 2 by decide) (Or.inl (show ¬ (0 + 1 : Nat) = 2 by decide)) (xk_k (show ¬ (1 : Nat) = 2 by decide) (Or.inr (xR_cat _)) (xk_d rfl xk_n))) rfl ?_
  refine xe_goto (off := -218) (nx := 2) (by decide +kernel) (by decide) ?_
  refine xW_lv rfl (l := [(0, xR_ (x0)), (1, xR_ (x1)), (2, xI (xwr ((x2) + (1))))]) (xsb_of ⟨rfl, rfl, rfl, trivial⟩ (show [2, 0, 1].Nodup by decide)) ?_
  exact hr2 (xin_wr _) h
def f306_211  (r2 : Nat → Nat → Int → xj_M → Option (xj_M)) (r33 : Nat → Nat → Int → Int → Int → xj_M → Option (xj_M)) (f : Nat) (x0 : Nat) (x1 : Nat) (x2 : Int) (x3 : Int) (y0 : Int) (y1 : Int) (M : xj_M) : Option (xj_M) := r33 (x0) (x1) (x2) (x3) (xwr ((y1) + (y0))) M
theorem k306_211 {d f : Nat}  {r2 : Nat → Nat → Int → xj_M → Option (xj_M)} {r33 : Nat → Nat → Int → Int → Int → xj_M → Option (xj_M)}  (hr2 : ∀ {x0 : Nat} {x1 : Nat} {x2 : Int} {M : xj_M} {R : xj_M}, xin x2 → r2 x0 x1 x2 M = some R → xW (d + 1) (none, d + 1, none) xr_306 (2, [(0, xR_ x0), (1, xR_ x1), (2, xI x2)], [], M) (xQv R)) (hr33 : ∀ {x0 : Nat} {x1 : Nat} {x2 : Int} {x3 : Int} {x4 : Int} {M : xj_M} {R : xj_M}, xin x2 → xin x3 → xin x4 → r33 x0 x1 x2 x3 x4 M = some R → xW (d + 1) (none, d + 1, none) xr_306 (33, [(0, xR_ x0), (1, xR_ x1), (2, xI x2), (3, xI x3), (4, xI x4)], [], M) (xQv R)) {x0 : Nat} {x1 : Nat} {x2 : Int} {x3 : Int} {y0 : Int} {y1 : Int} {M : xj_M} {R : xj_M} (hx2 : xin x2) (hx3 : xin x3) (hy0 : xin y0) (hy1 : xin y1) (h : f306_211  r2 r33 f x0 x1 x2 x3 y0 y1 M = some R) : xW (d + 1) (none, d + 1, none) xr_306 (211, [(0, xR_ x0), (1, xR_ x1), (2, xI x2), (3, xI x3)], [xI y0, xI y1], M) (xQv R) := by
  unfold f306_211 at h
  refine xe_iadd (by decide +kernel) rfl ?_
  refine xe_isr (ins := .istore 4) (len := 2) (i := 4) (by decide +kernel) rfl rfl rfl (by decide) (xk_k (show ¬ (0 : Nat) = 4 by decide) (Or.inl (show ¬ (0 + 1 : Nat) = 4 by decide)) (xk_k (show ¬ (1 : Nat) = 4 by decide) (Or.inl (show ¬ (1 + 1 : Nat) = 4 by decide)) (xk_k (show ¬ (2 : Nat) = 4 by decide) (Or.inl (show ¬ (2 + 1 : Nat) = 4 by decide)) (xk_k (show ¬ (3 : Nat) = 4 by decide) (Or.inr (xI_cat _)) xk_n)))) rfl ?_
  refine xe_goto (off := -181) (nx := 33) (by decide +kernel) (by decide) ?_
  refine xW_lv rfl (l := [(0, xR_ (x0)), (1, xR_ (x1)), (2, xI (x2)), (3, xI (x3)), (4, xI (xwr ((y1) + (y0))))]) (xsb_of ⟨rfl, rfl, rfl, rfl, rfl, trivial⟩ (show [4, 0, 1, 2, 3].Nodup by decide)) ?_
  exact hr33 hx2 hx3 (xin_wr _) h
def f306_197  (r2 : Nat → Nat → Int → xj_M → Option (xj_M)) (r33 : Nat → Nat → Int → Int → Int → xj_M → Option (xj_M)) (f : Nat) (x0 : Nat) (x1 : Nat) (x2 : Int) (x4 : Int) (x5 : Int) (y0 : Int) (y1 : Int) (M : xj_M) : Option (xj_M) := (if (x5) < 0 then f306_211  r2 r33 f (x0) (x1) (x2) (xwr ((y1) + (y0))) (0) (x4) M else f306_211  r2 r33 f (x0) (x1) (x2) (xwr ((y1) + (y0))) (1) (x4) M)
theorem k306_197 {d f : Nat}  {r2 : Nat → Nat → Int → xj_M → Option (xj_M)} {r33 : Nat → Nat → Int → Int → Int → xj_M → Option (xj_M)}  (hr2 : ∀ {x0 : Nat} {x1 : Nat} {x2 : Int} {M : xj_M} {R : xj_M}, xin x2 → r2 x0 x1 x2 M = some R → xW (d + 1) (none, d + 1, none) xr_306 (2, [(0, xR_ x0), (1, xR_ x1), (2, xI x2)], [], M) (xQv R)) (hr33 : ∀ {x0 : Nat} {x1 : Nat} {x2 : Int} {x3 : Int} {x4 : Int} {M : xj_M} {R : xj_M}, xin x2 → xin x3 → xin x4 → r33 x0 x1 x2 x3 x4 M = some R → xW (d + 1) (none, d + 1, none) xr_306 (33, [(0, xR_ x0), (1, xR_ x1), (2, xI x2), (3, xI x3), (4, xI x4)], [], M) (xQv R)) {x0 : Nat} {x1 : Nat} {x2 : Int} {x4 : Int} {x5 : Int} {y0 : Int} {y1 : Int} {M : xj_M} {R : xj_M} (hx2 : xin x2) (hx4 : xin x4) (hx5 : xin x5) (hy0 : xin y0) (hy1 : xin y1) (h : f306_197  r2 r33 f x0 x1 x2 x4 x5 y0 y1 M = some R) : xW (d + 1) (none, d + 1, none) xr_306 (197, [(0, xR_ x0), (1, xR_ x1), (2, xI x2), (4, xI x4), (5, xI x5)], [xI y0, xI y1], M) (xQv R) := by
  unfold f306_197 at h
  refine xe_iadd (by decide +kernel) rfl ?_
  refine xe_isr (ins := .istore_n 3) (len := 1) (i := 3) (by decide +kernel) rfl rfl rfl (by decide) (xk_k (show ¬ (0 : Nat) = 3 by decide) (Or.inl (show ¬ (0 + 1 : Nat) = 3 by decide)) (xk_k (show ¬ (1 : Nat) = 3 by decide) (Or.inl (show ¬ (1 + 1 : Nat) = 3 by decide)) (xk_k (show ¬ (2 : Nat) = 3 by decide) (Or.inr (xI_cat _)) (xk_k (show ¬ (4 : Nat) = 3 by decide) (Or.inl (show ¬ (4 + 1 : Nat) = 3 by decide)) (xk_k (show ¬ (5 : Nat) = 3 by decide) (Or.inl (show ¬ (5 + 1 : Nat) = 3 by decide)) xk_n))))) rfl ?_
  refine xe_ldn (ins := .iload 4) (len := 2) (by decide +kernel) rfl rfl rfl rfl ?_
  refine xe_ldn (ins := .iload 5) (len := 2) (by decide +kernel) rfl rfl rfl rfl ?_
  refine xe_iflt (off := 7) (t := 210) (by decide +kernel) (by decide) rfl hx5 (fun c101 => ?_) (fun c101 => ?_)
  · rw [if_pos c101] at h
    refine xe_iconst (n := 0) (by decide +kernel) rfl ?_
    refine xW_lv rfl (l := [(0, xR_ (x0)), (1, xR_ (x1)), (2, xI (x2)), (3, xI (xwr ((y1) + (y0))))]) (xsb_of ⟨rfl, rfl, rfl, rfl, trivial⟩ (show [3, 0, 1, 2, 4, 5].Nodup by decide)) ?_
    exact k306_211  hr2 hr33 hx2 (xin_wr _) (show xin (0) by decide) hx4 h
  · rw [if_neg c101] at h
    refine xe_iconst (n := 1) (by decide +kernel) rfl ?_
    refine xe_goto (off := 4) (nx := 211) (by decide +kernel) (by decide) ?_
    refine xW_lv rfl (l := [(0, xR_ (x0)), (1, xR_ (x1)), (2, xI (x2)), (3, xI (xwr ((y1) + (y0))))]) (xsb_of ⟨rfl, rfl, rfl, rfl, trivial⟩ (show [3, 0, 1, 2, 4, 5].Nodup by decide)) ?_
    exact k306_211  hr2 hr33 hx2 (xin_wr _) (show xin (1) by decide) hx4 h
def f306_186  (r2 : Nat → Nat → Int → xj_M → Option (xj_M)) (r33 : Nat → Nat → Int → Int → Int → xj_M → Option (xj_M)) (f : Nat) (x0 : Nat) (x1 : Nat) (x2 : Int) (x3 : Int) (x4 : Int) (x5 : Int) (M : xj_M) : Option (xj_M) := (if 0 < (x5) then f306_197  r2 r33 f (x0) (x1) (x2) (x4) (x5) (0) (x3) M else f306_197  r2 r33 f (x0) (x1) (x2) (x4) (x5) (1) (x3) M)
theorem k306_186 {d f : Nat}  {r2 : Nat → Nat → Int → xj_M → Option (xj_M)} {r33 : Nat → Nat → Int → Int → Int → xj_M → Option (xj_M)}  (hr2 : ∀ {x0 : Nat} {x1 : Nat} {x2 : Int} {M : xj_M} {R : xj_M}, xin x2 → r2 x0 x1 x2 M = some R → xW (d + 1) (none, d + 1, none) xr_306 (2, [(0, xR_ x0), (1, xR_ x1), (2, xI x2)], [], M) (xQv R)) (hr33 : ∀ {x0 : Nat} {x1 : Nat} {x2 : Int} {x3 : Int} {x4 : Int} {M : xj_M} {R : xj_M}, xin x2 → xin x3 → xin x4 → r33 x0 x1 x2 x3 x4 M = some R → xW (d + 1) (none, d + 1, none) xr_306 (33, [(0, xR_ x0), (1, xR_ x1), (2, xI x2), (3, xI x3), (4, xI x4)], [], M) (xQv R)) {x0 : Nat} {x1 : Nat} {x2 : Int} {x3 : Int} {x4 : Int} {x5 : Int} {M : xj_M} {R : xj_M} (hx2 : xin x2) (hx3 : xin x3) (hx4 : xin x4) (hx5 : xin x5) (h : f306_186  r2 r33 f x0 x1 x2 x3 x4 x5 M = some R) : xW (d + 1) (none, d + 1, none) xr_306 (186, [(0, xR_ x0), (1, xR_ x1), (2, xI x2), (3, xI x3), (4, xI x4), (5, xI x5)], [], M) (xQv R) := by
  unfold f306_186 at h
  refine xe_ldn (ins := .iload_n 3) (len := 1) (by decide +kernel) rfl rfl rfl rfl ?_
  refine xe_ldn (ins := .iload 5) (len := 2) (by decide +kernel) rfl rfl rfl rfl ?_
  refine xe_ifgt (off := 7) (t := 196) (by decide +kernel) (by decide) rfl hx5 (fun c102 => ?_) (fun c102 => ?_)
  · rw [if_pos c102] at h
    refine xe_iconst (n := 0) (by decide +kernel) rfl ?_
    refine xW_lv rfl (l := [(0, xR_ (x0)), (1, xR_ (x1)), (2, xI (x2)), (4, xI (x4)), (5, xI (x5))]) (xsb_of ⟨rfl, rfl, rfl, rfl, rfl, trivial⟩ (show [0, 1, 2, 3, 4, 5].Nodup by decide)) ?_
    exact k306_197  hr2 hr33 hx2 hx4 hx5 (show xin (0) by decide) hx3 h
  · rw [if_neg c102] at h
    refine xe_iconst (n := 1) (by decide +kernel) rfl ?_
    refine xe_goto (off := 4) (nx := 197) (by decide +kernel) (by decide) ?_
    refine xW_lv rfl (l := [(0, xR_ (x0)), (1, xR_ (x1)), (2, xI (x2)), (4, xI (x4)), (5, xI (x5))]) (xsb_of ⟨rfl, rfl, rfl, rfl, rfl, trivial⟩ (show [0, 1, 2, 3, 4, 5].Nodup by decide)) ?_
    exact k306_197  hr2 hr33 hx2 hx4 hx5 (show xin (1) by decide) hx3 h
def f306_168  (r2 : Nat → Nat → Int → xj_M → Option (xj_M)) (r33 : Nat → Nat → Int → Int → Int → xj_M → Option (xj_M)) (f : Nat) (x0 : Nat) (x1 : Nat) (x2 : Int) (x3 : Int) (x4 : Int) (x5 : Int) (M : xj_M) : Option (xj_M) := (if (x5) ≤ 0 then f306_186  r2 r33 f (x0) (x1) (x2) (x3) (x4) (x5) M else ((xq_gr 15 77 (x0) M).bind fun v104 => ((xq_is 15 (x0) M).bind fun _ => ((f307  f (x0) (x1) (x2) (1) (v104) (x4) M).bind fun M108 => f306_186  r2 r33 f (x0) (x1) (x2) (x3) (x4) (x5) M108))))
theorem k306_168 {d f : Nat}  {r2 : Nat → Nat → Int → xj_M → Option (xj_M)} {r33 : Nat → Nat → Int → Int → Int → xj_M → Option (xj_M)}  (hr2 : ∀ {x0 : Nat} {x1 : Nat} {x2 : Int} {M : xj_M} {R : xj_M}, xin x2 → r2 x0 x1 x2 M = some R → xW (d + 1) (none, d + 1, none) xr_306 (2, [(0, xR_ x0), (1, xR_ x1), (2, xI x2)], [], M) (xQv R)) (hr33 : ∀ {x0 : Nat} {x1 : Nat} {x2 : Int} {x3 : Int} {x4 : Int} {M : xj_M} {R : xj_M}, xin x2 → xin x3 → xin x4 → r33 x0 x1 x2 x3 x4 M = some R → xW (d + 1) (none, d + 1, none) xr_306 (33, [(0, xR_ x0), (1, xR_ x1), (2, xI x2), (3, xI x3), (4, xI x4)], [], M) (xQv R)) {x0 : Nat} {x1 : Nat} {x2 : Int} {x3 : Int} {x4 : Int} {x5 : Int} {M : xj_M} {R : xj_M} (hx2 : xin x2) (hx3 : xin x3) (hx4 : xin x4) (hx5 : xin x5) (h : f306_168  r2 r33 f x0 x1 x2 x3 x4 x5 M = some R) : xW (d + 1) (none, d + 1, none) xr_306 (168, [(0, xR_ x0), (1, xR_ x1), (2, xI x2), (3, xI x3), (4, xI x4), (5, xI x5)], [], M) (xQv R) := by
  unfold f306_168 at h
  refine xe_ldn (ins := .iload 5) (len := 2) (by decide +kernel) rfl rfl rfl rfl ?_
  refine xe_ifle (off := 16) (t := 186) (by decide +kernel) (by decide) rfl hx5 (fun c103 => ?_) (fun c103 => ?_)
  · rw [if_pos c103] at h
    refine xW_lv rfl (l := [(0, xR_ (x0)), (1, xR_ (x1)), (2, xI (x2)), (3, xI (x3)), (4, xI (x4)), (5, xI (x5))]) (xsb_of ⟨rfl, rfl, rfl, rfl, rfl, rfl, trivial⟩ (show [0, 1, 2, 3, 4, 5].Nodup by decide)) ?_
    exact k306_186  hr2 hr33 hx2 hx3 hx4 hx5 h
  · rw [if_neg c103] at h
    refine xe_alr (ins := .aload_n 0) (len := 1) (i := 0) (by decide +kernel) rfl rfl rfl rfl rfl ?_
    refine xe_alr (ins := .aload_n 1) (len := 1) (i := 1) (by decide +kernel) rfl rfl rfl rfl rfl ?_
    refine xe_ldn (ins := .iload_n 2) (len := 1) (by decide +kernel) rfl rfl rfl rfl ?_
    refine xe_iconst (n := 1) (by decide +kernel) rfl ?_
    refine xe_alr (ins := .aload_n 0) (len := 1) (i := 0) (by decide +kernel) rfl rfl rfl rfl rfl ?_
    obtain ⟨v104, e105, h⟩ := xbnd h
    refine xs_gr (i := 728) (c := 15) (k := 77) (by decide +kernel) (by decide) (by decide +kernel) e105 rfl ?_
    refine xe_ldn (ins := .iload 4) (len := 2) (by decide +kernel) rfl rfl rfl rfl ?_
    obtain ⟨_, e107, h⟩ := xbnd h
    obtain ⟨M108, e106, h⟩ := xbnd h
    refine xs_cv (i := 821) (j := 307) (ar := [xI (x4), xR_ (v104), xI (1), xI (x2), xR_ (x1)]) (rest := []) (r2 := xr_307) (by decide +kernel) (by decide +kernel) (by decide +kernel) xr_307_e rfl (by decide) (by decide) e107 ?_
    refine xc_v (k307 (d := d + 0)  hx2 (show xin (1) by decide) hx4 e106) rfl ?_
    refine xW_lv rfl (l := [(0, xR_ (x0)), (1, xR_ (x1)), (2, xI (x2)), (3, xI (x3)), (4, xI (x4)), (5, xI (x5))]) (xsb_of ⟨rfl, rfl, rfl, rfl, rfl, rfl, trivial⟩ (show [0, 1, 2, 3, 4, 5].Nodup by decide)) ?_
    exact k306_186  hr2 hr33 hx2 hx3 hx4 hx5 h
def f306_149  (r2 : Nat → Nat → Int → xj_M → Option (xj_M)) (r33 : Nat → Nat → Int → Int → Int → xj_M → Option (xj_M)) (f : Nat) (x0 : Nat) (x1 : Nat) (x2 : Int) (x3 : Int) (x4 : Int) (y0 : Int) (M : xj_M) : Option (xj_M) := (if 0 ≤ (y0) then f306_168  r2 r33 f (x0) (x1) (x2) (x3) (x4) (y0) M else ((xq_gr 15 76 (x0) M).bind fun v111 => ((xq_is 15 (x0) M).bind fun _ => ((f307  f (x0) (x1) (x2) (0) (v111) (x3) M).bind fun M115 => f306_168  r2 r33 f (x0) (x1) (x2) (x3) (x4) (y0) M115))))
theorem k306_149 {d f : Nat}  {r2 : Nat → Nat → Int → xj_M → Option (xj_M)} {r33 : Nat → Nat → Int → Int → Int → xj_M → Option (xj_M)}  (hr2 : ∀ {x0 : Nat} {x1 : Nat} {x2 : Int} {M : xj_M} {R : xj_M}, xin x2 → r2 x0 x1 x2 M = some R → xW (d + 1) (none, d + 1, none) xr_306 (2, [(0, xR_ x0), (1, xR_ x1), (2, xI x2)], [], M) (xQv R)) (hr33 : ∀ {x0 : Nat} {x1 : Nat} {x2 : Int} {x3 : Int} {x4 : Int} {M : xj_M} {R : xj_M}, xin x2 → xin x3 → xin x4 → r33 x0 x1 x2 x3 x4 M = some R → xW (d + 1) (none, d + 1, none) xr_306 (33, [(0, xR_ x0), (1, xR_ x1), (2, xI x2), (3, xI x3), (4, xI x4)], [], M) (xQv R)) {x0 : Nat} {x1 : Nat} {x2 : Int} {x3 : Int} {x4 : Int} {y0 : Int} {M : xj_M} {R : xj_M} (hx2 : xin x2) (hx3 : xin x3) (hx4 : xin x4) (hy0 : xin y0) (h : f306_149  r2 r33 f x0 x1 x2 x3 x4 y0 M = some R) : xW (d + 1) (none, d + 1, none) xr_306 (149, [(0, xR_ x0), (1, xR_ x1), (2, xI x2), (3, xI x3), (4, xI x4)], [xI y0], M) (xQv R) := by
  unfold f306_149 at h
  refine xe_isr (ins := .istore 5) (len := 2) (i := 5) (by decide +kernel) rfl rfl rfl (by decide) (xk_k (show ¬ (0 : Nat) = 5 by decide) (Or.inl (show ¬ (0 + 1 : Nat) = 5 by decide)) (xk_k (show ¬ (1 : Nat) = 5 by decide) (Or.inl (show ¬ (1 + 1 : Nat) = 5 by decide)) (xk_k (show ¬ (2 : Nat) = 5 by decide) (Or.inl (show ¬ (2 + 1 : Nat) = 5 by decide)) (xk_k (show ¬ (3 : Nat) = 5 by decide) (Or.inl (show ¬ (3 + 1 : Nat) = 5 by decide)) (xk_k (show ¬ (4 : Nat) = 5 by decide) (Or.inr (xI_cat _)) xk_n))))) rfl ?_
  refine xe_ldn (ins := .iload 5) (len := 2) (by decide +kernel) rfl rfl rfl rfl ?_
  refine xe_ifge (off := 15) (t := 168) (by decide +kernel) (by decide) rfl hy0 (fun c110 => ?_) (fun c110 => ?_)
  · rw [if_pos c110] at h
    refine xW_lv rfl (l := [(0, xR_ (x0)), (1, xR_ (x1)), (2, xI (x2)), (3, xI (x3)), (4, xI (x4)), (5, xI (y0))]) (xsb_of ⟨rfl, rfl, rfl, rfl, rfl, rfl, trivial⟩ (show [5, 0, 1, 2, 3, 4].Nodup by decide)) ?_
    exact k306_168  hr2 hr33 hx2 hx3 hx4 hy0 h
  · rw [if_neg c110] at h
    refine xe_alr (ins := .aload_n 0) (len := 1) (i := 0) (by decide +kernel) rfl rfl rfl rfl rfl ?_
    refine xe_alr (ins := .aload_n 1) (len := 1) (i := 1) (by decide +kernel) rfl rfl rfl rfl rfl ?_
    refine xe_ldn (ins := .iload_n 2) (len := 1) (by decide +kernel) rfl rfl rfl rfl ?_
    refine xe_iconst (n := 0) (by decide +kernel) rfl ?_
    refine xe_alr (ins := .aload_n 0) (len := 1) (i := 0) (by decide +kernel) rfl rfl rfl rfl rfl ?_
    obtain ⟨v111, e112, h⟩ := xbnd h
    refine xs_gr (i := 705) (c := 15) (k := 76) (by decide +kernel) (by decide) (by decide +kernel) e112 rfl ?_
    refine xe_ldn (ins := .iload_n 3) (len := 1) (by decide +kernel) rfl rfl rfl rfl ?_
    obtain ⟨_, e114, h⟩ := xbnd h
    obtain ⟨M115, e113, h⟩ := xbnd h
    refine xs_cv (i := 821) (j := 307) (ar := [xI (x3), xR_ (v111), xI (0), xI (x2), xR_ (x1)]) (rest := []) (r2 := xr_307) (by decide +kernel) (by decide +kernel) (by decide +kernel) xr_307_e rfl (by decide) (by decide) e114 ?_
    refine xc_v (k307 (d := d + 0)  hx2 (show xin (0) by decide) hx3 e113) rfl ?_
    refine xW_lv rfl (l := [(0, xR_ (x0)), (1, xR_ (x1)), (2, xI (x2)), (3, xI (x3)), (4, xI (x4)), (5, xI (y0))]) (xsb_of ⟨rfl, rfl, rfl, rfl, rfl, rfl, trivial⟩ (show [5, 0, 1, 2, 3, 4].Nodup by decide)) ?_
    exact k306_168  hr2 hr33 hx2 hx3 hx4 hy0 h
def f306_56  (r2 : Nat → Nat → Int → xj_M → Option (xj_M)) (r33 : Nat → Nat → Int → Int → Int → xj_M → Option (xj_M)) (f : Nat) (x0 : Nat) (x1 : Nat) (x2 : Int) (x3 : Int) (x4 : Int) (M : xj_M) : Option (xj_M) := ((xq_gr 15 76 (x0) M).bind fun v117 => ((xq_gi 12 3 (v117) M).bind fun v119 => (if ¬ (x3) = (v119) then ((xq_gr 15 77 (x0) M).bind fun v122 => ((xq_gi 12 3 (v122) M).bind fun v124 => (if ¬ (x4) = (v124) then ((xq_gr 15 76 (x0) M).bind fun v127 => ((xq_gr 12 0 (v127) M).bind fun v129 => ((xq_al (v129) (x3) M).bind fun v131 => ((xq_gr 15 76 (x0) M).bind fun v133 => ((xq_gr 12 2 (v133) M).bind fun v135 => ((xq_ai 3 (v135) (x3) M).bind fun v137 => ((xq_gr 15 76 (x0) M).bind fun v139 => ((xq_gr 12 1 (v139) M).bind fun v141 => ((xq_gr 15 77 (x0) M).bind fun v143 => ((xq_gr 12 0 (v143) M).bind fun v145 => ((xq_al (v145) (x4) M).bind fun v147 => ((xq_gr 15 77 (x0) M).bind fun v149 => ((xq_gr 12 2 (v149) M).bind fun v151 => ((xq_ai 3 (v151) (x4) M).bind fun v153 => ((xq_gr 15 77 (x0) M).bind fun v155 => ((xq_gr 12 1 (v155) M).bind fun v157 => ((f195  f (v131) (v137) (v141) (xwr ((4) * (x3))) (v147) (v153) (v157) (xwr ((4) * (x4))) M).bind fun R160 => f306_149  r2 r33 f (x0) (x1) (x2) (x3) (x4) (R160.1) R160.2))))))))))))))))) else f306_149  r2 r33 f (x0) (x1) (x2) (x3) (x4) (-1) M))) else f306_149  r2 r33 f (x0) (x1) (x2) (x3) (x4) (1) M)))
theorem k306_56 {d f : Nat}  {r2 : Nat → Nat → Int → xj_M → Option (xj_M)} {r33 : Nat → Nat → Int → Int → Int → xj_M → Option (xj_M)}  (hr2 : ∀ {x0 : Nat} {x1 : Nat} {x2 : Int} {M : xj_M} {R : xj_M}, xin x2 → r2 x0 x1 x2 M = some R → xW (d + 1) (none, d + 1, none) xr_306 (2, [(0, xR_ x0), (1, xR_ x1), (2, xI x2)], [], M) (xQv R)) (hr33 : ∀ {x0 : Nat} {x1 : Nat} {x2 : Int} {x3 : Int} {x4 : Int} {M : xj_M} {R : xj_M}, xin x2 → xin x3 → xin x4 → r33 x0 x1 x2 x3 x4 M = some R → xW (d + 1) (none, d + 1, none) xr_306 (33, [(0, xR_ x0), (1, xR_ x1), (2, xI x2), (3, xI x3), (4, xI x4)], [], M) (xQv R)) {x0 : Nat} {x1 : Nat} {x2 : Int} {x3 : Int} {x4 : Int} {M : xj_M} {R : xj_M} (hx2 : xin x2) (hx3 : xin x3) (hx4 : xin x4) (h : f306_56  r2 r33 f x0 x1 x2 x3 x4 M = some R) : xW (d + 1) (none, d + 1, none) xr_306 (56, [(0, xR_ x0), (1, xR_ x1), (2, xI x2), (3, xI x3), (4, xI x4)], [], M) (xQv R) := by
  unfold f306_56 at h
  refine xe_ldn (ins := .iload_n 3) (len := 1) (by decide +kernel) rfl rfl rfl rfl ?_
  refine xe_alr (ins := .aload_n 0) (len := 1) (i := 0) (by decide +kernel) rfl rfl rfl rfl rfl ?_
  obtain ⟨v117, e118, h⟩ := xbnd h
  refine xs_gr (i := 705) (c := 15) (k := 76) (by decide +kernel) (by decide) (by decide +kernel) e118 rfl ?_
  obtain ⟨v119, e120, h⟩ := xbnd h
  refine xs_gi (i := 690) (c := 12) (k := 3) (by decide +kernel) (by decide) (by decide +kernel) e120 rfl ?_
  refine xe_icmpne (off := 7) (t := 71) (by decide +kernel) (by decide) rfl hx3 (xq_gi_in e120) (fun c121 => ?_) (fun c121 => ?_)
  · rw [if_pos c121] at h
    refine xe_ldn (ins := .iload 4) (len := 2) (by decide +kernel) rfl rfl rfl rfl ?_
    refine xe_alr (ins := .aload_n 0) (len := 1) (i := 0) (by decide +kernel) rfl rfl rfl rfl rfl ?_
    obtain ⟨v122, e123, h⟩ := xbnd h
    refine xs_gr (i := 728) (c := 15) (k := 77) (by decide +kernel) (by decide) (by decide +kernel) e123 rfl ?_
    obtain ⟨v124, e125, h⟩ := xbnd h
    refine xs_gi (i := 690) (c := 12) (k := 3) (by decide +kernel) (by decide) (by decide +kernel) e125 rfl ?_
    refine xe_icmpne (off := 7) (t := 87) (by decide +kernel) (by decide) rfl hx4 (xq_gi_in e125) (fun c126 => ?_) (fun c126 => ?_)
    · rw [if_pos c126] at h
      refine xe_alr (ins := .aload_n 0) (len := 1) (i := 0) (by decide +kernel) rfl rfl rfl rfl rfl ?_
      obtain ⟨v127, e128, h⟩ := xbnd h
      refine xs_gr (i := 705) (c := 15) (k := 76) (by decide +kernel) (by decide) (by decide +kernel) e128 rfl ?_
      obtain ⟨v129, e130, h⟩ := xbnd h
      refine xs_gr (i := 694) (c := 12) (k := 0) (by decide +kernel) (by decide) (by decide +kernel) e130 rfl ?_
      refine xe_ldn (ins := .iload_n 3) (len := 1) (by decide +kernel) rfl rfl rfl rfl ?_
      obtain ⟨v131, e132, h⟩ := xbnd h
      refine xs_lald (by decide +kernel) hx3 e132 rfl ?_
      refine xe_alr (ins := .aload_n 0) (len := 1) (i := 0) (by decide +kernel) rfl rfl rfl rfl rfl ?_
      obtain ⟨v133, e134, h⟩ := xbnd h
      refine xs_gr (i := 705) (c := 15) (k := 76) (by decide +kernel) (by decide) (by decide +kernel) e134 rfl ?_
      obtain ⟨v135, e136, h⟩ := xbnd h
      refine xs_gr (i := 695) (c := 12) (k := 2) (by decide +kernel) (by decide) (by decide +kernel) e136 rfl ?_
      refine xe_ldn (ins := .iload_n 3) (len := 1) (by decide +kernel) rfl rfl rfl rfl ?_
      obtain ⟨v137, e138, h⟩ := xbnd h
      refine xs_iald rfl (by decide +kernel) hx3 e138 rfl ?_
      refine xe_alr (ins := .aload_n 0) (len := 1) (i := 0) (by decide +kernel) rfl rfl rfl rfl rfl ?_
      obtain ⟨v139, e140, h⟩ := xbnd h
      refine xs_gr (i := 705) (c := 15) (k := 76) (by decide +kernel) (by decide) (by decide +kernel) e140 rfl ?_
      obtain ⟨v141, e142, h⟩ := xbnd h
      refine xs_gr (i := 696) (c := 12) (k := 1) (by decide +kernel) (by decide) (by decide +kernel) e142 rfl ?_
      refine xe_iconst (n := 4) (by decide +kernel) rfl ?_
      refine xe_ldn (ins := .iload_n 3) (len := 1) (by decide +kernel) rfl rfl rfl rfl ?_
      refine xe_imul (by decide +kernel) rfl ?_
      refine xe_alr (ins := .aload_n 0) (len := 1) (i := 0) (by decide +kernel) rfl rfl rfl rfl rfl ?_
      obtain ⟨v143, e144, h⟩ := xbnd h
      refine xs_gr (i := 728) (c := 15) (k := 77) (by decide +kernel) (by decide) (by decide +kernel) e144 rfl ?_
      obtain ⟨v145, e146, h⟩ := xbnd h
      refine xs_gr (i := 694) (c := 12) (k := 0) (by decide +kernel) (by decide) (by decide +kernel) e146 rfl ?_
      refine xe_ldn (ins := .iload 4) (len := 2) (by decide +kernel) rfl rfl rfl rfl ?_
      obtain ⟨v147, e148, h⟩ := xbnd h
      refine xs_lald (by decide +kernel) hx4 e148 rfl ?_
      refine xe_alr (ins := .aload_n 0) (len := 1) (i := 0) (by decide +kernel) rfl rfl rfl rfl rfl ?_
      obtain ⟨v149, e150, h⟩ := xbnd h
      refine xs_gr (i := 728) (c := 15) (k := 77) (by decide +kernel) (by decide) (by decide +kernel) e150 rfl ?_
      obtain ⟨v151, e152, h⟩ := xbnd h
      refine xs_gr (i := 695) (c := 12) (k := 2) (by decide +kernel) (by decide) (by decide +kernel) e152 rfl ?_
      refine xe_ldn (ins := .iload 4) (len := 2) (by decide +kernel) rfl rfl rfl rfl ?_
      obtain ⟨v153, e154, h⟩ := xbnd h
      refine xs_iald rfl (by decide +kernel) hx4 e154 rfl ?_
      refine xe_alr (ins := .aload_n 0) (len := 1) (i := 0) (by decide +kernel) rfl rfl rfl rfl rfl ?_
      obtain ⟨v155, e156, h⟩ := xbnd h
      refine xs_gr (i := 728) (c := 15) (k := 77) (by decide +kernel) (by decide) (by decide +kernel) e156 rfl ?_
      obtain ⟨v157, e158, h⟩ := xbnd h
      refine xs_gr (i := 696) (c := 12) (k := 1) (by decide +kernel) (by decide) (by decide +kernel) e158 rfl ?_
      refine xe_iconst (n := 4) (by decide +kernel) rfl ?_
      refine xe_ldn (ins := .iload 4) (len := 2) (by decide +kernel) rfl rfl rfl rfl ?_
      refine xe_imul (by decide +kernel) rfl ?_
      obtain ⟨R160, e159, h⟩ := xbnd h
      refine xs_cs (kd := 2) (by decide) (i := 817) (j := 195) (ar := [xI (xwr ((4) * (x4))), xR_ (v157), xI (v153), xZ (v147), xI (xwr ((4) * (x3))), xR_ (v141), xI (v137), xZ (v131)]) (rest := []) (r2 := xr_195) (by decide +kernel) (by decide +kernel) (by decide +kernel) xr_195_e rfl (by decide) ?_
      refine xc_i (k195 (d := d + 0)  (xq_al_in e132) (xq_ai_in e138) (xin_wr _) (xq_al_in e148) (xq_ai_in e154) (xin_wr _) e159) rfl (fun hi161 => ?_)
      refine xW_lv rfl (l := [(0, xR_ (x0)), (1, xR_ (x1)), (2, xI (x2)), (3, xI (x3)), (4, xI (x4))]) (xsb_of ⟨rfl, rfl, rfl, rfl, rfl, trivial⟩ (show [0, 1, 2, 3, 4].Nodup by decide)) ?_
      exact k306_149  hr2 hr33 hx2 hx3 hx4 hi161 h
    · rw [if_neg c126] at h
      refine xe_iconst (n := -1) (by decide +kernel) rfl ?_
      refine xe_goto (off := 65) (nx := 149) (by decide +kernel) (by decide) ?_
      refine xW_lv rfl (l := [(0, xR_ (x0)), (1, xR_ (x1)), (2, xI (x2)), (3, xI (x3)), (4, xI (x4))]) (xsb_of ⟨rfl, rfl, rfl, rfl, rfl, trivial⟩ (show [0, 1, 2, 3, 4].Nodup by decide)) ?_
      exact k306_149  hr2 hr33 hx2 hx3 hx4 (show xin (-1) by decide) h
  · rw [if_neg c121] at h
    refine xe_iconst (n := 1) (by decide +kernel) rfl ?_
    refine xe_goto (off := 81) (nx := 149) (by decide +kernel) (by decide) ?_
    refine xW_lv rfl (l := [(0, xR_ (x0)), (1, xR_ (x1)), (2, xI (x2)), (3, xI (x3)), (4, xI (x4))]) (xsb_of ⟨rfl, rfl, rfl, rfl, rfl, trivial⟩ (show [0, 1, 2, 3, 4].Nodup by decide)) ?_
    exact k306_149  hr2 hr33 hx2 hx3 hx4 (show xin (1) by decide) h
def f306_33b  (r2 : Nat → Nat → Int → xj_M → Option (xj_M)) (r33 : Nat → Nat → Int → Int → Int → xj_M → Option (xj_M)) (f : Nat) (x0 : Nat) (x1 : Nat) (x2 : Int) (x3 : Int) (x4 : Int) (M : xj_M) : Option (xj_M) := ((xq_gr 15 76 (x0) M).bind fun v162 => ((xq_gi 12 3 (v162) M).bind fun v164 => (if (x3) < (v164) then f306_56  r2 r33 f (x0) (x1) (x2) (x3) (x4) M else ((xq_gr 15 77 (x0) M).bind fun v167 => ((xq_gi 12 3 (v167) M).bind fun v169 => (if (v169) ≤ (x4) then f306_217  r2 f (x0) (x1) (x2) M else f306_56  r2 r33 f (x0) (x1) (x2) (x3) (x4) M))))))
theorem k306_33b {d f : Nat}  {r2 : Nat → Nat → Int → xj_M → Option (xj_M)} {r33 : Nat → Nat → Int → Int → Int → xj_M → Option (xj_M)}  (hr2 : ∀ {x0 : Nat} {x1 : Nat} {x2 : Int} {M : xj_M} {R : xj_M}, xin x2 → r2 x0 x1 x2 M = some R → xW (d + 1) (none, d + 1, none) xr_306 (2, [(0, xR_ x0), (1, xR_ x1), (2, xI x2)], [], M) (xQv R)) (hr33 : ∀ {x0 : Nat} {x1 : Nat} {x2 : Int} {x3 : Int} {x4 : Int} {M : xj_M} {R : xj_M}, xin x2 → xin x3 → xin x4 → r33 x0 x1 x2 x3 x4 M = some R → xW (d + 1) (none, d + 1, none) xr_306 (33, [(0, xR_ x0), (1, xR_ x1), (2, xI x2), (3, xI x3), (4, xI x4)], [], M) (xQv R)) {x0 : Nat} {x1 : Nat} {x2 : Int} {x3 : Int} {x4 : Int} {M : xj_M} {R : xj_M} (hx2 : xin x2) (hx3 : xin x3) (hx4 : xin x4) (h : f306_33b  r2 r33 f x0 x1 x2 x3 x4 M = some R) : xW (d + 1) (none, d + 1, none) xr_306 (33, [(0, xR_ x0), (1, xR_ x1), (2, xI x2), (3, xI x3), (4, xI x4)], [], M) (xQv R) := by
  unfold f306_33b at h
  refine xe_ldn (ins := .iload_n 3) (len := 1) (by decide +kernel) rfl rfl rfl rfl ?_
  refine xe_alr (ins := .aload_n 0) (len := 1) (i := 0) (by decide +kernel) rfl rfl rfl rfl rfl ?_
  obtain ⟨v162, e163, h⟩ := xbnd h
  refine xs_gr (i := 705) (c := 15) (k := 76) (by decide +kernel) (by decide) (by decide +kernel) e163 rfl ?_
  obtain ⟨v164, e165, h⟩ := xbnd h
  refine xs_gi (i := 690) (c := 12) (k := 3) (by decide +kernel) (by decide) (by decide +kernel) e165 rfl ?_
  refine xe_icmplt (off := 15) (t := 56) (by decide +kernel) (by decide) rfl hx3 (xq_gi_in e165) (fun c166 => ?_) (fun c166 => ?_)
  · rw [if_pos c166] at h
    refine xW_lv rfl (l := [(0, xR_ (x0)), (1, xR_ (x1)), (2, xI (x2)), (3, xI (x3)), (4, xI (x4))]) (xsb_of ⟨rfl, rfl, rfl, rfl, rfl, trivial⟩ (show [0, 1, 2, 3, 4].Nodup by decide)) ?_
    exact k306_56  hr2 hr33 hx2 hx3 hx4 h
  · rw [if_neg c166] at h
    refine xe_ldn (ins := .iload 4) (len := 2) (by decide +kernel) rfl rfl rfl rfl ?_
    refine xe_alr (ins := .aload_n 0) (len := 1) (i := 0) (by decide +kernel) rfl rfl rfl rfl rfl ?_
    obtain ⟨v167, e168, h⟩ := xbnd h
    refine xs_gr (i := 728) (c := 15) (k := 77) (by decide +kernel) (by decide) (by decide +kernel) e168 rfl ?_
    obtain ⟨v169, e170, h⟩ := xbnd h
    refine xs_gi (i := 690) (c := 12) (k := 3) (by decide +kernel) (by decide) (by decide +kernel) e170 rfl ?_
    refine xe_icmpge (off := 164) (t := 217) (by decide +kernel) (by decide) rfl hx4 (xq_gi_in e170) (fun c171 => ?_) (fun c171 => ?_)
    · rw [if_pos c171] at h
      refine xW_lv rfl (l := [(0, xR_ (x0)), (1, xR_ (x1)), (2, xI (x2))]) (xsb_of ⟨rfl, rfl, rfl, trivial⟩ (show [0, 1, 2, 3, 4].Nodup by decide)) ?_
      exact k306_217  hr2 hx2 h
    · rw [if_neg c171] at h
      refine xW_lv rfl (l := [(0, xR_ (x0)), (1, xR_ (x1)), (2, xI (x2)), (3, xI (x3)), (4, xI (x4))]) (xsb_of ⟨rfl, rfl, rfl, rfl, rfl, trivial⟩ (show [0, 1, 2, 3, 4].Nodup by decide)) ?_
      exact k306_56  hr2 hr33 hx2 hx3 hx4 h
def f306_33  (r2 : Nat → Nat → Int → xj_M → Option (xj_M)) (f : Nat) : Nat → Nat → Nat → Int → Int → Int → xj_M → Option (xj_M)
  | 0, _, _, _, _, _, _ => none
  | n + 1, x0, x1, x2, x3, x4, M => f306_33b  r2 (f306_33  r2 f n) f x0 x1 x2 x3 x4 M
theorem k306_33 {d f : Nat}  {r2 : Nat → Nat → Int → xj_M → Option (xj_M)}  (hr2 : ∀ {x0 : Nat} {x1 : Nat} {x2 : Int} {M : xj_M} {R : xj_M}, xin x2 → r2 x0 x1 x2 M = some R → xW (d + 1) (none, d + 1, none) xr_306 (2, [(0, xR_ x0), (1, xR_ x1), (2, xI x2)], [], M) (xQv R)) : ∀ {n : Nat} {x0 : Nat} {x1 : Nat} {x2 : Int} {x3 : Int} {x4 : Int} {M : xj_M} {R : xj_M}, xin x2 → xin x3 → xin x4 → f306_33  r2 f n x0 x1 x2 x3 x4 M = some R → xW (d + 1) (none, d + 1, none) xr_306 (33, [(0, xR_ x0), (1, xR_ x1), (2, xI x2), (3, xI x3), (4, xI x4)], [], M) (xQv R) := by
  intro n
  induction n with
  | zero => intros; rename_i h; cases h
  | succ n ih => intros; rename_i h; exact k306_33b  hr2 ih (by assumption) (by assumption) (by assumption) h
def f306_2b  (r2 : Nat → Nat → Int → xj_M → Option (xj_M)) (f : Nat) (x0 : Nat) (x1 : Nat) (x2 : Int) (M : xj_M) : Option (xj_M) := ((xq_gr 15 29 (x0) M).bind fun v172 => ((xq_gi 14 8 (v172) M).bind fun v174 => (if (v174) ≤ (x2) then (some M) else ((xq_gr 15 29 (x0) M).bind fun v177 => ((xq_gr 14 6 (v177) M).bind fun v179 => ((xq_ab (v179) (x2) M).bind fun v181 => (if ¬ (v181) = 0 then f306_33  r2 f f (x0) (x1) (x2) (0) (0) M else f306_217  r2 f (x0) (x1) (x2) M)))))))
theorem k306_2b {d f : Nat}  {r2 : Nat → Nat → Int → xj_M → Option (xj_M)}  (hr2 : ∀ {x0 : Nat} {x1 : Nat} {x2 : Int} {M : xj_M} {R : xj_M}, xin x2 → r2 x0 x1 x2 M = some R → xW (d + 1) (none, d + 1, none) xr_306 (2, [(0, xR_ x0), (1, xR_ x1), (2, xI x2)], [], M) (xQv R)) {x0 : Nat} {x1 : Nat} {x2 : Int} {M : xj_M} {R : xj_M} (hx2 : xin x2) (h : f306_2b  r2 f x0 x1 x2 M = some R) : xW (d + 1) (none, d + 1, none) xr_306 (2, [(0, xR_ x0), (1, xR_ x1), (2, xI x2)], [], M) (xQv R) := by
  unfold f306_2b at h
  refine xe_ldn (ins := .iload_n 2) (len := 1) (by decide +kernel) rfl rfl rfl rfl ?_
  refine xe_alr (ins := .aload_n 0) (len := 1) (i := 0) (by decide +kernel) rfl rfl rfl rfl rfl ?_
  obtain ⟨v172, e173, h⟩ := xbnd h
  refine xs_gr (i := 439) (c := 15) (k := 29) (by decide +kernel) (by decide) (by decide +kernel) e173 rfl ?_
  obtain ⟨v174, e175, h⟩ := xbnd h
  refine xs_gi (i := 166) (c := 14) (k := 8) (by decide +kernel) (by decide) (by decide +kernel) e175 rfl ?_
  refine xe_icmpge (off := 213) (t := 223) (by decide +kernel) (by decide) rfl hx2 (xq_gi_in e175) (fun c176 => ?_) (fun c176 => ?_)
  · rw [if_pos c176] at h
    cases h
    exact xe_ret_v (by decide +kernel) rfl ⟨rfl, rfl⟩
  · rw [if_neg c176] at h
    refine xe_alr (ins := .aload_n 0) (len := 1) (i := 0) (by decide +kernel) rfl rfl rfl rfl rfl ?_
    obtain ⟨v177, e178, h⟩ := xbnd h
    refine xs_gr (i := 439) (c := 15) (k := 29) (by decide +kernel) (by decide) (by decide +kernel) e178 rfl ?_
    obtain ⟨v179, e180, h⟩ := xbnd h
    refine xs_gr (i := 191) (c := 14) (k := 6) (by decide +kernel) (by decide) (by decide +kernel) e180 rfl ?_
    refine xe_ldn (ins := .iload_n 2) (len := 1) (by decide +kernel) rfl rfl rfl rfl ?_
    obtain ⟨v181, e182, h⟩ := xbnd h
    refine xs_bald (by decide +kernel) hx2 e182 rfl ?_
    refine xe_ifne (off := 6) (t := 28) (by decide +kernel) (by decide) rfl (xq_ab_in e182) (fun c183 => ?_) (fun c183 => ?_)
    · rw [if_pos c183] at h
      refine xe_iconst (n := 0) (by decide +kernel) rfl ?_
      refine xe_isr (ins := .istore_n 3) (len := 1) (i := 3) (by decide +kernel) rfl rfl rfl (by decide) (xk_k (show ¬ (0 : Nat) = 3 by decide) (Or.inl (show ¬ (0 + 1 : Nat) = 3 by decide)) (xk_k (show ¬ (1 : Nat) = 3 by decide) (Or.inl (show ¬ (1 + 1 : Nat) = 3 by decide)) (xk_k (show ¬ (2 : Nat) = 3 by decide) (Or.inr (xI_cat _)) xk_n))) rfl ?_
      refine xe_iconst (n := 0) (by decide +kernel) rfl ?_
      refine xe_isr (ins := .istore 4) (len := 2) (i := 4) (by decide +kernel) rfl rfl rfl (by decide) (xk_k (show ¬ (3 : Nat) = 4 by decide) (Or.inr (xI_cat _)) (xk_k (show ¬ (0 : Nat) = 4 by decide) (Or.inl (show ¬ (0 + 1 : Nat) = 4 by decide)) (xk_k (show ¬ (1 : Nat) = 4 by decide) (Or.inl (show ¬ (1 + 1 : Nat) = 4 by decide)) (xk_k (show ¬ (2 : Nat) = 4 by decide) (Or.inl (show ¬ (2 + 1 : Nat) = 4 by decide)) xk_n)))) rfl ?_
      refine xW_lv rfl (l := [(0, xR_ (x0)), (1, xR_ (x1)), (2, xI (x2)), (3, xI (0)), (4, xI (0))]) (xsb_of ⟨rfl, rfl, rfl, rfl, rfl, trivial⟩ (show [4, 3, 0, 1, 2].Nodup by decide)) ?_
      exact k306_33  hr2 hx2 (show xin (0) by decide) (show xin (0) by decide) h
    · rw [if_neg c183] at h
      refine xe_goto (off := 192) (nx := 217) (by decide +kernel) (by decide) ?_
      refine xW_lv rfl (l := [(0, xR_ (x0)), (1, xR_ (x1)), (2, xI (x2))]) (xsb_of ⟨rfl, rfl, rfl, trivial⟩ (show [0, 1, 2].Nodup by decide)) ?_
      exact k306_217  hr2 hx2 h
def f306_2   (f : Nat) : Nat → Nat → Nat → Int → xj_M → Option (xj_M)
  | 0, _, _, _, _ => none
  | n + 1, x0, x1, x2, M => f306_2b   (f306_2   f n) f x0 x1 x2 M
theorem k306_2 {d f : Nat}     : ∀ {n : Nat} {x0 : Nat} {x1 : Nat} {x2 : Int} {M : xj_M} {R : xj_M}, xin x2 → f306_2   f n x0 x1 x2 M = some R → xW (d + 1) (none, d + 1, none) xr_306 (2, [(0, xR_ x0), (1, xR_ x1), (2, xI x2)], [], M) (xQv R) := by
  intro n
  induction n with
  | zero => intros; rename_i h; cases h
  | succ n ih => intros; rename_i h; exact k306_2b   ih (by assumption) h
def f306  (f : Nat) (a0 : Nat) (a1 : Nat) (M : xj_M) : Option (xj_M) := f306_2   f f (a0) (a1) (0) M
theorem k306 {d f : Nat}   {a0 : Nat} {a1 : Nat} {M : xj_M} {R : xj_M}  (h : f306  f a0 a1 M = some R) : xT (d + 2) 306 [xR_ a0, xR_ a1] M (xQv R) := by
  refine xT_m xr_306_e (X := (none, d + 1, none)) rfl (xa_1 (xR_cat _) (xa_1 (xR_cat _) xa_n)) (by decide) ?_
  unfold f306 at h
  refine xe_iconst (n := 0) (by decide +kernel) rfl ?_
  refine xe_isr (ins := .istore_n 2) (len := 1) (i := 2) (by decide +kernel) rfl rfl rfl (by decide) (xk_k (show ¬ (0 : Nat) = 2 by decide) (Or.inl (show ¬ (0 + 1 : Nat) = 2 by decide)) (xk_k (show ¬ (1 : Nat) = 2 by decide) (Or.inr (xR_cat _)) xk_n)) rfl ?_
  refine xW_lv rfl (l := [(0, xR_ (a0)), (1, xR_ (a1)), (2, xI (0))]) (xsb_of ⟨rfl, rfl, rfl, trivial⟩ (show [2, 0, 1].Nodup by decide)) ?_
  exact k306_2   (show xin (0) by decide) h
-- ChangeHouseModel.trim
def xr_308 : xj_mR := (15, yX15_trim, cX15_trim, 5, (Option.none : Option Jvm.ClassFile.FieldType), 1, false, (10, 170), (1, 12))
set_option maxRecDepth 20000 in
theorem xr_308_e : xj_row 308 = some xr_308 := rfl
def f308_61  (r0 : Nat → xj_M → Option (xj_M)) (f : Nat) (x1 : Nat) (M : xj_M) : Option (xj_M) := ((xq_gi 13 3 (x1) M).bind fun v101 => ((xq_pi 13 3 (x1) (xwr ((v101) + (1))) M).bind fun M103 => r0 (x1) M103))
theorem k308_61 {d f : Nat}  {r0 : Nat → xj_M → Option (xj_M)}  (hr0 : ∀ {x1 : Nat} {M : xj_M} {R : xj_M}, r0 x1 M = some R → xW (d + 1) (none, d + 1, none) xr_308 (0, [(1, xR_ x1)], [], M) (xQv R)) {x1 : Nat} {M : xj_M} {R : xj_M}  (h : f308_61  r0 f x1 M = some R) : xW (d + 1) (none, d + 1, none) xr_308 (61, [(1, xR_ x1)], [], M) (xQv R) := by
  unfold f308_61 at h
  refine xe_alr (ins := .aload_n 1) (len := 1) (i := 1) (by decide +kernel) rfl rfl rfl rfl rfl ?_
  refine xe_dupr (by decide +kernel) rfl ?_
  obtain ⟨v101, e102, h⟩ := xbnd h
  refine xs_gi (i := 837) (c := 13) (k := 3) (by decide +kernel) (by decide) (by decide +kernel) e102 rfl ?_
  refine xe_iconst (n := 1) (by decide +kernel) rfl ?_
  refine xe_iadd (by decide +kernel) rfl ?_
  obtain ⟨M103, e104, h⟩ := xbnd h
  refine xs_p (i := 837) (c := 13) (k := 3) (by decide +kernel) (by decide +kernel) (by decide +kernel) e104 rfl ?_
  refine xe_goto (off := -71) (nx := 0) (by decide +kernel) (by decide) ?_
  refine xW_lv rfl (l := [(1, xR_ (x1))]) (xsb_of ⟨rfl, trivial⟩ (show [1].Nodup by decide)) ?_
  exact hr0  h
def f308_174b  (r107 : Nat → Int → Int → xj_M → Option (xj_M)) (r174 : Nat → Int → Int → Int → xj_M → Option (xj_M)) (f : Nat) (x1 : Nat) (x2 : Int) (x3 : Int) (x4 : Int) (M : xj_M) : Option (xj_M) := (if (4) ≤ (x4) then r107 (x1) (x2) (xwr ((x3) + (1))) M else ((xq_gr 13 9 (x1) M).bind fun v106 => ((xq_gr 13 9 (x1) M).bind fun v108 => ((xq_al (v108) (xwr ((xwr ((4) * (xwr ((x3) + (x2))))) + (x4))) M).bind fun v110 => ((xq_sl (v106) (xwr ((xwr ((4) * (x3))) + (x4))) (v110) M).bind fun M112 => r174 (x1) (x2) (x3) (xwr ((x4) + (1))) M112)))))
theorem k308_174b {d f : Nat}  {r107 : Nat → Int → Int → xj_M → Option (xj_M)} {r174 : Nat → Int → Int → Int → xj_M → Option (xj_M)}  (hr107 : ∀ {x1 : Nat} {x2 : Int} {x3 : Int} {M : xj_M} {R : xj_M}, xin x2 → xin x3 → r107 x1 x2 x3 M = some R → xW (d + 1) (none, d + 1, none) xr_308 (107, [(1, xR_ x1), (2, xI x2), (3, xI x3)], [], M) (xQv R)) (hr174 : ∀ {x1 : Nat} {x2 : Int} {x3 : Int} {x4 : Int} {M : xj_M} {R : xj_M}, xin x2 → xin x3 → xin x4 → r174 x1 x2 x3 x4 M = some R → xW (d + 1) (none, d + 1, none) xr_308 (174, [(1, xR_ x1), (2, xI x2), (3, xI x3), (4, xI x4)], [], M) (xQv R)) {x1 : Nat} {x2 : Int} {x3 : Int} {x4 : Int} {M : xj_M} {R : xj_M} (hx2 : xin x2) (hx3 : xin x3) (hx4 : xin x4) (h : f308_174b  r107 r174 f x1 x2 x3 x4 M = some R) : xW (d + 1) (none, d + 1, none) xr_308 (174, [(1, xR_ x1), (2, xI x2), (3, xI x3), (4, xI x4)], [], M) (xQv R) := by
  unfold f308_174b at h
  refine xe_ldn (ins := .iload 4) (len := 2) (by decide +kernel) rfl rfl rfl rfl ?_
  refine xe_iconst (n := 4) (by decide +kernel) rfl ?_
  refine xe_icmpge (off := 33) (t := 210) (by decide +kernel) (by decide) rfl hx4 (show xin (4) by decide) (fun c105 => ?_) (fun c105 => ?_)
  · rw [if_pos c105] at h
    refine xe_iincr (i := 3) (n := 1) (by decide +kernel) (by decide) rfl (xk_k (show ¬ (1 : Nat) = 3 by decide) (Or.inl (show ¬ (1 + 1 : Nat) = 3 by decide)) (xk_k (show ¬ (2 : Nat) = 3 by decide) (Or.inr (xI_cat _)) (xk_d rfl (xk_k (show ¬ (4 : Nat) = 3 by decide) (Or.inl (show ¬ (4 + 1 : Nat) = 3 by decide)) xk_n)))) rfl ?_
    refine xe_goto (off := -106) (nx := 107) (by decide +kernel) (by decide) ?_
    refine xW_lv rfl (l := [(1, xR_ (x1)), (2, xI (x2)), (3, xI (xwr ((x3) + (1))))]) (xsb_of ⟨rfl, rfl, rfl, trivial⟩ (show [3, 1, 2, 4].Nodup by decide)) ?_
    exact hr107 hx2 (xin_wr _) h
  · rw [if_neg c105] at h
    refine xe_alr (ins := .aload_n 1) (len := 1) (i := 1) (by decide +kernel) rfl rfl rfl rfl rfl ?_
    obtain ⟨v106, e107, h⟩ := xbnd h
    refine xs_gr (i := 803) (c := 13) (k := 9) (by decide +kernel) (by decide) (by decide +kernel) e107 rfl ?_
    refine xe_iconst (n := 4) (by decide +kernel) rfl ?_
    refine xe_ldn (ins := .iload_n 3) (len := 1) (by decide +kernel) rfl rfl rfl rfl ?_
    refine xe_imul (by decide +kernel) rfl ?_
    refine xe_ldn (ins := .iload 4) (len := 2) (by decide +kernel) rfl rfl rfl rfl ?_
    refine xe_iadd (by decide +kernel) rfl ?_
    refine xe_alr (ins := .aload_n 1) (len := 1) (i := 1) (by decide +kernel) rfl rfl rfl rfl rfl ?_
    obtain ⟨v108, e109, h⟩ := xbnd h
    refine xs_gr (i := 803) (c := 13) (k := 9) (by decide +kernel) (by decide) (by decide +kernel) e109 rfl ?_
    refine xe_iconst (n := 4) (by decide +kernel) rfl ?_
    refine xe_ldn (ins := .iload_n 3) (len := 1) (by decide +kernel) rfl rfl rfl rfl ?_
    refine xe_ldn (ins := .iload_n 2) (len := 1) (by decide +kernel) rfl rfl rfl rfl ?_
    refine xe_iadd (by decide +kernel) rfl ?_
    refine xe_imul (by decide +kernel) rfl ?_
    refine xe_ldn (ins := .iload 4) (len := 2) (by decide +kernel) rfl rfl rfl rfl ?_
    refine xe_iadd (by decide +kernel) rfl ?_
    obtain ⟨v110, e111, h⟩ := xbnd h
    refine xs_lald (by decide +kernel) (xin_wr _) e111 rfl ?_
    obtain ⟨M112, e113, h⟩ := xbnd h
    refine xs_last (by decide +kernel) (xin_wr _) e113 rfl ?_
    refine xe_iincr (i := 4) (n := 1) (by decide +kernel) (by decide) rfl (xk_k (show ¬ (1 : Nat) = 4 by decide) (Or.inl (show ¬ (1 + 1 : Nat) = 4 by decide)) (xk_k (show ¬ (2 : Nat) = 4 by decide) (Or.inl (show ¬ (2 + 1 : Nat) = 4 by decide)) (xk_k (show ¬ (3 : Nat) = 4 by decide) (Or.inr (xI_cat _)) (xk_d rfl xk_n)))) rfl ?_
    refine xe_goto (off := -33) (nx := 174) (by decide +kernel) (by decide) ?_
    refine xW_lv rfl (l := [(1, xR_ (x1)), (2, xI (x2)), (3, xI (x3)), (4, xI (xwr ((x4) + (1))))]) (xsb_of ⟨rfl, rfl, rfl, rfl, trivial⟩ (show [4, 1, 2, 3].Nodup by decide)) ?_
    exact hr174 hx2 hx3 (xin_wr _) h
def f308_174  (r107 : Nat → Int → Int → xj_M → Option (xj_M)) (f : Nat) : Nat → Nat → Int → Int → Int → xj_M → Option (xj_M)
  | 0, _, _, _, _, _ => none
  | n + 1, x1, x2, x3, x4, M => f308_174b  r107 (f308_174  r107 f n) f x1 x2 x3 x4 M
theorem k308_174 {d f : Nat}  {r107 : Nat → Int → Int → xj_M → Option (xj_M)}  (hr107 : ∀ {x1 : Nat} {x2 : Int} {x3 : Int} {M : xj_M} {R : xj_M}, xin x2 → xin x3 → r107 x1 x2 x3 M = some R → xW (d + 1) (none, d + 1, none) xr_308 (107, [(1, xR_ x1), (2, xI x2), (3, xI x3)], [], M) (xQv R)) : ∀ {n : Nat} {x1 : Nat} {x2 : Int} {x3 : Int} {x4 : Int} {M : xj_M} {R : xj_M}, xin x2 → xin x3 → xin x4 → f308_174  r107 f n x1 x2 x3 x4 M = some R → xW (d + 1) (none, d + 1, none) xr_308 (174, [(1, xR_ x1), (2, xI x2), (3, xI x3), (4, xI x4)], [], M) (xQv R) := by
  intro n
  induction n with
  | zero => intros; rename_i h; cases h
  | succ n ih => intros; rename_i h; exact k308_174b  hr107 ih (by assumption) (by assumption) (by assumption) h
def f308_338b  (r338 : Nat → Int → Int → xj_M → Option (xj_M)) (f : Nat) (x1 : Nat) (x2 : Int) (x3 : Int) (M : xj_M) : Option (xj_M) := ((xq_gi 13 17 (x1) M).bind fun v114 => (if (v114) ≤ (x3) then (some M) else ((xq_gr 13 14 (x1) M).bind fun v117 => ((xq_gr 13 14 (x1) M).bind fun v119 => ((xq_ai 3 (v119) (xwr ((x3) + (x2))) M).bind fun v121 => ((xq_si (v117) (x3) (v121) M).bind fun M123 => ((xq_gr 13 15 (x1) M123).bind fun v125 => ((xq_gr 13 15 (x1) M123).bind fun v127 => ((xq_ai 3 (v127) (xwr ((x3) + (x2))) M123).bind fun v129 => ((xq_si (v125) (x3) (v129) M123).bind fun M131 => r338 (x1) (x2) (xwr ((x3) + (1))) M131))))))))))
theorem k308_338b {d f : Nat}  {r338 : Nat → Int → Int → xj_M → Option (xj_M)}  (hr338 : ∀ {x1 : Nat} {x2 : Int} {x3 : Int} {M : xj_M} {R : xj_M}, xin x2 → xin x3 → r338 x1 x2 x3 M = some R → xW (d + 1) (none, d + 1, none) xr_308 (338, [(1, xR_ x1), (2, xI x2), (3, xI x3)], [], M) (xQv R)) {x1 : Nat} {x2 : Int} {x3 : Int} {M : xj_M} {R : xj_M} (hx2 : xin x2) (hx3 : xin x3) (h : f308_338b  r338 f x1 x2 x3 M = some R) : xW (d + 1) (none, d + 1, none) xr_308 (338, [(1, xR_ x1), (2, xI x2), (3, xI x3)], [], M) (xQv R) := by
  unfold f308_338b at h
  refine xe_ldn (ins := .iload_n 3) (len := 1) (by decide +kernel) rfl rfl rfl rfl ?_
  refine xe_alr (ins := .aload_n 1) (len := 1) (i := 1) (by decide +kernel) rfl rfl rfl rfl rfl ?_
  obtain ⟨v114, e115, h⟩ := xbnd h
  refine xs_gi (i := 737) (c := 13) (k := 17) (by decide +kernel) (by decide) (by decide +kernel) e115 rfl ?_
  refine xe_icmpge (off := 37) (t := 380) (by decide +kernel) (by decide) rfl hx3 (xq_gi_in e115) (fun c116 => ?_) (fun c116 => ?_)
  · rw [if_pos c116] at h
    cases h
    exact xe_ret_v (by decide +kernel) rfl ⟨rfl, rfl⟩
  · rw [if_neg c116] at h
    refine xe_alr (ins := .aload_n 1) (len := 1) (i := 1) (by decide +kernel) rfl rfl rfl rfl rfl ?_
    obtain ⟨v117, e118, h⟩ := xbnd h
    refine xs_gr (i := 734) (c := 13) (k := 14) (by decide +kernel) (by decide) (by decide +kernel) e118 rfl ?_
    refine xe_ldn (ins := .iload_n 3) (len := 1) (by decide +kernel) rfl rfl rfl rfl ?_
    refine xe_alr (ins := .aload_n 1) (len := 1) (i := 1) (by decide +kernel) rfl rfl rfl rfl rfl ?_
    obtain ⟨v119, e120, h⟩ := xbnd h
    refine xs_gr (i := 734) (c := 13) (k := 14) (by decide +kernel) (by decide) (by decide +kernel) e120 rfl ?_
    refine xe_ldn (ins := .iload_n 3) (len := 1) (by decide +kernel) rfl rfl rfl rfl ?_
    refine xe_ldn (ins := .iload_n 2) (len := 1) (by decide +kernel) rfl rfl rfl rfl ?_
    refine xe_iadd (by decide +kernel) rfl ?_
    obtain ⟨v121, e122, h⟩ := xbnd h
    refine xs_iald rfl (by decide +kernel) (xin_wr _) e122 rfl ?_
    obtain ⟨M123, e124, h⟩ := xbnd h
    refine xs_iast (by decide +kernel) hx3 e124 rfl ?_
    refine xe_alr (ins := .aload_n 1) (len := 1) (i := 1) (by decide +kernel) rfl rfl rfl rfl rfl ?_
    obtain ⟨v125, e126, h⟩ := xbnd h
    refine xs_gr (i := 743) (c := 13) (k := 15) (by decide +kernel) (by decide) (by decide +kernel) e126 rfl ?_
    refine xe_ldn (ins := .iload_n 3) (len := 1) (by decide +kernel) rfl rfl rfl rfl ?_
    refine xe_alr (ins := .aload_n 1) (len := 1) (i := 1) (by decide +kernel) rfl rfl rfl rfl rfl ?_
    obtain ⟨v127, e128, h⟩ := xbnd h
    refine xs_gr (i := 743) (c := 13) (k := 15) (by decide +kernel) (by decide) (by decide +kernel) e128 rfl ?_
    refine xe_ldn (ins := .iload_n 3) (len := 1) (by decide +kernel) rfl rfl rfl rfl ?_
    refine xe_ldn (ins := .iload_n 2) (len := 1) (by decide +kernel) rfl rfl rfl rfl ?_
    refine xe_iadd (by decide +kernel) rfl ?_
    obtain ⟨v129, e130, h⟩ := xbnd h
    refine xs_iald rfl (by decide +kernel) (xin_wr _) e130 rfl ?_
    obtain ⟨M131, e132, h⟩ := xbnd h
    refine xs_iast (by decide +kernel) hx3 e132 rfl ?_
    refine xe_iincr (i := 3) (n := 1) (by decide +kernel) (by decide) rfl (xk_k (show ¬ (1 : Nat) = 3 by decide) (Or.inl (show ¬ (1 + 1 : Nat) = 3 by decide)) (xk_k (show ¬ (2 : Nat) = 3 by decide) (Or.inr (xI_cat _)) (xk_d rfl xk_n))) rfl ?_
    refine xe_goto (off := -39) (nx := 338) (by decide +kernel) (by decide) ?_
    refine xW_lv rfl (l := [(1, xR_ (x1)), (2, xI (x2)), (3, xI (xwr ((x3) + (1))))]) (xsb_of ⟨rfl, rfl, rfl, trivial⟩ (show [3, 1, 2].Nodup by decide)) ?_
    exact hr338 hx2 (xin_wr _) h
def f308_338   (f : Nat) : Nat → Nat → Int → Int → xj_M → Option (xj_M)
  | 0, _, _, _, _ => none
  | n + 1, x1, x2, x3, M => f308_338b   (f308_338   f n) f x1 x2 x3 M
theorem k308_338 {d f : Nat}     : ∀ {n : Nat} {x1 : Nat} {x2 : Int} {x3 : Int} {M : xj_M} {R : xj_M}, xin x2 → xin x3 → f308_338   f n x1 x2 x3 M = some R → xW (d + 1) (none, d + 1, none) xr_308 (338, [(1, xR_ x1), (2, xI x2), (3, xI x3)], [], M) (xQv R) := by
  intro n
  induction n with
  | zero => intros; rename_i h; cases h
  | succ n ih => intros; rename_i h; exact k308_338b   ih (by assumption) (by assumption) h
def f308_249b  (r249 : Nat → Int → Int → xj_M → Option (xj_M)) (f : Nat) (x1 : Nat) (x2 : Int) (x3 : Int) (M : xj_M) : Option (xj_M) := ((xq_gi 13 16 (x1) M).bind fun v133 => (if (v133) ≤ (x3) then ((xq_gi 13 17 (x1) M).bind fun v136 => ((xq_gr 13 14 (x1) M).bind fun v138 => ((xq_gi 13 17 (x1) M).bind fun v140 => ((xq_gi 13 3 (x1) M).bind fun v142 => ((f309  f (v138) (v140) (v142) M).bind fun R145 => ((xq_gi 13 17 (x1) R145.2).bind fun v147 => ((xq_pi 13 17 (x1) (xwr ((v147) - (xwr ((v136) - (R145.1))))) R145.2).bind fun M149 => f308_338   f f (x1) (xwr ((v136) - (R145.1))) (0) M149))))))) else ((xq_gr 13 11 (x1) M).bind fun v151 => ((xq_gr 13 11 (x1) M).bind fun v153 => ((xq_ai 3 (v153) (xwr ((x3) + (x2))) M).bind fun v155 => ((xq_si (v151) (x3) (v155) M).bind fun M157 => ((xq_gr 13 12 (x1) M157).bind fun v159 => ((xq_gr 13 12 (x1) M157).bind fun v161 => ((xq_ai 3 (v161) (xwr ((x3) + (x2))) M157).bind fun v163 => ((xq_si (v159) (x3) (v163) M157).bind fun M165 => ((xq_gr 13 13 (x1) M165).bind fun v167 => ((xq_gr 13 13 (x1) M165).bind fun v169 => ((xq_ai 3 (v169) (xwr ((x3) + (x2))) M165).bind fun v171 => ((xq_si (v167) (x3) (v171) M165).bind fun M173 => r249 (x1) (x2) (xwr ((x3) + (1))) M173))))))))))))))
theorem k308_249b {d f : Nat}  {r249 : Nat → Int → Int → xj_M → Option (xj_M)}  (hr249 : ∀ {x1 : Nat} {x2 : Int} {x3 : Int} {M : xj_M} {R : xj_M}, xin x2 → xin x3 → r249 x1 x2 x3 M = some R → xW (d + 1) (none, d + 1, none) xr_308 (249, [(1, xR_ x1), (2, xI x2), (3, xI x3)], [], M) (xQv R)) {x1 : Nat} {x2 : Int} {x3 : Int} {M : xj_M} {R : xj_M} (hx2 : xin x2) (hx3 : xin x3) (h : f308_249b  r249 f x1 x2 x3 M = some R) : xW (d + 1) (none, d + 1, none) xr_308 (249, [(1, xR_ x1), (2, xI x2), (3, xI x3)], [], M) (xQv R) := by
  unfold f308_249b at h
  refine xe_ldn (ins := .iload_n 3) (len := 1) (by decide +kernel) rfl rfl rfl rfl ?_
  refine xe_alr (ins := .aload_n 1) (len := 1) (i := 1) (by decide +kernel) rfl rfl rfl rfl rfl ?_
  obtain ⟨v133, e134, h⟩ := xbnd h
  refine xs_gi (i := 847) (c := 13) (k := 16) (by decide +kernel) (by decide) (by decide +kernel) e134 rfl ?_
  refine xe_icmpge (off := 51) (t := 305) (by decide +kernel) (by decide) rfl hx3 (xq_gi_in e134) (fun c135 => ?_) (fun c135 => ?_)
  · rw [if_pos c135] at h
    refine xe_alr (ins := .aload_n 1) (len := 1) (i := 1) (by decide +kernel) rfl rfl rfl rfl rfl ?_
    obtain ⟨v136, e137, h⟩ := xbnd h
    refine xs_gi (i := 737) (c := 13) (k := 17) (by decide +kernel) (by decide) (by decide +kernel) e137 rfl ?_
    refine xe_alr (ins := .aload_n 1) (len := 1) (i := 1) (by decide +kernel) rfl rfl rfl rfl rfl ?_
    obtain ⟨v138, e139, h⟩ := xbnd h
    refine xs_gr (i := 734) (c := 13) (k := 14) (by decide +kernel) (by decide) (by decide +kernel) e139 rfl ?_
    refine xe_alr (ins := .aload_n 1) (len := 1) (i := 1) (by decide +kernel) rfl rfl rfl rfl rfl ?_
    obtain ⟨v140, e141, h⟩ := xbnd h
    refine xs_gi (i := 737) (c := 13) (k := 17) (by decide +kernel) (by decide) (by decide +kernel) e141 rfl ?_
    refine xe_alr (ins := .aload_n 1) (len := 1) (i := 1) (by decide +kernel) rfl rfl rfl rfl rfl ?_
    obtain ⟨v142, e143, h⟩ := xbnd h
    refine xs_gi (i := 837) (c := 13) (k := 3) (by decide +kernel) (by decide) (by decide +kernel) e143 rfl ?_
    obtain ⟨R145, e144, h⟩ := xbnd h
    refine xs_cs (kd := 2) (by decide) (i := 840) (j := 309) (ar := [xI (v142), xI (v140), xR_ (v138)]) (rest := [xI (v136)]) (r2 := xr_309) (by decide +kernel) (by decide +kernel) (by decide +kernel) xr_309_e rfl (by simp only [List.map_cons, List.map_nil, List.sum_cons, List.sum_nil, xR_cat, xI_cat, xZ_cat]; decide) ?_
    refine xc_i (k309 (d := d + 0)  (xq_gi_in e141) (xq_gi_in e143) e144) rfl (fun hi146 => ?_)
    refine xe_isub (by decide +kernel) rfl ?_
    refine xe_isr (ins := .istore_n 2) (len := 1) (i := 2) (by decide +kernel) rfl rfl rfl (by decide) (xk_k (show ¬ (1 : Nat) = 2 by decide) (Or.inr (xR_cat _)) (xk_d rfl (xk_k (show ¬ (3 : Nat) = 2 by decide) (Or.inl (show ¬ (3 + 1 : Nat) = 2 by decide)) xk_n))) rfl ?_
    refine xe_alr (ins := .aload_n 1) (len := 1) (i := 1) (by decide +kernel) rfl rfl rfl rfl rfl ?_
    refine xe_dupr (by decide +kernel) rfl ?_
    obtain ⟨v147, e148, h⟩ := xbnd h
    refine xs_gi (i := 737) (c := 13) (k := 17) (by decide +kernel) (by decide) (by decide +kernel) e148 rfl ?_
    refine xe_ldn (ins := .iload_n 2) (len := 1) (by decide +kernel) rfl rfl rfl rfl ?_
    refine xe_isub (by decide +kernel) rfl ?_
    obtain ⟨M149, e150, h⟩ := xbnd h
    refine xs_p (i := 737) (c := 13) (k := 17) (by decide +kernel) (by decide +kernel) (by decide +kernel) e150 rfl ?_
    refine xe_iconst (n := 0) (by decide +kernel) rfl ?_
    refine xe_isr (ins := .istore_n 3) (len := 1) (i := 3) (by decide +kernel) rfl rfl rfl (by decide) (xk_k (show ¬ (2 : Nat) = 3 by decide) (Or.inr (xI_cat _)) (xk_k (show ¬ (1 : Nat) = 3 by decide) (Or.inl (show ¬ (1 + 1 : Nat) = 3 by decide)) (xk_d rfl xk_n))) rfl ?_
    refine xW_lv rfl (l := [(1, xR_ (x1)), (2, xI (xwr ((v136) - (R145.1)))), (3, xI (0))]) (xsb_of ⟨rfl, rfl, rfl, trivial⟩ (show [3, 2, 1].Nodup by decide)) ?_
    exact k308_338   (xin_wr _) (show xin (0) by decide) h
  · rw [if_neg c135] at h
    refine xe_alr (ins := .aload_n 1) (len := 1) (i := 1) (by decide +kernel) rfl rfl rfl rfl rfl ?_
    obtain ⟨v151, e152, h⟩ := xbnd h
    refine xs_gr (i := 844) (c := 13) (k := 11) (by decide +kernel) (by decide) (by decide +kernel) e152 rfl ?_
    refine xe_ldn (ins := .iload_n 3) (len := 1) (by decide +kernel) rfl rfl rfl rfl ?_
    refine xe_alr (ins := .aload_n 1) (len := 1) (i := 1) (by decide +kernel) rfl rfl rfl rfl rfl ?_
    obtain ⟨v153, e154, h⟩ := xbnd h
    refine xs_gr (i := 844) (c := 13) (k := 11) (by decide +kernel) (by decide) (by decide +kernel) e154 rfl ?_
    refine xe_ldn (ins := .iload_n 3) (len := 1) (by decide +kernel) rfl rfl rfl rfl ?_
    refine xe_ldn (ins := .iload_n 2) (len := 1) (by decide +kernel) rfl rfl rfl rfl ?_
    refine xe_iadd (by decide +kernel) rfl ?_
    obtain ⟨v155, e156, h⟩ := xbnd h
    refine xs_iald rfl (by decide +kernel) (xin_wr _) e156 rfl ?_
    obtain ⟨M157, e158, h⟩ := xbnd h
    refine xs_iast (by decide +kernel) hx3 e158 rfl ?_
    refine xe_alr (ins := .aload_n 1) (len := 1) (i := 1) (by decide +kernel) rfl rfl rfl rfl rfl ?_
    obtain ⟨v159, e160, h⟩ := xbnd h
    refine xs_gr (i := 850) (c := 13) (k := 12) (by decide +kernel) (by decide) (by decide +kernel) e160 rfl ?_
    refine xe_ldn (ins := .iload_n 3) (len := 1) (by decide +kernel) rfl rfl rfl rfl ?_
    refine xe_alr (ins := .aload_n 1) (len := 1) (i := 1) (by decide +kernel) rfl rfl rfl rfl rfl ?_
    obtain ⟨v161, e162, h⟩ := xbnd h
    refine xs_gr (i := 850) (c := 13) (k := 12) (by decide +kernel) (by decide) (by decide +kernel) e162 rfl ?_
    refine xe_ldn (ins := .iload_n 3) (len := 1) (by decide +kernel) rfl rfl rfl rfl ?_
    refine xe_ldn (ins := .iload_n 2) (len := 1) (by decide +kernel) rfl rfl rfl rfl ?_
    refine xe_iadd (by decide +kernel) rfl ?_
    obtain ⟨v163, e164, h⟩ := xbnd h
    refine xs_iald rfl (by decide +kernel) (xin_wr _) e164 rfl ?_
    obtain ⟨M165, e166, h⟩ := xbnd h
    refine xs_iast (by decide +kernel) hx3 e166 rfl ?_
    refine xe_alr (ins := .aload_n 1) (len := 1) (i := 1) (by decide +kernel) rfl rfl rfl rfl rfl ?_
    obtain ⟨v167, e168, h⟩ := xbnd h
    refine xs_gr (i := 853) (c := 13) (k := 13) (by decide +kernel) (by decide) (by decide +kernel) e168 rfl ?_
    refine xe_ldn (ins := .iload_n 3) (len := 1) (by decide +kernel) rfl rfl rfl rfl ?_
    refine xe_alr (ins := .aload_n 1) (len := 1) (i := 1) (by decide +kernel) rfl rfl rfl rfl rfl ?_
    obtain ⟨v169, e170, h⟩ := xbnd h
    refine xs_gr (i := 853) (c := 13) (k := 13) (by decide +kernel) (by decide) (by decide +kernel) e170 rfl ?_
    refine xe_ldn (ins := .iload_n 3) (len := 1) (by decide +kernel) rfl rfl rfl rfl ?_
    refine xe_ldn (ins := .iload_n 2) (len := 1) (by decide +kernel) rfl rfl rfl rfl ?_
    refine xe_iadd (by decide +kernel) rfl ?_
    obtain ⟨v171, e172, h⟩ := xbnd h
    refine xs_iald rfl (by decide +kernel) (xin_wr _) e172 rfl ?_
    obtain ⟨M173, e174, h⟩ := xbnd h
    refine xs_iast (by decide +kernel) hx3 e174 rfl ?_
    refine xe_iincr (i := 3) (n := 1) (by decide +kernel) (by decide) rfl (xk_k (show ¬ (1 : Nat) = 3 by decide) (Or.inl (show ¬ (1 + 1 : Nat) = 3 by decide)) (xk_k (show ¬ (2 : Nat) = 3 by decide) (Or.inr (xI_cat _)) (xk_d rfl xk_n))) rfl ?_
    refine xe_goto (off := -53) (nx := 249) (by decide +kernel) (by decide) ?_
    refine xW_lv rfl (l := [(1, xR_ (x1)), (2, xI (x2)), (3, xI (xwr ((x3) + (1))))]) (xsb_of ⟨rfl, rfl, rfl, trivial⟩ (show [3, 1, 2].Nodup by decide)) ?_
    exact hr249 hx2 (xin_wr _) h
def f308_249   (f : Nat) : Nat → Nat → Int → Int → xj_M → Option (xj_M)
  | 0, _, _, _, _ => none
  | n + 1, x1, x2, x3, M => f308_249b   (f308_249   f n) f x1 x2 x3 M
theorem k308_249 {d f : Nat}     : ∀ {n : Nat} {x1 : Nat} {x2 : Int} {x3 : Int} {M : xj_M} {R : xj_M}, xin x2 → xin x3 → f308_249   f n x1 x2 x3 M = some R → xW (d + 1) (none, d + 1, none) xr_308 (249, [(1, xR_ x1), (2, xI x2), (3, xI x3)], [], M) (xQv R) := by
  intro n
  induction n with
  | zero => intros; rename_i h; cases h
  | succ n ih => intros; rename_i h; exact k308_249b   ih (by assumption) (by assumption) h
def f308_107b  (r107 : Nat → Int → Int → xj_M → Option (xj_M)) (f : Nat) (x1 : Nat) (x2 : Int) (x3 : Int) (M : xj_M) : Option (xj_M) := ((xq_gi 13 10 (x1) M).bind fun v175 => (if (v175) ≤ (x3) then ((xq_gi 13 16 (x1) M).bind fun v178 => ((xq_gr 13 11 (x1) M).bind fun v180 => ((xq_gi 13 16 (x1) M).bind fun v182 => ((xq_gi 13 3 (x1) M).bind fun v184 => ((f309  f (v180) (v182) (v184) M).bind fun R187 => ((xq_gi 13 16 (x1) R187.2).bind fun v189 => ((xq_pi 13 16 (x1) (xwr ((v189) - (xwr ((v178) - (R187.1))))) R187.2).bind fun M191 => f308_249   f f (x1) (xwr ((v178) - (R187.1))) (0) M191))))))) else ((xq_gr 13 5 (x1) M).bind fun v193 => ((xq_gr 13 5 (x1) M).bind fun v195 => ((xq_ai 3 (v195) (xwr ((x3) + (x2))) M).bind fun v197 => ((xq_si (v193) (x3) (v197) M).bind fun M199 => ((xq_gr 13 6 (x1) M199).bind fun v201 => ((xq_gr 13 6 (x1) M199).bind fun v203 => ((xq_ai 3 (v203) (xwr ((x3) + (x2))) M199).bind fun v205 => ((xq_si (v201) (x3) (v205) M199).bind fun M207 => ((xq_gr 13 8 (x1) M207).bind fun v209 => ((xq_gr 13 8 (x1) M207).bind fun v211 => ((xq_al (v211) (xwr ((x3) + (x2))) M207).bind fun v213 => ((xq_sl (v209) (x3) (v213) M207).bind fun M215 => ((xq_gr 13 7 (x1) M215).bind fun v217 => ((xq_gr 13 7 (x1) M215).bind fun v219 => ((xq_ai 3 (v219) (xwr ((x3) + (x2))) M215).bind fun v221 => ((xq_si (v217) (x3) (v221) M215).bind fun M223 => f308_174  r107 f f (x1) (x2) (x3) (0) M223))))))))))))))))))
theorem k308_107b {d f : Nat}  {r107 : Nat → Int → Int → xj_M → Option (xj_M)}  (hr107 : ∀ {x1 : Nat} {x2 : Int} {x3 : Int} {M : xj_M} {R : xj_M}, xin x2 → xin x3 → r107 x1 x2 x3 M = some R → xW (d + 1) (none, d + 1, none) xr_308 (107, [(1, xR_ x1), (2, xI x2), (3, xI x3)], [], M) (xQv R)) {x1 : Nat} {x2 : Int} {x3 : Int} {M : xj_M} {R : xj_M} (hx2 : xin x2) (hx3 : xin x3) (h : f308_107b  r107 f x1 x2 x3 M = some R) : xW (d + 1) (none, d + 1, none) xr_308 (107, [(1, xR_ x1), (2, xI x2), (3, xI x3)], [], M) (xQv R) := by
  unfold f308_107b at h
  refine xe_ldn (ins := .iload_n 3) (len := 1) (by decide +kernel) rfl rfl rfl rfl ?_
  refine xe_alr (ins := .aload_n 1) (len := 1) (i := 1) (by decide +kernel) rfl rfl rfl rfl rfl ?_
  obtain ⟨v175, e176, h⟩ := xbnd h
  refine xs_gi (i := 791) (c := 13) (k := 10) (by decide +kernel) (by decide) (by decide +kernel) e176 rfl ?_
  refine xe_icmpge (off := 104) (t := 216) (by decide +kernel) (by decide) rfl hx3 (xq_gi_in e176) (fun c177 => ?_) (fun c177 => ?_)
  · rw [if_pos c177] at h
    refine xe_alr (ins := .aload_n 1) (len := 1) (i := 1) (by decide +kernel) rfl rfl rfl rfl rfl ?_
    obtain ⟨v178, e179, h⟩ := xbnd h
    refine xs_gi (i := 847) (c := 13) (k := 16) (by decide +kernel) (by decide) (by decide +kernel) e179 rfl ?_
    refine xe_alr (ins := .aload_n 1) (len := 1) (i := 1) (by decide +kernel) rfl rfl rfl rfl rfl ?_
    obtain ⟨v180, e181, h⟩ := xbnd h
    refine xs_gr (i := 844) (c := 13) (k := 11) (by decide +kernel) (by decide) (by decide +kernel) e181 rfl ?_
    refine xe_alr (ins := .aload_n 1) (len := 1) (i := 1) (by decide +kernel) rfl rfl rfl rfl rfl ?_
    obtain ⟨v182, e183, h⟩ := xbnd h
    refine xs_gi (i := 847) (c := 13) (k := 16) (by decide +kernel) (by decide) (by decide +kernel) e183 rfl ?_
    refine xe_alr (ins := .aload_n 1) (len := 1) (i := 1) (by decide +kernel) rfl rfl rfl rfl rfl ?_
    obtain ⟨v184, e185, h⟩ := xbnd h
    refine xs_gi (i := 837) (c := 13) (k := 3) (by decide +kernel) (by decide) (by decide +kernel) e185 rfl ?_
    obtain ⟨R187, e186, h⟩ := xbnd h
    refine xs_cs (kd := 2) (by decide) (i := 840) (j := 309) (ar := [xI (v184), xI (v182), xR_ (v180)]) (rest := [xI (v178)]) (r2 := xr_309) (by decide +kernel) (by decide +kernel) (by decide +kernel) xr_309_e rfl (by simp only [List.map_cons, List.map_nil, List.sum_cons, List.sum_nil, xR_cat, xI_cat, xZ_cat]; decide) ?_
    refine xc_i (k309 (d := d + 0)  (xq_gi_in e183) (xq_gi_in e185) e186) rfl (fun hi188 => ?_)
    refine xe_isub (by decide +kernel) rfl ?_
    refine xe_isr (ins := .istore_n 2) (len := 1) (i := 2) (by decide +kernel) rfl rfl rfl (by decide) (xk_k (show ¬ (1 : Nat) = 2 by decide) (Or.inr (xR_cat _)) (xk_d rfl (xk_k (show ¬ (3 : Nat) = 2 by decide) (Or.inl (show ¬ (3 + 1 : Nat) = 2 by decide)) xk_n))) rfl ?_
    refine xe_alr (ins := .aload_n 1) (len := 1) (i := 1) (by decide +kernel) rfl rfl rfl rfl rfl ?_
    refine xe_dupr (by decide +kernel) rfl ?_
    obtain ⟨v189, e190, h⟩ := xbnd h
    refine xs_gi (i := 847) (c := 13) (k := 16) (by decide +kernel) (by decide) (by decide +kernel) e190 rfl ?_
    refine xe_ldn (ins := .iload_n 2) (len := 1) (by decide +kernel) rfl rfl rfl rfl ?_
    refine xe_isub (by decide +kernel) rfl ?_
    obtain ⟨M191, e192, h⟩ := xbnd h
    refine xs_p (i := 847) (c := 13) (k := 16) (by decide +kernel) (by decide +kernel) (by decide +kernel) e192 rfl ?_
    refine xe_iconst (n := 0) (by decide +kernel) rfl ?_
    refine xe_isr (ins := .istore_n 3) (len := 1) (i := 3) (by decide +kernel) rfl rfl rfl (by decide) (xk_k (show ¬ (2 : Nat) = 3 by decide) (Or.inr (xI_cat _)) (xk_k (show ¬ (1 : Nat) = 3 by decide) (Or.inl (show ¬ (1 + 1 : Nat) = 3 by decide)) (xk_d rfl xk_n))) rfl ?_
    refine xW_lv rfl (l := [(1, xR_ (x1)), (2, xI (xwr ((v178) - (R187.1)))), (3, xI (0))]) (xsb_of ⟨rfl, rfl, rfl, trivial⟩ (show [3, 2, 1].Nodup by decide)) ?_
    exact k308_249   (xin_wr _) (show xin (0) by decide) h
  · rw [if_neg c177] at h
    refine xe_alr (ins := .aload_n 1) (len := 1) (i := 1) (by decide +kernel) rfl rfl rfl rfl rfl ?_
    obtain ⟨v193, e194, h⟩ := xbnd h
    refine xs_gr (i := 788) (c := 13) (k := 5) (by decide +kernel) (by decide) (by decide +kernel) e194 rfl ?_
    refine xe_ldn (ins := .iload_n 3) (len := 1) (by decide +kernel) rfl rfl rfl rfl ?_
    refine xe_alr (ins := .aload_n 1) (len := 1) (i := 1) (by decide +kernel) rfl rfl rfl rfl rfl ?_
    obtain ⟨v195, e196, h⟩ := xbnd h
    refine xs_gr (i := 788) (c := 13) (k := 5) (by decide +kernel) (by decide) (by decide +kernel) e196 rfl ?_
    refine xe_ldn (ins := .iload_n 3) (len := 1) (by decide +kernel) rfl rfl rfl rfl ?_
    refine xe_ldn (ins := .iload_n 2) (len := 1) (by decide +kernel) rfl rfl rfl rfl ?_
    refine xe_iadd (by decide +kernel) rfl ?_
    obtain ⟨v197, e198, h⟩ := xbnd h
    refine xs_iald rfl (by decide +kernel) (xin_wr _) e198 rfl ?_
    obtain ⟨M199, e200, h⟩ := xbnd h
    refine xs_iast (by decide +kernel) hx3 e200 rfl ?_
    refine xe_alr (ins := .aload_n 1) (len := 1) (i := 1) (by decide +kernel) rfl rfl rfl rfl rfl ?_
    obtain ⟨v201, e202, h⟩ := xbnd h
    refine xs_gr (i := 794) (c := 13) (k := 6) (by decide +kernel) (by decide) (by decide +kernel) e202 rfl ?_
    refine xe_ldn (ins := .iload_n 3) (len := 1) (by decide +kernel) rfl rfl rfl rfl ?_
    refine xe_alr (ins := .aload_n 1) (len := 1) (i := 1) (by decide +kernel) rfl rfl rfl rfl rfl ?_
    obtain ⟨v203, e204, h⟩ := xbnd h
    refine xs_gr (i := 794) (c := 13) (k := 6) (by decide +kernel) (by decide) (by decide +kernel) e204 rfl ?_
    refine xe_ldn (ins := .iload_n 3) (len := 1) (by decide +kernel) rfl rfl rfl rfl ?_
    refine xe_ldn (ins := .iload_n 2) (len := 1) (by decide +kernel) rfl rfl rfl rfl ?_
    refine xe_iadd (by decide +kernel) rfl ?_
    obtain ⟨v205, e206, h⟩ := xbnd h
    refine xs_iald rfl (by decide +kernel) (xin_wr _) e206 rfl ?_
    obtain ⟨M207, e208, h⟩ := xbnd h
    refine xs_iast (by decide +kernel) hx3 e208 rfl ?_
    refine xe_alr (ins := .aload_n 1) (len := 1) (i := 1) (by decide +kernel) rfl rfl rfl rfl rfl ?_
    obtain ⟨v209, e210, h⟩ := xbnd h
    refine xs_gr (i := 797) (c := 13) (k := 8) (by decide +kernel) (by decide) (by decide +kernel) e210 rfl ?_
    refine xe_ldn (ins := .iload_n 3) (len := 1) (by decide +kernel) rfl rfl rfl rfl ?_
    refine xe_alr (ins := .aload_n 1) (len := 1) (i := 1) (by decide +kernel) rfl rfl rfl rfl rfl ?_
    obtain ⟨v211, e212, h⟩ := xbnd h
    refine xs_gr (i := 797) (c := 13) (k := 8) (by decide +kernel) (by decide) (by decide +kernel) e212 rfl ?_
    refine xe_ldn (ins := .iload_n 3) (len := 1) (by decide +kernel) rfl rfl rfl rfl ?_
    refine xe_ldn (ins := .iload_n 2) (len := 1) (by decide +kernel) rfl rfl rfl rfl ?_
    refine xe_iadd (by decide +kernel) rfl ?_
    obtain ⟨v213, e214, h⟩ := xbnd h
    refine xs_lald (by decide +kernel) (xin_wr _) e214 rfl ?_
    obtain ⟨M215, e216, h⟩ := xbnd h
    refine xs_last (by decide +kernel) hx3 e216 rfl ?_
    refine xe_alr (ins := .aload_n 1) (len := 1) (i := 1) (by decide +kernel) rfl rfl rfl rfl rfl ?_
    obtain ⟨v217, e218, h⟩ := xbnd h
    refine xs_gr (i := 800) (c := 13) (k := 7) (by decide +kernel) (by decide) (by decide +kernel) e218 rfl ?_
    refine xe_ldn (ins := .iload_n 3) (len := 1) (by decide +kernel) rfl rfl rfl rfl ?_
    refine xe_alr (ins := .aload_n 1) (len := 1) (i := 1) (by decide +kernel) rfl rfl rfl rfl rfl ?_
    obtain ⟨v219, e220, h⟩ := xbnd h
    refine xs_gr (i := 800) (c := 13) (k := 7) (by decide +kernel) (by decide) (by decide +kernel) e220 rfl ?_
    refine xe_ldn (ins := .iload_n 3) (len := 1) (by decide +kernel) rfl rfl rfl rfl ?_
    refine xe_ldn (ins := .iload_n 2) (len := 1) (by decide +kernel) rfl rfl rfl rfl ?_
    refine xe_iadd (by decide +kernel) rfl ?_
    obtain ⟨v221, e222, h⟩ := xbnd h
    refine xs_iald rfl (by decide +kernel) (xin_wr _) e222 rfl ?_
    obtain ⟨M223, e224, h⟩ := xbnd h
    refine xs_iast (by decide +kernel) hx3 e224 rfl ?_
    refine xe_iconst (n := 0) (by decide +kernel) rfl ?_
    refine xe_isr (ins := .istore 4) (len := 2) (i := 4) (by decide +kernel) rfl rfl rfl (by decide) (xk_k (show ¬ (1 : Nat) = 4 by decide) (Or.inl (show ¬ (1 + 1 : Nat) = 4 by decide)) (xk_k (show ¬ (2 : Nat) = 4 by decide) (Or.inl (show ¬ (2 + 1 : Nat) = 4 by decide)) (xk_k (show ¬ (3 : Nat) = 4 by decide) (Or.inr (xI_cat _)) xk_n))) rfl ?_
    refine xW_lv rfl (l := [(1, xR_ (x1)), (2, xI (x2)), (3, xI (x3)), (4, xI (0))]) (xsb_of ⟨rfl, rfl, rfl, rfl, trivial⟩ (show [4, 1, 2, 3].Nodup by decide)) ?_
    exact k308_174  hr107 hx2 hx3 (show xin (0) by decide) h
def f308_107   (f : Nat) : Nat → Nat → Int → Int → xj_M → Option (xj_M)
  | 0, _, _, _, _ => none
  | n + 1, x1, x2, x3, M => f308_107b   (f308_107   f n) f x1 x2 x3 M
theorem k308_107 {d f : Nat}     : ∀ {n : Nat} {x1 : Nat} {x2 : Int} {x3 : Int} {M : xj_M} {R : xj_M}, xin x2 → xin x3 → f308_107   f n x1 x2 x3 M = some R → xW (d + 1) (none, d + 1, none) xr_308 (107, [(1, xR_ x1), (2, xI x2), (3, xI x3)], [], M) (xQv R) := by
  intro n
  induction n with
  | zero => intros; rename_i h; cases h
  | succ n ih => intros; rename_i h; exact k308_107b   ih (by assumption) (by assumption) h
def f308_0b  (r0 : Nat → xj_M → Option (xj_M)) (f : Nat) (x1 : Nat) (M : xj_M) : Option (xj_M) := ((xq_gr 13 5 (x1) M).bind fun v225 => ((xq_gi 13 10 (x1) M).bind fun v227 => ((xq_gi 13 3 (x1) M).bind fun v229 => ((f309  f (v225) (v227) (v229) M).bind fun R232 => (if (8000) < (R232.1) then f308_61  r0 f (x1) R232.2 else ((xq_gr 13 11 (x1) R232.2).bind fun v235 => ((xq_gi 13 16 (x1) R232.2).bind fun v237 => ((xq_gi 13 3 (x1) R232.2).bind fun v239 => ((f309  f (v235) (v237) (v239) R232.2).bind fun R242 => (if (100) < (R242.1) then f308_61  r0 f (x1) R242.2 else ((xq_gr 13 14 (x1) R242.2).bind fun v245 => ((xq_gi 13 17 (x1) R242.2).bind fun v247 => ((xq_gi 13 3 (x1) R242.2).bind fun v249 => ((f309  f (v245) (v247) (v249) R242.2).bind fun R252 => (if (R252.1) ≤ (7) then ((xq_gi 13 10 (x1) R252.2).bind fun v255 => ((xq_gr 13 5 (x1) R252.2).bind fun v257 => ((xq_gi 13 10 (x1) R252.2).bind fun v259 => ((xq_gi 13 3 (x1) R252.2).bind fun v261 => ((f309  f (v257) (v259) (v261) R252.2).bind fun R264 => ((xq_gi 13 10 (x1) R264.2).bind fun v266 => ((xq_pi 13 10 (x1) (xwr ((v266) - (xwr ((v255) - (R264.1))))) R264.2).bind fun M268 => f308_107   f f (x1) (xwr ((v255) - (R264.1))) (0) M268))))))) else f308_61  r0 f (x1) R252.2)))))))))))))))
theorem k308_0b {d f : Nat}  {r0 : Nat → xj_M → Option (xj_M)}  (hr0 : ∀ {x1 : Nat} {M : xj_M} {R : xj_M}, r0 x1 M = some R → xW (d + 1) (none, d + 1, none) xr_308 (0, [(1, xR_ x1)], [], M) (xQv R)) {x1 : Nat} {M : xj_M} {R : xj_M}  (h : f308_0b  r0 f x1 M = some R) : xW (d + 1) (none, d + 1, none) xr_308 (0, [(1, xR_ x1)], [], M) (xQv R) := by
  unfold f308_0b at h
  refine xe_alr (ins := .aload_n 1) (len := 1) (i := 1) (by decide +kernel) rfl rfl rfl rfl rfl ?_
  obtain ⟨v225, e226, h⟩ := xbnd h
  refine xs_gr (i := 788) (c := 13) (k := 5) (by decide +kernel) (by decide) (by decide +kernel) e226 rfl ?_
  refine xe_alr (ins := .aload_n 1) (len := 1) (i := 1) (by decide +kernel) rfl rfl rfl rfl rfl ?_
  obtain ⟨v227, e228, h⟩ := xbnd h
  refine xs_gi (i := 791) (c := 13) (k := 10) (by decide +kernel) (by decide) (by decide +kernel) e228 rfl ?_
  refine xe_alr (ins := .aload_n 1) (len := 1) (i := 1) (by decide +kernel) rfl rfl rfl rfl rfl ?_
  obtain ⟨v229, e230, h⟩ := xbnd h
  refine xs_gi (i := 837) (c := 13) (k := 3) (by decide +kernel) (by decide) (by decide +kernel) e230 rfl ?_
  obtain ⟨R232, e231, h⟩ := xbnd h
  refine xs_cs (kd := 2) (by decide) (i := 840) (j := 309) (ar := [xI (v229), xI (v227), xR_ (v225)]) (rest := []) (r2 := xr_309) (by decide +kernel) (by decide +kernel) (by decide +kernel) xr_309_e rfl (by decide) ?_
  refine xc_i (k309 (d := d + 0)  (xq_gi_in e228) (xq_gi_in e230) e231) rfl (fun hi233 => ?_)
  refine xe_sipush (n := 8000) (by decide +kernel) (by decide) rfl ?_
  refine xe_icmpgt (off := 43) (t := 61) (by decide +kernel) (by decide) rfl hi233 (show xin (8000) by decide) (fun c234 => ?_) (fun c234 => ?_)
  · rw [if_pos c234] at h
    refine xW_lv rfl (l := [(1, xR_ (x1))]) (xsb_of ⟨rfl, trivial⟩ (show [1].Nodup by decide)) ?_
    exact k308_61  hr0  h
  · rw [if_neg c234] at h
    refine xe_alr (ins := .aload_n 1) (len := 1) (i := 1) (by decide +kernel) rfl rfl rfl rfl rfl ?_
    obtain ⟨v235, e236, h⟩ := xbnd h
    refine xs_gr (i := 844) (c := 13) (k := 11) (by decide +kernel) (by decide) (by decide +kernel) e236 rfl ?_
    refine xe_alr (ins := .aload_n 1) (len := 1) (i := 1) (by decide +kernel) rfl rfl rfl rfl rfl ?_
    obtain ⟨v237, e238, h⟩ := xbnd h
    refine xs_gi (i := 847) (c := 13) (k := 16) (by decide +kernel) (by decide) (by decide +kernel) e238 rfl ?_
    refine xe_alr (ins := .aload_n 1) (len := 1) (i := 1) (by decide +kernel) rfl rfl rfl rfl rfl ?_
    obtain ⟨v239, e240, h⟩ := xbnd h
    refine xs_gi (i := 837) (c := 13) (k := 3) (by decide +kernel) (by decide) (by decide +kernel) e240 rfl ?_
    obtain ⟨R242, e241, h⟩ := xbnd h
    refine xs_cs (kd := 2) (by decide) (i := 840) (j := 309) (ar := [xI (v239), xI (v237), xR_ (v235)]) (rest := []) (r2 := xr_309) (by decide +kernel) (by decide +kernel) (by decide +kernel) xr_309_e rfl (by decide) ?_
    refine xc_i (k309 (d := d + 0)  (xq_gi_in e238) (xq_gi_in e240) e241) rfl (fun hi243 => ?_)
    refine xe_bipush (n := 100) (by decide +kernel) (by decide) rfl ?_
    refine xe_icmpgt (off := 23) (t := 61) (by decide +kernel) (by decide) rfl hi243 (show xin (100) by decide) (fun c244 => ?_) (fun c244 => ?_)
    · rw [if_pos c244] at h
      refine xW_lv rfl (l := [(1, xR_ (x1))]) (xsb_of ⟨rfl, trivial⟩ (show [1].Nodup by decide)) ?_
      exact k308_61  hr0  h
    · rw [if_neg c244] at h
      refine xe_alr (ins := .aload_n 1) (len := 1) (i := 1) (by decide +kernel) rfl rfl rfl rfl rfl ?_
      obtain ⟨v245, e246, h⟩ := xbnd h
      refine xs_gr (i := 734) (c := 13) (k := 14) (by decide +kernel) (by decide) (by decide +kernel) e246 rfl ?_
      refine xe_alr (ins := .aload_n 1) (len := 1) (i := 1) (by decide +kernel) rfl rfl rfl rfl rfl ?_
      obtain ⟨v247, e248, h⟩ := xbnd h
      refine xs_gi (i := 737) (c := 13) (k := 17) (by decide +kernel) (by decide) (by decide +kernel) e248 rfl ?_
      refine xe_alr (ins := .aload_n 1) (len := 1) (i := 1) (by decide +kernel) rfl rfl rfl rfl rfl ?_
      obtain ⟨v249, e250, h⟩ := xbnd h
      refine xs_gi (i := 837) (c := 13) (k := 3) (by decide +kernel) (by decide) (by decide +kernel) e250 rfl ?_
      obtain ⟨R252, e251, h⟩ := xbnd h
      refine xs_cs (kd := 2) (by decide) (i := 840) (j := 309) (ar := [xI (v249), xI (v247), xR_ (v245)]) (rest := []) (r2 := xr_309) (by decide +kernel) (by decide +kernel) (by decide +kernel) xr_309_e rfl (by decide) ?_
      refine xc_i (k309 (d := d + 0)  (xq_gi_in e248) (xq_gi_in e250) e251) rfl (fun hi253 => ?_)
      refine xe_bipush (n := 7) (by decide +kernel) (by decide) rfl ?_
      refine xe_icmple (off := 16) (t := 74) (by decide +kernel) (by decide) rfl hi253 (show xin (7) by decide) (fun c254 => ?_) (fun c254 => ?_)
      · rw [if_pos c254] at h
        refine xe_alr (ins := .aload_n 1) (len := 1) (i := 1) (by decide +kernel) rfl rfl rfl rfl rfl ?_
        obtain ⟨v255, e256, h⟩ := xbnd h
        refine xs_gi (i := 791) (c := 13) (k := 10) (by decide +kernel) (by decide) (by decide +kernel) e256 rfl ?_
        refine xe_alr (ins := .aload_n 1) (len := 1) (i := 1) (by decide +kernel) rfl rfl rfl rfl rfl ?_
        obtain ⟨v257, e258, h⟩ := xbnd h
        refine xs_gr (i := 788) (c := 13) (k := 5) (by decide +kernel) (by decide) (by decide +kernel) e258 rfl ?_
        refine xe_alr (ins := .aload_n 1) (len := 1) (i := 1) (by decide +kernel) rfl rfl rfl rfl rfl ?_
        obtain ⟨v259, e260, h⟩ := xbnd h
        refine xs_gi (i := 791) (c := 13) (k := 10) (by decide +kernel) (by decide) (by decide +kernel) e260 rfl ?_
        refine xe_alr (ins := .aload_n 1) (len := 1) (i := 1) (by decide +kernel) rfl rfl rfl rfl rfl ?_
        obtain ⟨v261, e262, h⟩ := xbnd h
        refine xs_gi (i := 837) (c := 13) (k := 3) (by decide +kernel) (by decide) (by decide +kernel) e262 rfl ?_
        obtain ⟨R264, e263, h⟩ := xbnd h
        refine xs_cs (kd := 2) (by decide) (i := 840) (j := 309) (ar := [xI (v261), xI (v259), xR_ (v257)]) (rest := [xI (v255)]) (r2 := xr_309) (by decide +kernel) (by decide +kernel) (by decide +kernel) xr_309_e rfl (by simp only [List.map_cons, List.map_nil, List.sum_cons, List.sum_nil, xR_cat, xI_cat, xZ_cat]; decide) ?_
        refine xc_i (k309 (d := d + 0)  (xq_gi_in e260) (xq_gi_in e262) e263) rfl (fun hi265 => ?_)
        refine xe_isub (by decide +kernel) rfl ?_
        refine xe_isr (ins := .istore_n 2) (len := 1) (i := 2) (by decide +kernel) rfl rfl rfl (by decide) (xk_k (show ¬ (1 : Nat) = 2 by decide) (Or.inr (xR_cat _)) xk_n) rfl ?_
        refine xe_alr (ins := .aload_n 1) (len := 1) (i := 1) (by decide +kernel) rfl rfl rfl rfl rfl ?_
        refine xe_dupr (by decide +kernel) rfl ?_
        obtain ⟨v266, e267, h⟩ := xbnd h
        refine xs_gi (i := 791) (c := 13) (k := 10) (by decide +kernel) (by decide) (by decide +kernel) e267 rfl ?_
        refine xe_ldn (ins := .iload_n 2) (len := 1) (by decide +kernel) rfl rfl rfl rfl ?_
        refine xe_isub (by decide +kernel) rfl ?_
        obtain ⟨M268, e269, h⟩ := xbnd h
        refine xs_p (i := 791) (c := 13) (k := 10) (by decide +kernel) (by decide +kernel) (by decide +kernel) e269 rfl ?_
        refine xe_iconst (n := 0) (by decide +kernel) rfl ?_
        refine xe_isr (ins := .istore_n 3) (len := 1) (i := 3) (by decide +kernel) rfl rfl rfl (by decide) (xk_k (show ¬ (2 : Nat) = 3 by decide) (Or.inr (xI_cat _)) (xk_k (show ¬ (1 : Nat) = 3 by decide) (Or.inl (show ¬ (1 + 1 : Nat) = 3 by decide)) xk_n)) rfl ?_
        refine xW_lv rfl (l := [(1, xR_ (x1)), (2, xI (xwr ((v255) - (R264.1)))), (3, xI (0))]) (xsb_of ⟨rfl, rfl, rfl, trivial⟩ (show [3, 2, 1].Nodup by decide)) ?_
        exact k308_107   (xin_wr _) (show xin (0) by decide) h
      · rw [if_neg c254] at h
        refine xW_lv rfl (l := [(1, xR_ (x1))]) (xsb_of ⟨rfl, trivial⟩ (show [1].Nodup by decide)) ?_
        exact k308_61  hr0  h
def f308_0   (f : Nat) : Nat → Nat → xj_M → Option (xj_M)
  | 0, _, _ => none
  | n + 1, x1, M => f308_0b   (f308_0   f n) f x1 M
theorem k308_0 {d f : Nat}     : ∀ {n : Nat} {x1 : Nat} {M : xj_M} {R : xj_M}, f308_0   f n x1 M = some R → xW (d + 1) (none, d + 1, none) xr_308 (0, [(1, xR_ x1)], [], M) (xQv R) := by
  intro n
  induction n with
  | zero => intros; rename_i h; cases h
  | succ n ih => intros; rename_i h; exact k308_0b   ih  h
def f308  (f : Nat) (a0 : Nat) (a1 : Nat) (M : xj_M) : Option (xj_M) := f308_0   f f (a1) M
theorem k308 {d f : Nat}   {a0 : Nat} {a1 : Nat} {M : xj_M} {R : xj_M}  (h : f308  f a0 a1 M = some R) : xT (d + 2) 308 [xR_ a0, xR_ a1] M (xQv R) := by
  refine xT_m xr_308_e (X := (none, d + 1, none)) rfl (xa_1 (xR_cat _) (xa_1 (xR_cat _) xa_n)) (by decide) ?_
  unfold f308 at h
  refine xW_lv rfl (l := [(1, xR_ (a1))]) (xsb_of ⟨rfl, trivial⟩ (show [0, 1].Nodup by decide)) ?_
  exact k308_0    h
-- ChangeHouseModel.goBack
def xr_311 : xj_mR := (15, yX15_goBack, cX15_goBack, 6, (Option.some Jvm.ClassFile.FieldType.int), 3, false, (10, 189), (1, 12))
set_option maxRecDepth 20000 in
theorem xr_311_e : xj_row 311 = some xr_311 := rfl
def f311_97  (r16 : Nat → Int → Nat → Int → xj_M → Option (Int × xj_M)) (f : Nat) (x1 : Nat) (x2 : Int) (x3 : Nat) (x4 : Int) (M : xj_M) : Option (Int × xj_M) := r16 (x1) (x2) (x3) (xwr ((x4) + (-1))) M
theorem k311_97 {d f : Nat}  {r16 : Nat → Int → Nat → Int → xj_M → Option (Int × xj_M)}  (hr16 : ∀ {x1 : Nat} {x2 : Int} {x3 : Nat} {x4 : Int} {M : xj_M} {R : Int × xj_M}, xin x2 → xin x4 → r16 x1 x2 x3 x4 M = some R → xW (d + 3) (none, d + 3, none) xr_311 (16, [(1, xR_ x1), (2, xI x2), (3, xR_ x3), (4, xI x4)], [], M) (xQi R)) {x1 : Nat} {x2 : Int} {x3 : Nat} {x4 : Int} {M : xj_M} {R : Int × xj_M} (hx2 : xin x2) (hx4 : xin x4) (h : f311_97  r16 f x1 x2 x3 x4 M = some R) : xW (d + 3) (none, d + 3, none) xr_311 (97, [(1, xR_ x1), (2, xI x2), (3, xR_ x3), (4, xI x4)], [], M) (xQi R) := by
  unfold f311_97 at h
  refine xe_iincr (i := 4) (n := -1) (by decide +kernel) (by decide) rfl (xk_k (show ¬ (1 : Nat) = 4 by decide) (Or.inl (show ¬ (1 + 1 : Nat) = 4 by decide)) (xk_k (show ¬ (2 : Nat) = 4 by decide) (Or.inl (show ¬ (2 + 1 : Nat) = 4 by decide)) (xk_k (show ¬ (3 : Nat) = 4 by decide) (Or.inr (xR_cat _)) (xk_d rfl xk_n)))) rfl ?_
  refine xe_goto (off := -84) (nx := 16) (by decide +kernel) (by decide) ?_
  refine xW_lv rfl (l := [(1, xR_ (x1)), (2, xI (x2)), (3, xR_ (x3)), (4, xI (xwr ((x4) + (-1))))]) (xsb_of ⟨rfl, rfl, rfl, rfl, trivial⟩ (show [4, 1, 2, 3].Nodup by decide)) ?_
  exact hr16 hx2 (xin_wr _) h
def f311_148   (f : Nat) (x4 : Int) (M : xj_M) : Option (Int × xj_M) := (some (x4, M))
theorem k311_148 {d f : Nat}     {x4 : Int} {M : xj_M} {R : Int × xj_M} (hx4 : xin x4) (h : f311_148   f x4 M = some R) : xW (d + 3) (none, d + 3, none) xr_311 (148, [(4, xI x4)], [], M) (xQi R) := by
  unfold f311_148 at h
  refine xe_ldn (ins := .iload 4) (len := 2) (by decide +kernel) rfl rfl rfl rfl ?_
  cases h
  exact xe_ret_i (ty := .int) (by decide +kernel) rfl rfl ⟨rfl, rfl, hx4⟩
def f311_117b  (r117 : Nat → Int → Int → Int → xj_M → Option (Int × xj_M)) (f : Nat) (x1 : Nat) (x2 : Int) (x4 : Int) (x5 : Int) (M : xj_M) : Option (Int × xj_M) := (if (x5) < 0 then f311_148   f (x4) M else ((xq_gr 13 14 (x1) M).bind fun v102 => ((xq_ai 3 (v102) (x5) M).bind fun v104 => (if (v104) ≤ (x2) then f311_148   f (x4) M else ((xq_gr 13 15 (x1) M).bind fun v107 => ((xq_ai 3 (v107) (x5) M).bind fun v109 => r117 (x1) (x2) (v109) (xwr ((x5) + (-1))) M))))))
theorem k311_117b {d f : Nat}  {r117 : Nat → Int → Int → Int → xj_M → Option (Int × xj_M)}  (hr117 : ∀ {x1 : Nat} {x2 : Int} {x4 : Int} {x5 : Int} {M : xj_M} {R : Int × xj_M}, xin x2 → xin x4 → xin x5 → r117 x1 x2 x4 x5 M = some R → xW (d + 3) (none, d + 3, none) xr_311 (117, [(1, xR_ x1), (2, xI x2), (4, xI x4), (5, xI x5)], [], M) (xQi R)) {x1 : Nat} {x2 : Int} {x4 : Int} {x5 : Int} {M : xj_M} {R : Int × xj_M} (hx2 : xin x2) (hx4 : xin x4) (hx5 : xin x5) (h : f311_117b  r117 f x1 x2 x4 x5 M = some R) : xW (d + 3) (none, d + 3, none) xr_311 (117, [(1, xR_ x1), (2, xI x2), (4, xI x4), (5, xI x5)], [], M) (xQi R) := by
  unfold f311_117b at h
  refine xe_ldn (ins := .iload 5) (len := 2) (by decide +kernel) rfl rfl rfl rfl ?_
  refine xe_iflt (off := 29) (t := 148) (by decide +kernel) (by decide) rfl hx5 (fun c101 => ?_) (fun c101 => ?_)
  · rw [if_pos c101] at h
    refine xW_lv rfl (l := [(4, xI (x4))]) (xsb_of ⟨rfl, trivial⟩ (show [1, 2, 4, 5].Nodup by decide)) ?_
    exact k311_148   hx4 h
  · rw [if_neg c101] at h
    refine xe_alr (ins := .aload_n 1) (len := 1) (i := 1) (by decide +kernel) rfl rfl rfl rfl rfl ?_
    obtain ⟨v102, e103, h⟩ := xbnd h
    refine xs_gr (i := 734) (c := 13) (k := 14) (by decide +kernel) (by decide) (by decide +kernel) e103 rfl ?_
    refine xe_ldn (ins := .iload 5) (len := 2) (by decide +kernel) rfl rfl rfl rfl ?_
    obtain ⟨v104, e105, h⟩ := xbnd h
    refine xs_iald rfl (by decide +kernel) hx5 e105 rfl ?_
    refine xe_ldn (ins := .iload_n 2) (len := 1) (by decide +kernel) rfl rfl rfl rfl ?_
    refine xe_icmple (off := 18) (t := 148) (by decide +kernel) (by decide) rfl (xq_ai_in e105) hx2 (fun c106 => ?_) (fun c106 => ?_)
    · rw [if_pos c106] at h
      refine xW_lv rfl (l := [(4, xI (x4))]) (xsb_of ⟨rfl, trivial⟩ (show [1, 2, 4, 5].Nodup by decide)) ?_
      exact k311_148   hx4 h
    · rw [if_neg c106] at h
      refine xe_alr (ins := .aload_n 1) (len := 1) (i := 1) (by decide +kernel) rfl rfl rfl rfl rfl ?_
      obtain ⟨v107, e108, h⟩ := xbnd h
      refine xs_gr (i := 743) (c := 13) (k := 15) (by decide +kernel) (by decide) (by decide +kernel) e108 rfl ?_
      refine xe_ldn (ins := .iload 5) (len := 2) (by decide +kernel) rfl rfl rfl rfl ?_
      obtain ⟨v109, e110, h⟩ := xbnd h
      refine xs_iald rfl (by decide +kernel) hx5 e110 rfl ?_
      refine xe_isr (ins := .istore 4) (len := 2) (i := 4) (by decide +kernel) rfl rfl rfl (by decide) (xk_k (show ¬ (1 : Nat) = 4 by decide) (Or.inl (show ¬ (1 + 1 : Nat) = 4 by decide)) (xk_k (show ¬ (2 : Nat) = 4 by decide) (Or.inl (show ¬ (2 + 1 : Nat) = 4 by decide)) (xk_d rfl (xk_k (show ¬ (5 : Nat) = 4 by decide) (Or.inl (show ¬ (5 + 1 : Nat) = 4 by decide)) xk_n)))) rfl ?_
      refine xe_iincr (i := 5) (n := -1) (by decide +kernel) (by decide) rfl (xk_k (show ¬ (4 : Nat) = 5 by decide) (Or.inr (xI_cat _)) (xk_k (show ¬ (1 : Nat) = 5 by decide) (Or.inl (show ¬ (1 + 1 : Nat) = 5 by decide)) (xk_k (show ¬ (2 : Nat) = 5 by decide) (Or.inl (show ¬ (2 + 1 : Nat) = 5 by decide)) (xk_d rfl xk_n)))) rfl ?_
      refine xe_goto (off := -28) (nx := 117) (by decide +kernel) (by decide) ?_
      refine xW_lv rfl (l := [(1, xR_ (x1)), (2, xI (x2)), (4, xI (v109)), (5, xI (xwr ((x5) + (-1))))]) (xsb_of ⟨rfl, rfl, rfl, rfl, trivial⟩ (show [5, 4, 1, 2].Nodup by decide)) ?_
      exact hr117 hx2 (xq_ai_in e110) (xin_wr _) h
def f311_117   (f : Nat) : Nat → Nat → Int → Int → Int → xj_M → Option (Int × xj_M)
  | 0, _, _, _, _, _ => none
  | n + 1, x1, x2, x4, x5, M => f311_117b   (f311_117   f n) f x1 x2 x4 x5 M
theorem k311_117 {d f : Nat}     : ∀ {n : Nat} {x1 : Nat} {x2 : Int} {x4 : Int} {x5 : Int} {M : xj_M} {R : Int × xj_M}, xin x2 → xin x4 → xin x5 → f311_117   f n x1 x2 x4 x5 M = some R → xW (d + 3) (none, d + 3, none) xr_311 (117, [(1, xR_ x1), (2, xI x2), (4, xI x4), (5, xI x5)], [], M) (xQi R) := by
  intro n
  induction n with
  | zero => intros; rename_i h; cases h
  | succ n ih => intros; rename_i h; exact k311_117b   ih (by assumption) (by assumption) (by assumption) h
def f311_103   (f : Nat) (x1 : Nat) (x2 : Int) (M : xj_M) : Option (Int × xj_M) := ((xq_gi 13 1 (x1) M).bind fun v111 => ((xq_gi 13 17 (x1) M).bind fun v113 => f311_117   f f (x1) (x2) (v111) (xwr ((v113) - (1))) M))
theorem k311_103 {d f : Nat}     {x1 : Nat} {x2 : Int} {M : xj_M} {R : Int × xj_M} (hx2 : xin x2) (h : f311_103   f x1 x2 M = some R) : xW (d + 3) (none, d + 3, none) xr_311 (103, [(1, xR_ x1), (2, xI x2)], [], M) (xQi R) := by
  unfold f311_103 at h
  refine xe_alr (ins := .aload_n 1) (len := 1) (i := 1) (by decide +kernel) rfl rfl rfl rfl rfl ?_
  obtain ⟨v111, e112, h⟩ := xbnd h
  refine xs_gi (i := 671) (c := 13) (k := 1) (by decide +kernel) (by decide) (by decide +kernel) e112 rfl ?_
  refine xe_isr (ins := .istore 4) (len := 2) (i := 4) (by decide +kernel) rfl rfl rfl (by decide) (xk_k (show ¬ (1 : Nat) = 4 by decide) (Or.inl (show ¬ (1 + 1 : Nat) = 4 by decide)) (xk_k (show ¬ (2 : Nat) = 4 by decide) (Or.inl (show ¬ (2 + 1 : Nat) = 4 by decide)) xk_n)) rfl ?_
  refine xe_alr (ins := .aload_n 1) (len := 1) (i := 1) (by decide +kernel) rfl rfl rfl rfl rfl ?_
  obtain ⟨v113, e114, h⟩ := xbnd h
  refine xs_gi (i := 737) (c := 13) (k := 17) (by decide +kernel) (by decide) (by decide +kernel) e114 rfl ?_
  refine xe_iconst (n := 1) (by decide +kernel) rfl ?_
  refine xe_isub (by decide +kernel) rfl ?_
  refine xe_isr (ins := .istore 5) (len := 2) (i := 5) (by decide +kernel) rfl rfl rfl (by decide) (xk_k (show ¬ (4 : Nat) = 5 by decide) (Or.inr (xI_cat _)) (xk_k (show ¬ (1 : Nat) = 5 by decide) (Or.inl (show ¬ (1 + 1 : Nat) = 5 by decide)) (xk_k (show ¬ (2 : Nat) = 5 by decide) (Or.inl (show ¬ (2 + 1 : Nat) = 5 by decide)) xk_n))) rfl ?_
  refine xW_lv rfl (l := [(1, xR_ (x1)), (2, xI (x2)), (4, xI (v111)), (5, xI (xwr ((v113) - (1))))]) (xsb_of ⟨rfl, rfl, rfl, rfl, trivial⟩ (show [5, 4, 1, 2].Nodup by decide)) ?_
  exact k311_117   hx2 (xq_gi_in e112) (xin_wr _) h
def f311_16b  (r16 : Nat → Int → Nat → Int → xj_M → Option (Int × xj_M)) (f : Nat) (x1 : Nat) (x2 : Int) (x3 : Nat) (x4 : Int) (M : xj_M) : Option (Int × xj_M) := (if (x4) < 0 then f311_103   f (x1) (x2) M else ((xq_gr 13 5 (x1) M).bind fun v116 => ((xq_ai 3 (v116) (x4) M).bind fun v118 => (if (v118) ≤ (x2) then f311_103   f (x1) (x2) M else ((xq_gr 13 6 (x1) M).bind fun v121 => ((xq_ai 3 (v121) (x4) M).bind fun v123 => (if (v123) ≤ 0 then ((xq_gr 13 8 (x1) M).bind fun v126 => ((xq_al (v126) (x4) M).bind fun v128 => ((xq_gr 13 7 (x1) M).bind fun v130 => ((xq_ai 3 (v130) (x4) M).bind fun v132 => ((xq_gr 13 9 (x1) M).bind fun v134 => ((xq_is 12 (x3) M).bind fun _ => ((f198  f (x3) (v128) (v132) (v134) (xwr ((4) * (x4))) M).bind fun M138 => f311_97  r16 f (x1) (x2) (x3) (x4) M138))))))) else ((xq_gr 13 8 (x1) M).bind fun v140 => ((xq_al (v140) (x4) M).bind fun v142 => ((xq_gr 13 7 (x1) M).bind fun v144 => ((xq_ai 3 (v144) (x4) M).bind fun v146 => ((xq_gr 13 9 (x1) M).bind fun v148 => ((xq_is 12 (x3) M).bind fun _ => ((f199  f (x3) (v142) (v146) (v148) (xwr ((4) * (x4))) M).bind fun M152 => f311_97  r16 f (x1) (x2) (x3) (x4) M152))))))))))))))
theorem k311_16b {d f : Nat}  {r16 : Nat → Int → Nat → Int → xj_M → Option (Int × xj_M)}  (hr16 : ∀ {x1 : Nat} {x2 : Int} {x3 : Nat} {x4 : Int} {M : xj_M} {R : Int × xj_M}, xin x2 → xin x4 → r16 x1 x2 x3 x4 M = some R → xW (d + 3) (none, d + 3, none) xr_311 (16, [(1, xR_ x1), (2, xI x2), (3, xR_ x3), (4, xI x4)], [], M) (xQi R)) {x1 : Nat} {x2 : Int} {x3 : Nat} {x4 : Int} {M : xj_M} {R : Int × xj_M} (hx2 : xin x2) (hx4 : xin x4) (h : f311_16b  r16 f x1 x2 x3 x4 M = some R) : xW (d + 3) (none, d + 3, none) xr_311 (16, [(1, xR_ x1), (2, xI x2), (3, xR_ x3), (4, xI x4)], [], M) (xQi R) := by
  unfold f311_16b at h
  refine xe_ldn (ins := .iload 4) (len := 2) (by decide +kernel) rfl rfl rfl rfl ?_
  refine xe_iflt (off := 85) (t := 103) (by decide +kernel) (by decide) rfl hx4 (fun c115 => ?_) (fun c115 => ?_)
  · rw [if_pos c115] at h
    refine xW_lv rfl (l := [(1, xR_ (x1)), (2, xI (x2))]) (xsb_of ⟨rfl, rfl, trivial⟩ (show [1, 2, 3, 4].Nodup by decide)) ?_
    exact k311_103   hx2 h
  · rw [if_neg c115] at h
    refine xe_alr (ins := .aload_n 1) (len := 1) (i := 1) (by decide +kernel) rfl rfl rfl rfl rfl ?_
    obtain ⟨v116, e117, h⟩ := xbnd h
    refine xs_gr (i := 788) (c := 13) (k := 5) (by decide +kernel) (by decide) (by decide +kernel) e117 rfl ?_
    refine xe_ldn (ins := .iload 4) (len := 2) (by decide +kernel) rfl rfl rfl rfl ?_
    obtain ⟨v118, e119, h⟩ := xbnd h
    refine xs_iald rfl (by decide +kernel) hx4 e119 rfl ?_
    refine xe_ldn (ins := .iload_n 2) (len := 1) (by decide +kernel) rfl rfl rfl rfl ?_
    refine xe_icmple (off := 74) (t := 103) (by decide +kernel) (by decide) rfl (xq_ai_in e119) hx2 (fun c120 => ?_) (fun c120 => ?_)
    · rw [if_pos c120] at h
      refine xW_lv rfl (l := [(1, xR_ (x1)), (2, xI (x2))]) (xsb_of ⟨rfl, rfl, trivial⟩ (show [1, 2, 3, 4].Nodup by decide)) ?_
      exact k311_103   hx2 h
    · rw [if_neg c120] at h
      refine xe_alr (ins := .aload_n 1) (len := 1) (i := 1) (by decide +kernel) rfl rfl rfl rfl rfl ?_
      obtain ⟨v121, e122, h⟩ := xbnd h
      refine xs_gr (i := 794) (c := 13) (k := 6) (by decide +kernel) (by decide) (by decide +kernel) e122 rfl ?_
      refine xe_ldn (ins := .iload 4) (len := 2) (by decide +kernel) rfl rfl rfl rfl ?_
      obtain ⟨v123, e124, h⟩ := xbnd h
      refine xs_iald rfl (by decide +kernel) hx4 e124 rfl ?_
      refine xe_ifle (off := 32) (t := 71) (by decide +kernel) (by decide) rfl (xq_ai_in e124) (fun c125 => ?_) (fun c125 => ?_)
      · rw [if_pos c125] at h
        refine xe_alr (ins := .aload_n 3) (len := 1) (i := 3) (by decide +kernel) rfl rfl rfl rfl rfl ?_
        refine xe_alr (ins := .aload_n 1) (len := 1) (i := 1) (by decide +kernel) rfl rfl rfl rfl rfl ?_
        obtain ⟨v126, e127, h⟩ := xbnd h
        refine xs_gr (i := 797) (c := 13) (k := 8) (by decide +kernel) (by decide) (by decide +kernel) e127 rfl ?_
        refine xe_ldn (ins := .iload 4) (len := 2) (by decide +kernel) rfl rfl rfl rfl ?_
        obtain ⟨v128, e129, h⟩ := xbnd h
        refine xs_lald (by decide +kernel) hx4 e129 rfl ?_
        refine xe_alr (ins := .aload_n 1) (len := 1) (i := 1) (by decide +kernel) rfl rfl rfl rfl rfl ?_
        obtain ⟨v130, e131, h⟩ := xbnd h
        refine xs_gr (i := 800) (c := 13) (k := 7) (by decide +kernel) (by decide) (by decide +kernel) e131 rfl ?_
        refine xe_ldn (ins := .iload 4) (len := 2) (by decide +kernel) rfl rfl rfl rfl ?_
        obtain ⟨v132, e133, h⟩ := xbnd h
        refine xs_iald rfl (by decide +kernel) hx4 e133 rfl ?_
        refine xe_alr (ins := .aload_n 1) (len := 1) (i := 1) (by decide +kernel) rfl rfl rfl rfl rfl ?_
        obtain ⟨v134, e135, h⟩ := xbnd h
        refine xs_gr (i := 803) (c := 13) (k := 9) (by decide +kernel) (by decide) (by decide +kernel) e135 rfl ?_
        refine xe_iconst (n := 4) (by decide +kernel) rfl ?_
        refine xe_ldn (ins := .iload 4) (len := 2) (by decide +kernel) rfl rfl rfl rfl ?_
        refine xe_imul (by decide +kernel) rfl ?_
        obtain ⟨_, e137, h⟩ := xbnd h
        obtain ⟨M138, e136, h⟩ := xbnd h
        refine xs_cv (i := 785) (j := 198) (ar := [xI (xwr ((4) * (x4))), xR_ (v134), xI (v132), xZ (v128)]) (rest := []) (r2 := xr_198) (by decide +kernel) (by decide +kernel) (by decide +kernel) xr_198_e rfl (by decide) (by decide) e137 ?_
        refine xc_v (k198 (d := d + 0)  (xq_al_in e129) (xq_ai_in e133) (xin_wr _) e136) rfl ?_
        refine xW_lv rfl (l := [(1, xR_ (x1)), (2, xI (x2)), (3, xR_ (x3)), (4, xI (x4))]) (xsb_of ⟨rfl, rfl, rfl, rfl, trivial⟩ (show [1, 2, 3, 4].Nodup by decide)) ?_
        exact k311_97  hr16 hx2 hx4 h
      · rw [if_neg c125] at h
        refine xe_alr (ins := .aload_n 3) (len := 1) (i := 3) (by decide +kernel) rfl rfl rfl rfl rfl ?_
        refine xe_alr (ins := .aload_n 1) (len := 1) (i := 1) (by decide +kernel) rfl rfl rfl rfl rfl ?_
        obtain ⟨v140, e141, h⟩ := xbnd h
        refine xs_gr (i := 797) (c := 13) (k := 8) (by decide +kernel) (by decide) (by decide +kernel) e141 rfl ?_
        refine xe_ldn (ins := .iload 4) (len := 2) (by decide +kernel) rfl rfl rfl rfl ?_
        obtain ⟨v142, e143, h⟩ := xbnd h
        refine xs_lald (by decide +kernel) hx4 e143 rfl ?_
        refine xe_alr (ins := .aload_n 1) (len := 1) (i := 1) (by decide +kernel) rfl rfl rfl rfl rfl ?_
        obtain ⟨v144, e145, h⟩ := xbnd h
        refine xs_gr (i := 800) (c := 13) (k := 7) (by decide +kernel) (by decide) (by decide +kernel) e145 rfl ?_
        refine xe_ldn (ins := .iload 4) (len := 2) (by decide +kernel) rfl rfl rfl rfl ?_
        obtain ⟨v146, e147, h⟩ := xbnd h
        refine xs_iald rfl (by decide +kernel) hx4 e147 rfl ?_
        refine xe_alr (ins := .aload_n 1) (len := 1) (i := 1) (by decide +kernel) rfl rfl rfl rfl rfl ?_
        obtain ⟨v148, e149, h⟩ := xbnd h
        refine xs_gr (i := 803) (c := 13) (k := 9) (by decide +kernel) (by decide) (by decide +kernel) e149 rfl ?_
        refine xe_iconst (n := 4) (by decide +kernel) rfl ?_
        refine xe_ldn (ins := .iload 4) (len := 2) (by decide +kernel) rfl rfl rfl rfl ?_
        refine xe_imul (by decide +kernel) rfl ?_
        obtain ⟨_, e151, h⟩ := xbnd h
        obtain ⟨M152, e150, h⟩ := xbnd h
        refine xs_cv (i := 856) (j := 199) (ar := [xI (xwr ((4) * (x4))), xR_ (v148), xI (v146), xZ (v142)]) (rest := []) (r2 := xr_199) (by decide +kernel) (by decide +kernel) (by decide +kernel) xr_199_e rfl (by decide) (by decide) e151 ?_
        refine xc_v (k199 (d := d + 0)  (xq_al_in e143) (xq_ai_in e147) (xin_wr _) e150) rfl ?_
        refine xe_goto (off := 29) (nx := 97) (by decide +kernel) (by decide) ?_
        refine xW_lv rfl (l := [(1, xR_ (x1)), (2, xI (x2)), (3, xR_ (x3)), (4, xI (x4))]) (xsb_of ⟨rfl, rfl, rfl, rfl, trivial⟩ (show [1, 2, 3, 4].Nodup by decide)) ?_
        exact k311_97  hr16 hx2 hx4 h
def f311_16   (f : Nat) : Nat → Nat → Int → Nat → Int → xj_M → Option (Int × xj_M)
  | 0, _, _, _, _, _ => none
  | n + 1, x1, x2, x3, x4, M => f311_16b   (f311_16   f n) f x1 x2 x3 x4 M
theorem k311_16 {d f : Nat}     : ∀ {n : Nat} {x1 : Nat} {x2 : Int} {x3 : Nat} {x4 : Int} {M : xj_M} {R : Int × xj_M}, xin x2 → xin x4 → f311_16   f n x1 x2 x3 x4 M = some R → xW (d + 3) (none, d + 3, none) xr_311 (16, [(1, xR_ x1), (2, xI x2), (3, xR_ x3), (4, xI x4)], [], M) (xQi R) := by
  intro n
  induction n with
  | zero => intros; rename_i h; cases h
  | succ n ih => intros; rename_i h; exact k311_16b   ih (by assumption) (by assumption) h
def f311  (f : Nat) (a0 : Nat) (a1 : Nat) (a2 : Int) (a3 : Nat) (M : xj_M) : Option (Int × xj_M) := ((xq_gr 13 0 (a1) M).bind fun v154 => ((xq_is 12 (a3) M).bind fun _ => ((f194  f (a3) (v154) M).bind fun M158 => ((xq_gi 13 10 (a1) M158).bind fun v160 => f311_16   f f (a1) (a2) (a3) (xwr ((v160) - (1))) M158))))
theorem k311 {d f : Nat}   {a0 : Nat} {a1 : Nat} {a2 : Int} {a3 : Nat} {M : xj_M} {R : Int × xj_M} (ha2 : xin a2) (h : f311  f a0 a1 a2 a3 M = some R) : xT (d + 4) 311 [xR_ a0, xR_ a1, xI a2, xR_ a3] M (xQi R) := by
  refine xT_m xr_311_e (X := (none, d + 3, none)) rfl (xa_1 (xR_cat _) (xa_1 (xR_cat _) (xa_1 (xI_cat _) (xa_1 (xR_cat _) xa_n)))) (by decide) ?_
  unfold f311 at h
  refine xe_alr (ins := .aload_n 3) (len := 1) (i := 3) (by decide +kernel) rfl rfl rfl rfl rfl ?_
  refine xe_alr (ins := .aload_n 1) (len := 1) (i := 1) (by decide +kernel) rfl rfl rfl rfl rfl ?_
  obtain ⟨v154, e155, h⟩ := xbnd h
  refine xs_gr (i := 679) (c := 13) (k := 0) (by decide +kernel) (by decide) (by decide +kernel) e155 rfl ?_
  obtain ⟨_, e157, h⟩ := xbnd h
  obtain ⟨M158, e156, h⟩ := xbnd h
  refine xs_cv (i := 708) (j := 194) (ar := [xR_ (v154)]) (rest := []) (r2 := xr_194) (by decide +kernel) (by decide +kernel) (by decide +kernel) xr_194_e rfl (by decide) (by decide) e157 ?_
  refine xc_v (k194 (d := d + 2)   e156) rfl ?_
  refine xe_alr (ins := .aload_n 1) (len := 1) (i := 1) (by decide +kernel) rfl rfl rfl rfl rfl ?_
  obtain ⟨v160, e161, h⟩ := xbnd h
  refine xs_gi (i := 791) (c := 13) (k := 10) (by decide +kernel) (by decide) (by decide +kernel) e161 rfl ?_
  refine xe_iconst (n := 1) (by decide +kernel) rfl ?_
  refine xe_isub (by decide +kernel) rfl ?_
  refine xe_isr (ins := .istore 4) (len := 2) (i := 4) (by decide +kernel) rfl rfl rfl (by decide) (xk_k (show ¬ (0 : Nat) = 4 by decide) (Or.inl (show ¬ (0 + 1 : Nat) = 4 by decide)) (xk_k (show ¬ (1 : Nat) = 4 by decide) (Or.inl (show ¬ (1 + 1 : Nat) = 4 by decide)) (xk_k (show ¬ (2 : Nat) = 4 by decide) (Or.inl (show ¬ (2 + 1 : Nat) = 4 by decide)) (xk_k (show ¬ (3 : Nat) = 4 by decide) (Or.inr (xR_cat _)) xk_n)))) rfl ?_
  refine xW_lv rfl (l := [(1, xR_ (a1)), (2, xI (a2)), (3, xR_ (a3)), (4, xI (xwr ((v160) - (1))))]) (xsb_of ⟨rfl, rfl, rfl, rfl, trivial⟩ (show [4, 0, 1, 2, 3].Nodup by decide)) ?_
  exact k311_16   ha2 (xin_wr _) h
