/-! Mirrors: the first methods of the reference -/
def xr_206 : xj_mR := (15, yX15_isSmall, cX15_isSmall, 1, (Option.some Jvm.ClassFile.FieldType.boolean), 1, false, (8, 147), (1, 12))
theorem xr_206_e : xj_row 206 = some xr_206 := rfl
def f206_17  (f : Nat) (y0 : Int) (M : xj_M) : Option (Int × xj_M) := (if (y0) = 0 ∨ (y0) = 1 then some (y0, M) else none)
theorem k206_17 {d f : Nat}   {y0 : Int} {M : xj_M} {R : Int × xj_M} (hy0 : xin y0) (h : f206_17  f y0 M = some R) : xW (d + 0) (none, d + 0, none) xr_206 (17, [], [xI y0], M) (xQi R) := by
  unfold f206_17 at h
  by_cases c101 : (y0) = 0 ∨ (y0) = 1
  · rw [if_pos c101] at h; cases h; exact xe_ret_i (ty := .boolean) (by decide +kernel) rfl (xbool c101) ⟨rfl, rfl, hy0⟩
  · rw [if_neg c101] at h; cases h
def f206_16  (f : Nat)  (M : xj_M) : Option (Int × xj_M) := f206_17  f (0) M
theorem k206_16 {d f : Nat}    {M : xj_M} {R : Int × xj_M}  (h : f206_16  f  M = some R) : xW (d + 0) (none, d + 0, none) xr_206 (16, [], [], M) (xQi R) := by
  unfold f206_16 at h
  refine xe_iconst (n := 0) (by decide +kernel) rfl ?_
  refine xW_lv rfl (l := []) (xsb_of trivial (show [].Nodup by decide)) ?_
  exact k206_17  (by decide) h
def f206 (f : Nat) (a0 : Int) (M : xj_M) : Option (Int × xj_M) := (if (a0) < (97) then f206_16  f  M else (if (122) < (a0) then f206_16  f  M else f206_17  f (1) M))
theorem k206 {d f : Nat} {a0 : Int} {M : xj_M} {R : Int × xj_M} (ha0 : xin a0) (h : f206 f a0 M = some R) : xT (d + 1) 206 [xI a0] M (xQi R) := by
  refine xT_m xr_206_e (X := (none, d + 0, none)) rfl (xa_1 (xI_cat _) xa_n) (by decide) ?_
  unfold f206 at h
  refine xe_ldn (ins := .iload_n 0) (len := 1) (by decide +kernel) rfl rfl rfl rfl ?_
  refine xe_bipush (n := 97) (by decide +kernel) (by decide) rfl ?_
  refine xe_icmplt (off := 13) (t := 16) (by decide +kernel) (by decide) rfl ha0 (by decide) (fun c102 => ?_) (fun c102 => ?_)
  · rw [if_pos c102] at h
    refine xW_lv rfl (l := []) (xsb_of trivial (show [0].Nodup by decide)) ?_
    exact k206_16   h
  · rw [if_neg c102] at h
    refine xe_ldn (ins := .iload_n 0) (len := 1) (by decide +kernel) rfl rfl rfl rfl ?_
    refine xe_bipush (n := 122) (by decide +kernel) (by decide) rfl ?_
    refine xe_icmpgt (off := 7) (t := 16) (by decide +kernel) (by decide) rfl ha0 (by decide) (fun c103 => ?_) (fun c103 => ?_)
    · rw [if_pos c103] at h
      refine xW_lv rfl (l := []) (xsb_of trivial (show [0].Nodup by decide)) ?_
      exact k206_16   h
    · rw [if_neg c103] at h
      refine xe_iconst (n := 1) (by decide +kernel) rfl ?_
      refine xe_goto (off := 4) (nx := 17) (by decide +kernel) (by decide) ?_
      refine xW_lv rfl (l := []) (xsb_of trivial (show [0].Nodup by decide)) ?_
      exact k206_17  (by decide) h
def xr_207 : xj_mR := (15, yX15_isGreat, cX15_isGreat, 1, (Option.some Jvm.ClassFile.FieldType.boolean), 1, false, (8, 164), (1, 12))
theorem xr_207_e : xj_row 207 = some xr_207 := rfl
def f207_17  (f : Nat) (y0 : Int) (M : xj_M) : Option (Int × xj_M) := (if (y0) = 0 ∨ (y0) = 1 then some (y0, M) else none)
theorem k207_17 {d f : Nat}   {y0 : Int} {M : xj_M} {R : Int × xj_M} (hy0 : xin y0) (h : f207_17  f y0 M = some R) : xW (d + 0) (none, d + 0, none) xr_207 (17, [], [xI y0], M) (xQi R) := by
  unfold f207_17 at h
  by_cases c101 : (y0) = 0 ∨ (y0) = 1
  · rw [if_pos c101] at h; cases h; exact xe_ret_i (ty := .boolean) (by decide +kernel) rfl (xbool c101) ⟨rfl, rfl, hy0⟩
  · rw [if_neg c101] at h; cases h
def f207_16  (f : Nat)  (M : xj_M) : Option (Int × xj_M) := f207_17  f (0) M
theorem k207_16 {d f : Nat}    {M : xj_M} {R : Int × xj_M}  (h : f207_16  f  M = some R) : xW (d + 0) (none, d + 0, none) xr_207 (16, [], [], M) (xQi R) := by
  unfold f207_16 at h
  refine xe_iconst (n := 0) (by decide +kernel) rfl ?_
  refine xW_lv rfl (l := []) (xsb_of trivial (show [].Nodup by decide)) ?_
  exact k207_17  (by decide) h
def f207 (f : Nat) (a0 : Int) (M : xj_M) : Option (Int × xj_M) := (if (a0) < (65) then f207_16  f  M else (if (90) < (a0) then f207_16  f  M else f207_17  f (1) M))
theorem k207 {d f : Nat} {a0 : Int} {M : xj_M} {R : Int × xj_M} (ha0 : xin a0) (h : f207 f a0 M = some R) : xT (d + 1) 207 [xI a0] M (xQi R) := by
  refine xT_m xr_207_e (X := (none, d + 0, none)) rfl (xa_1 (xI_cat _) xa_n) (by decide) ?_
  unfold f207 at h
  refine xe_ldn (ins := .iload_n 0) (len := 1) (by decide +kernel) rfl rfl rfl rfl ?_
  refine xe_bipush (n := 65) (by decide +kernel) (by decide) rfl ?_
  refine xe_icmplt (off := 13) (t := 16) (by decide +kernel) (by decide) rfl ha0 (by decide) (fun c102 => ?_) (fun c102 => ?_)
  · rw [if_pos c102] at h
    refine xW_lv rfl (l := []) (xsb_of trivial (show [0].Nodup by decide)) ?_
    exact k207_16   h
  · rw [if_neg c102] at h
    refine xe_ldn (ins := .iload_n 0) (len := 1) (by decide +kernel) rfl rfl rfl rfl ?_
    refine xe_bipush (n := 90) (by decide +kernel) (by decide) rfl ?_
    refine xe_icmpgt (off := 7) (t := 16) (by decide +kernel) (by decide) rfl ha0 (by decide) (fun c103 => ?_) (fun c103 => ?_)
    · rw [if_pos c103] at h
      refine xW_lv rfl (l := []) (xsb_of trivial (show [0].Nodup by decide)) ?_
      exact k207_16   h
    · rw [if_neg c103] at h
      refine xe_iconst (n := 1) (by decide +kernel) rfl ?_
      refine xe_goto (off := 4) (nx := 17) (by decide +kernel) (by decide) ?_
      refine xW_lv rfl (l := []) (xsb_of trivial (show [0].Nodup by decide)) ?_
      exact k207_17  (by decide) h
def xr_208 : xj_mR := (15, yX15_isDigit, cX15_isDigit, 1, (Option.some Jvm.ClassFile.FieldType.boolean), 1, false, (8, 154), (1, 12))
theorem xr_208_e : xj_row 208 = some xr_208 := rfl
def f208_17  (f : Nat) (y0 : Int) (M : xj_M) : Option (Int × xj_M) := (if (y0) = 0 ∨ (y0) = 1 then some (y0, M) else none)
theorem k208_17 {d f : Nat}   {y0 : Int} {M : xj_M} {R : Int × xj_M} (hy0 : xin y0) (h : f208_17  f y0 M = some R) : xW (d + 0) (none, d + 0, none) xr_208 (17, [], [xI y0], M) (xQi R) := by
  unfold f208_17 at h
  by_cases c101 : (y0) = 0 ∨ (y0) = 1
  · rw [if_pos c101] at h; cases h; exact xe_ret_i (ty := .boolean) (by decide +kernel) rfl (xbool c101) ⟨rfl, rfl, hy0⟩
  · rw [if_neg c101] at h; cases h
def f208_16  (f : Nat)  (M : xj_M) : Option (Int × xj_M) := f208_17  f (0) M
theorem k208_16 {d f : Nat}    {M : xj_M} {R : Int × xj_M}  (h : f208_16  f  M = some R) : xW (d + 0) (none, d + 0, none) xr_208 (16, [], [], M) (xQi R) := by
  unfold f208_16 at h
  refine xe_iconst (n := 0) (by decide +kernel) rfl ?_
  refine xW_lv rfl (l := []) (xsb_of trivial (show [].Nodup by decide)) ?_
  exact k208_17  (by decide) h
def f208 (f : Nat) (a0 : Int) (M : xj_M) : Option (Int × xj_M) := (if (a0) < (48) then f208_16  f  M else (if (57) < (a0) then f208_16  f  M else f208_17  f (1) M))
theorem k208 {d f : Nat} {a0 : Int} {M : xj_M} {R : Int × xj_M} (ha0 : xin a0) (h : f208 f a0 M = some R) : xT (d + 1) 208 [xI a0] M (xQi R) := by
  refine xT_m xr_208_e (X := (none, d + 0, none)) rfl (xa_1 (xI_cat _) xa_n) (by decide) ?_
  unfold f208 at h
  refine xe_ldn (ins := .iload_n 0) (len := 1) (by decide +kernel) rfl rfl rfl rfl ?_
  refine xe_bipush (n := 48) (by decide +kernel) (by decide) rfl ?_
  refine xe_icmplt (off := 13) (t := 16) (by decide +kernel) (by decide) rfl ha0 (by decide) (fun c102 => ?_) (fun c102 => ?_)
  · rw [if_pos c102] at h
    refine xW_lv rfl (l := []) (xsb_of trivial (show [0].Nodup by decide)) ?_
    exact k208_16   h
  · rw [if_neg c102] at h
    refine xe_ldn (ins := .iload_n 0) (len := 1) (by decide +kernel) rfl rfl rfl rfl ?_
    refine xe_bipush (n := 57) (by decide +kernel) (by decide) rfl ?_
    refine xe_icmpgt (off := 7) (t := 16) (by decide +kernel) (by decide) rfl ha0 (by decide) (fun c103 => ?_) (fun c103 => ?_)
    · rw [if_pos c103] at h
      refine xW_lv rfl (l := []) (xsb_of trivial (show [0].Nodup by decide)) ?_
      exact k208_16   h
    · rw [if_neg c103] at h
      refine xe_iconst (n := 1) (by decide +kernel) rfl ?_
      refine xe_goto (off := 4) (nx := 17) (by decide +kernel) (by decide) ?_
      refine xW_lv rfl (l := []) (xsb_of trivial (show [0].Nodup by decide)) ?_
      exact k208_17  (by decide) h
def xr_209 : xj_mR := (15, yX15_see, cX15_see, 2, (Option.some Jvm.ClassFile.FieldType.int), 1, false, (8, 144), (1, 12))
theorem xr_209_e : xj_row 209 = some xr_209 := rfl
def f209_22  (f : Nat) (y0 : Int) (M : xj_M) : Option (Int × xj_M) := (some (y0, M))
theorem k209_22 {d f : Nat}   {y0 : Int} {M : xj_M} {R : Int × xj_M} (hy0 : xin y0) (h : f209_22  f y0 M = some R) : xW (d + 0) (none, d + 0, none) xr_209 (22, [], [xI y0], M) (xQi R) := by
  unfold f209_22 at h
  cases h
  exact xe_ret_i (ty := .int) (by decide +kernel) rfl rfl ⟨rfl, rfl, hy0⟩
def f209 (f : Nat) (a0 : Nat) (a1 : Int) (M : xj_M) : Option (Int × xj_M) := ((xq_gi 15 1 (a0) M).bind fun v101 => (if (v101) ≤ (a1) then f209_22  f (-1) M else ((xq_gr 15 0 (a0) M).bind fun v104 => ((xq_ab (v104) (a1) M).bind fun v106 => f209_22  f (xand (v106) (255)) M))))
theorem k209 {d f : Nat} {a0 : Nat} {a1 : Int} {M : xj_M} {R : Int × xj_M} (ha1 : xin a1) (h : f209 f a0 a1 M = some R) : xT (d + 1) 209 [xV a0, xI a1] M (xQi R) := by
  refine xT_m xr_209_e (X := (none, d + 0, none)) rfl (xa_1 (xV_cat _) (xa_1 (xI_cat _) xa_n)) (by decide) ?_
  unfold f209 at h
  refine xe_ldn (ins := .iload_n 1) (len := 1) (by decide +kernel) rfl rfl rfl rfl ?_
  refine xe_alr (ins := .aload_n 0) (len := 1) (i := 0) (by decide +kernel) rfl rfl rfl rfl rfl ?_
  obtain ⟨v101, e102, h⟩ := xbind h
  refine xs_gi (i := 3) (c := 15) (k := 1) (by decide +kernel) (by decide) (by decide +kernel) e102 rfl ?_
  refine xe_icmpge (off := 16) (t := 21) (by decide +kernel) (by decide) rfl ha1 (xq_gi_in e102) (fun c103 => ?_) (fun c103 => ?_)
  · rw [if_pos c103] at h
    refine xe_iconst (n := -1) (by decide +kernel) rfl ?_
    refine xW_lv rfl (l := []) (xsb_of trivial (show [0, 1].Nodup by decide)) ?_
    exact k209_22  (by decide) h
  · rw [if_neg c103] at h
    refine xe_alr (ins := .aload_n 0) (len := 1) (i := 0) (by decide +kernel) rfl rfl rfl rfl rfl ?_
    obtain ⟨v104, e105, h⟩ := xbind h
    refine xs_gr (i := 7) (c := 15) (k := 0) (by decide +kernel) (by decide) (by decide +kernel) e105 rfl ?_
    refine xe_ldn (ins := .iload_n 1) (len := 1) (by decide +kernel) rfl rfl rfl rfl ?_
    obtain ⟨v106, e107, h⟩ := xbind h
    refine xs_bald (by decide +kernel) ha1 e107 rfl ?_
    refine xe_sipush (n := 255) (by decide +kernel) (by decide) rfl ?_
    refine xe_iand (by decide +kernel) rfl ?_
    refine xe_goto (off := 4) (nx := 22) (by decide +kernel) (by decide) ?_
    refine xW_lv rfl (l := []) (xsb_of trivial (show [0, 1].Nodup by decide)) ?_
    exact k209_22  (xin_of _) h
def xr_210 : xj_mR := (15, yX15_fail, cX15_fail, 2, (Option.none : Option Jvm.ClassFile.FieldType), 1, false, (8, 208), (1, 12))
theorem xr_210_e : xj_row 210 = some xr_210 := rfl
def f210_13  (f : Nat)  (M : xj_M) : Option (xj_M) := (some M)
theorem k210_13 {d f : Nat}    {M : xj_M} {R : xj_M}  (h : f210_13  f  M = some R) : xW (d + 0) (none, d + 0, none) xr_210 (13, [], [], M) (xQv R) := by
  unfold f210_13 at h
  cases h
  exact xe_ret_v (by decide +kernel) rfl ⟨rfl, rfl⟩
def f210 (f : Nat) (a0 : Nat) (a1 : Int) (M : xj_M) : Option (xj_M) := ((xq_gi 15 7 (a0) M).bind fun v101 => (if ¬ (v101) = (-1) then f210_13  f  M else ((xq_pi 15 7 (a0) (a1) M).bind fun M104 => f210_13  f  M104)))
theorem k210 {d f : Nat} {a0 : Nat} {a1 : Int} {M : xj_M} {R : xj_M} (ha1 : xin a1) (h : f210 f a0 a1 M = some R) : xT (d + 1) 210 [xV a0, xI a1] M (xQv R) := by
  refine xT_m xr_210_e (X := (none, d + 0, none)) rfl (xa_1 (xV_cat _) (xa_1 (xI_cat _) xa_n)) (by decide) ?_
  unfold f210 at h
  refine xe_alr (ins := .aload_n 0) (len := 1) (i := 0) (by decide +kernel) rfl rfl rfl rfl rfl ?_
  obtain ⟨v101, e102, h⟩ := xbind h
  refine xs_gi (i := 11) (c := 15) (k := 7) (by decide +kernel) (by decide) (by decide +kernel) e102 rfl ?_
  refine xe_iconst (n := -1) (by decide +kernel) rfl ?_
  refine xe_icmpne (off := 8) (t := 13) (by decide +kernel) (by decide) rfl (xq_gi_in e102) (by decide) (fun c103 => ?_) (fun c103 => ?_)
  · rw [if_pos c103] at h
    refine xW_lv rfl (l := []) (xsb_of trivial (show [0, 1].Nodup by decide)) ?_
    exact k210_13   h
  · rw [if_neg c103] at h
    refine xe_alr (ins := .aload_n 0) (len := 1) (i := 0) (by decide +kernel) rfl rfl rfl rfl rfl ?_
    refine xe_ldn (ins := .iload_n 1) (len := 1) (by decide +kernel) rfl rfl rfl rfl ?_
    obtain ⟨M104, e105, h⟩ := xbind h
    refine xs_p (i := 11) (c := 15) (k := 7) (by decide +kernel) (by decide +kernel) (by decide +kernel) e105 rfl ?_
    refine xW_lv rfl (l := []) (xsb_of trivial (show [0, 1].Nodup by decide)) ?_
    exact k210_13   h
def xr_211 : xj_mR := (15, yX15_bad, cX15_bad, 1, (Option.some Jvm.ClassFile.FieldType.boolean), 0, false, (8, 188), (1, 12))
theorem xr_211_e : xj_row 211 = some xr_211 := rfl
def f211_13  (f : Nat) (y0 : Int) (M : xj_M) : Option (Int × xj_M) := (if (y0) = 0 ∨ (y0) = 1 then some (y0, M) else none)
theorem k211_13 {d f : Nat}   {y0 : Int} {M : xj_M} {R : Int × xj_M} (hy0 : xin y0) (h : f211_13  f y0 M = some R) : xW (d + 0) (none, d + 0, none) xr_211 (13, [], [xI y0], M) (xQi R) := by
  unfold f211_13 at h
  by_cases c101 : (y0) = 0 ∨ (y0) = 1
  · rw [if_pos c101] at h; cases h; exact xe_ret_i (ty := .boolean) (by decide +kernel) rfl (xbool c101) ⟨rfl, rfl, hy0⟩
  · rw [if_neg c101] at h; cases h
def f211 (f : Nat) (a0 : Nat) (M : xj_M) : Option (Int × xj_M) := ((xq_gi 15 7 (a0) M).bind fun v102 => (if (v102) = (-1) then f211_13  f (0) M else f211_13  f (1) M))
theorem k211 {d f : Nat} {a0 : Nat} {M : xj_M} {R : Int × xj_M}  (h : f211 f a0 M = some R) : xT (d + 1) 211 [xV a0] M (xQi R) := by
  refine xT_m xr_211_e (X := (none, d + 0, none)) rfl (xa_1 (xV_cat _) xa_n) (by decide) ?_
  unfold f211 at h
  refine xe_alr (ins := .aload_n 0) (len := 1) (i := 0) (by decide +kernel) rfl rfl rfl rfl rfl ?_
  obtain ⟨v102, e103, h⟩ := xbind h
  refine xs_gi (i := 11) (c := 15) (k := 7) (by decide +kernel) (by decide) (by decide +kernel) e103 rfl ?_
  refine xe_iconst (n := -1) (by decide +kernel) rfl ?_
  refine xe_icmpeq (off := 7) (t := 12) (by decide +kernel) (by decide) rfl (xq_gi_in e103) (by decide) (fun c104 => ?_) (fun c104 => ?_)
  · rw [if_pos c104] at h
    refine xe_iconst (n := 0) (by decide +kernel) rfl ?_
    refine xW_lv rfl (l := []) (xsb_of trivial (show [0].Nodup by decide)) ?_
    exact k211_13  (by decide) h
  · rw [if_neg c104] at h
    refine xe_iconst (n := 1) (by decide +kernel) rfl ?_
    refine xe_goto (off := 4) (nx := 13) (by decide +kernel) (by decide) ?_
    refine xW_lv rfl (l := []) (xsb_of trivial (show [0].Nodup by decide)) ?_
    exact k211_13  (by decide) h
def xr_215 : xj_mR := (15, yX15_digitOf, cX15_digitOf, 1, (Option.some Jvm.ClassFile.FieldType.int), 1, false, (8, 158), (1, 12))
theorem xr_215_e : xj_row 215 = some xr_215 := rfl
def f215_51  (f : Nat) (y0 : Int) (M : xj_M) : Option (Int × xj_M) := (some (y0, M))
theorem k215_51 {d f : Nat}   {y0 : Int} {M : xj_M} {R : Int × xj_M} (hy0 : xin y0) (h : f215_51  f y0 M = some R) : xW (d + 1) (none, d + 1, none) xr_215 (51, [], [xI y0], M) (xQi R) := by
  unfold f215_51 at h
  cases h
  exact xe_ret_i (ty := .int) (by decide +kernel) rfl rfl ⟨rfl, rfl, hy0⟩
def f215 (f : Nat) (a0 : Int) (M : xj_M) : Option (Int × xj_M) := ((f206 f (a0) M).bind fun R102 => (if (R102.1) = 0 then ((f208 f (a0) R102.2).bind fun R106 => (if (R106.1) = 0 then (if ¬ (a0) = (95) then f215_51  f (xwr ((xwr ((38) + (a0))) - (65))) R106.2 else f215_51  f (37) R106.2) else f215_51  f (xwr ((xwr ((27) + (a0))) - (48))) R106.2)) else f215_51  f (xwr ((xwr ((1) + (a0))) - (97))) R102.2))
theorem k215 {d f : Nat} {a0 : Int} {M : xj_M} {R : Int × xj_M} (ha0 : xin a0) (h : f215 f a0 M = some R) : xT (d + 2) 215 [xI a0] M (xQi R) := by
  refine xT_m xr_215_e (X := (none, d + 1, none)) rfl (xa_1 (xI_cat _) xa_n) (by decide) ?_
  unfold f215 at h
  refine xe_ldn (ins := .iload_n 0) (len := 1) (by decide +kernel) rfl rfl rfl rfl ?_
  obtain ⟨R102, e101, h⟩ := xbind h
  refine xs_cs (kd := 2) (by decide) (i := 49) (j := 206) (ar := [xI (a0)]) (rest := []) (r2 := xr_206) (by decide +kernel) (by decide +kernel) (by decide +kernel) xr_206_e rfl (by decide) ?_
  refine xc_i (k206 (d := d + 0) ha0 e101) rfl (fun hi103 => ?_)
  refine xe_ifeq (off := 12) (t := 16) (by decide +kernel) (by decide) rfl hi103 (fun c104 => ?_) (fun c104 => ?_)
  · rw [if_pos c104] at h
    refine xe_ldn (ins := .iload_n 0) (len := 1) (by decide +kernel) rfl rfl rfl rfl ?_
    obtain ⟨R106, e105, h⟩ := xbind h
    refine xs_cs (kd := 2) (by decide) (i := 62) (j := 208) (ar := [xI (a0)]) (rest := []) (r2 := xr_208) (by decide +kernel) (by decide +kernel) (by decide +kernel) xr_208_e rfl (by decide) ?_
    refine xc_i (k208 (d := d + 0) ha0 e105) rfl (fun hi107 => ?_)
    refine xe_ifeq (off := 13) (t := 33) (by decide +kernel) (by decide) rfl hi107 (fun c108 => ?_) (fun c108 => ?_)
    · rw [if_pos c108] at h
      refine xe_ldn (ins := .iload_n 0) (len := 1) (by decide +kernel) rfl rfl rfl rfl ?_
      refine xe_bipush (n := 95) (by decide +kernel) (by decide) rfl ?_
      refine xe_icmpne (off := 8) (t := 44) (by decide +kernel) (by decide) rfl ha0 (by decide) (fun c109 => ?_) (fun c109 => ?_)
      · rw [if_pos c109] at h
        refine xe_bipush (n := 38) (by decide +kernel) (by decide) rfl ?_
        refine xe_ldn (ins := .iload_n 0) (len := 1) (by decide +kernel) rfl rfl rfl rfl ?_
        refine xe_iadd (by decide +kernel) rfl ?_
        refine xe_bipush (n := 65) (by decide +kernel) (by decide) rfl ?_
        refine xe_isub (by decide +kernel) rfl ?_
        refine xW_lv rfl (l := []) (xsb_of trivial (show [0].Nodup by decide)) ?_
        exact k215_51  (xin_wr _) h
      · rw [if_neg c109] at h
        refine xe_bipush (n := 37) (by decide +kernel) (by decide) rfl ?_
        refine xe_goto (off := 10) (nx := 51) (by decide +kernel) (by decide) ?_
        refine xW_lv rfl (l := []) (xsb_of trivial (show [0].Nodup by decide)) ?_
        exact k215_51  (by decide) h
    · rw [if_neg c108] at h
      refine xe_bipush (n := 27) (by decide +kernel) (by decide) rfl ?_
      refine xe_ldn (ins := .iload_n 0) (len := 1) (by decide +kernel) rfl rfl rfl rfl ?_
      refine xe_iadd (by decide +kernel) rfl ?_
      refine xe_bipush (n := 48) (by decide +kernel) (by decide) rfl ?_
      refine xe_isub (by decide +kernel) rfl ?_
      refine xe_goto (off := 21) (nx := 51) (by decide +kernel) (by decide) ?_
      refine xW_lv rfl (l := []) (xsb_of trivial (show [0].Nodup by decide)) ?_
      exact k215_51  (xin_wr _) h
  · rw [if_neg c104] at h
    refine xe_iconst (n := 1) (by decide +kernel) rfl ?_
    refine xe_ldn (ins := .iload_n 0) (len := 1) (by decide +kernel) rfl rfl rfl rfl ?_
    refine xe_iadd (by decide +kernel) rfl ?_
    refine xe_bipush (n := 97) (by decide +kernel) (by decide) rfl ?_
    refine xe_isub (by decide +kernel) rfl ?_
    refine xe_goto (off := 38) (nx := 51) (by decide +kernel) (by decide) ?_
    refine xW_lv rfl (l := []) (xsb_of trivial (show [0].Nodup by decide)) ?_
    exact k215_51  (xin_wr _) h
def xr_216 : xj_mR := (15, yX15_lexName, cX15_lexName, 4, (Option.none : Option Jvm.ClassFile.FieldType), 0, false, (8, 151), (1, 12))
theorem xr_216_e : xj_row 216 = some xr_216 := rfl
def f216_116 (r17 : Nat → Int → Int → xj_M → Option (xj_M)) (f : Nat) (x0 : Nat) (x1 : Int) (x2 : Int) (M : xj_M) : Option (xj_M) := r17 (x0) (x1) (xwr ((x2) + (1))) M
theorem k216_116 {d f : Nat} {r17 : Nat → Int → Int → xj_M → Option (xj_M)} (hr17 : ∀ {x0 : Nat} {x1 : Int} {x2 : Int} {M : xj_M} {R : xj_M}, xin x1 → xin x2 → r17 x0 x1 x2 M = some R → xW (d + 2) (none, d + 2, none) xr_216 (17, [(0, xV x0), (1, xI x1), (2, xI x2)], [], M) (xQv R)) {x0 : Nat} {x1 : Int} {x2 : Int} {M : xj_M} {R : xj_M} (hx1 : xin x1) (hx2 : xin x2) (h : f216_116 r17 f x0 x1 x2 M = some R) : xW (d + 2) (none, d + 2, none) xr_216 (116, [(0, xV x0), (1, xI x1), (2, xI x2)], [], M) (xQv R) := by
  unfold f216_116 at h
  refine xe_iincr (i := 2) (n := 1) (by decide +kernel) (by decide) rfl (xk_k (show ¬ (0 : Nat) = 2 by decide) (Or.inl (show ¬ (0 + 1 : Nat) = 2 by decide)) (xk_k (show ¬ (1 : Nat) = 2 by decide) (Or.inr (xI_cat _)) (xk_d rfl xk_n))) rfl ?_
  refine xe_goto (off := -102) (nx := 17) (by decide +kernel) (by decide) ?_
  refine xW_lv rfl (l := [(0, xV (x0)), (1, xI (x1)), (2, xI (xwr ((x2) + (1))))]) (xsb_of ⟨rfl, rfl, rfl, trivial⟩ (show [2, 0, 1].Nodup by decide)) ?_
  exact hr17 hx1 (xin_wr _) h
def f216_85 (r17 : Nat → Int → Int → xj_M → Option (xj_M)) (f : Nat) (x0 : Nat) (x2 : Int) (y0 : Int) (M : xj_M) : Option (xj_M) := ((xq_gi 15 6 (x0) M).bind fun v101 => (if ¬ (v101) = (-1) then f216_116 r17 f (x0) (y0) (x2) M else ((xq_gl 15 9 (x0) M).bind fun v104 => ((xq_is 15 (x0) M).bind fun _ => ((f209 f (x0) (x2) M).bind fun R108 => ((f215 f (R108.1) R108.2).bind fun R111 => ((xq_pl 15 9 (x0) (xwl ((xwl ((38) * (v104))) + (R111.1))) R111.2).bind fun M113 => f216_116 r17 f (x0) (y0) (x2) M113)))))))
theorem k216_85 {d f : Nat} {r17 : Nat → Int → Int → xj_M → Option (xj_M)} (hr17 : ∀ {x0 : Nat} {x1 : Int} {x2 : Int} {M : xj_M} {R : xj_M}, xin x1 → xin x2 → r17 x0 x1 x2 M = some R → xW (d + 2) (none, d + 2, none) xr_216 (17, [(0, xV x0), (1, xI x1), (2, xI x2)], [], M) (xQv R)) {x0 : Nat} {x2 : Int} {y0 : Int} {M : xj_M} {R : xj_M} (hx2 : xin x2) (hy0 : xin y0) (h : f216_85 r17 f x0 x2 y0 M = some R) : xW (d + 2) (none, d + 2, none) xr_216 (85, [(0, xV x0), (2, xI x2)], [xI y0], M) (xQv R) := by
  unfold f216_85 at h
  refine xe_isr (ins := .istore_n 1) (len := 1) (i := 1) (by decide +kernel) rfl rfl rfl (by decide) (xk_k (show ¬ (0 : Nat) = 1 by decide) (Or.inr (xV_cat _)) (xk_k (show ¬ (2 : Nat) = 1 by decide) (Or.inl (show ¬ (2 + 1 : Nat) = 1 by decide)) xk_n)) rfl ?_
  refine xe_alr (ins := .aload_n 0) (len := 1) (i := 0) (by decide +kernel) rfl rfl rfl rfl rfl ?_
  obtain ⟨v101, e102, h⟩ := xbind h
  refine xs_gi (i := 32) (c := 15) (k := 6) (by decide +kernel) (by decide) (by decide +kernel) e102 rfl ?_
  refine xe_iconst (n := -1) (by decide +kernel) rfl ?_
  refine xe_icmpne (off := 25) (t := 116) (by decide +kernel) (by decide) rfl (xq_gi_in e102) (by decide) (fun c103 => ?_) (fun c103 => ?_)
  · rw [if_pos c103] at h
    refine xW_lv rfl (l := [(0, xV (x0)), (1, xI (y0)), (2, xI (x2))]) (xsb_of ⟨rfl, rfl, rfl, trivial⟩ (show [1, 0, 2].Nodup by decide)) ?_
    exact k216_116 hr17 hy0 hx2 h
  · rw [if_neg c103] at h
    refine xe_alr (ins := .aload_n 0) (len := 1) (i := 0) (by decide +kernel) rfl rfl rfl rfl rfl ?_
    refine xe_ldc2 (i := 75) (n := 38) (by decide +kernel) (by decide +kernel) rfl ?_
    refine xe_alr (ins := .aload_n 0) (len := 1) (i := 0) (by decide +kernel) rfl rfl rfl rfl rfl ?_
    obtain ⟨v104, e105, h⟩ := xbind h
    refine xs_gl (i := 71) (c := 15) (k := 9) (by decide +kernel) (by decide) (by decide +kernel) e105 rfl ?_
    refine xe_lmul (by decide +kernel) rfl ?_
    refine xe_alr (ins := .aload_n 0) (len := 1) (i := 0) (by decide +kernel) rfl rfl rfl rfl rfl ?_
    refine xe_ldn (ins := .iload_n 2) (len := 1) (by decide +kernel) rfl rfl rfl rfl ?_
    obtain ⟨_, e107, h⟩ := xbind h
    obtain ⟨R108, e106, h⟩ := xbind h
    refine xs_cv (i := 39) (j := 209) (ar := [xI (x2)]) (rest := [xZ (xwl ((38) * (v104))), xV (x0)]) (r2 := xr_209) (by decide +kernel) (by decide +kernel) (by decide +kernel) xr_209_e rfl (by decide) (by simp only [List.map_cons, List.map_nil, List.sum_cons, List.sum_nil, xV_cat, xI_cat, xZ_cat]; decide) e107 ?_
    refine xc_i (k209 (d := d + 1) hx2 e106) rfl (fun hi109 => ?_)
    obtain ⟨R111, e110, h⟩ := xbind h
    refine xs_cs (kd := 2) (by decide) (i := 77) (j := 215) (ar := [xI (R108.1)]) (rest := [xZ (xwl ((38) * (v104))), xV (x0)]) (r2 := xr_215) (by decide +kernel) (by decide +kernel) (by decide +kernel) xr_215_e rfl (by simp only [List.map_cons, List.map_nil, List.sum_cons, List.sum_nil, xV_cat, xI_cat, xZ_cat]; decide) ?_
    refine xc_i (k215 (d := d + 0) hi109 e110) rfl (fun hi112 => ?_)
    refine xe_i2l (by decide +kernel) rfl hi112 ?_
    refine xe_ladd (by decide +kernel) rfl ?_
    obtain ⟨M113, e114, h⟩ := xbind h
    refine xs_p (i := 71) (c := 15) (k := 9) (by decide +kernel) (by decide +kernel) (by decide +kernel) e114 rfl ?_
    refine xW_lv rfl (l := [(0, xV (x0)), (1, xI (y0)), (2, xI (x2))]) (xsb_of ⟨rfl, rfl, rfl, trivial⟩ (show [1, 0, 2].Nodup by decide)) ?_
    exact k216_116 hr17 hy0 hx2 h
def f216_84 (r17 : Nat → Int → Int → xj_M → Option (xj_M)) (f : Nat) (x0 : Nat) (x2 : Int) (M : xj_M) : Option (xj_M) := f216_85 r17 f (x0) (x2) (0) M
theorem k216_84 {d f : Nat} {r17 : Nat → Int → Int → xj_M → Option (xj_M)} (hr17 : ∀ {x0 : Nat} {x1 : Int} {x2 : Int} {M : xj_M} {R : xj_M}, xin x1 → xin x2 → r17 x0 x1 x2 M = some R → xW (d + 2) (none, d + 2, none) xr_216 (17, [(0, xV x0), (1, xI x1), (2, xI x2)], [], M) (xQv R)) {x0 : Nat} {x2 : Int} {M : xj_M} {R : xj_M} (hx2 : xin x2) (h : f216_84 r17 f x0 x2 M = some R) : xW (d + 2) (none, d + 2, none) xr_216 (84, [(0, xV x0), (2, xI x2)], [], M) (xQv R) := by
  unfold f216_84 at h
  refine xe_iconst (n := 0) (by decide +kernel) rfl ?_
  refine xW_lv rfl (l := [(0, xV (x0)), (2, xI (x2))]) (xsb_of ⟨rfl, rfl, trivial⟩ (show [0, 2].Nodup by decide)) ?_
  exact k216_85 hr17 hx2 (by decide) h
def f216_65 (r17 : Nat → Int → Int → xj_M → Option (xj_M)) (f : Nat) (x0 : Nat) (x1 : Int) (x2 : Int) (M : xj_M) : Option (xj_M) := (if (x1) = 0 then f216_84 r17 f (x0) (x2) M else ((xq_is 15 (x0) M).bind fun _ => ((f209 f (x0) (x2) M).bind fun R118 => ((f206 f (R118.1) R118.2).bind fun R121 => (if (R121.1) = 0 then f216_84 r17 f (x0) (x2) R121.2 else f216_85 r17 f (x0) (x2) (1) R121.2)))))
theorem k216_65 {d f : Nat} {r17 : Nat → Int → Int → xj_M → Option (xj_M)} (hr17 : ∀ {x0 : Nat} {x1 : Int} {x2 : Int} {M : xj_M} {R : xj_M}, xin x1 → xin x2 → r17 x0 x1 x2 M = some R → xW (d + 2) (none, d + 2, none) xr_216 (17, [(0, xV x0), (1, xI x1), (2, xI x2)], [], M) (xQv R)) {x0 : Nat} {x1 : Int} {x2 : Int} {M : xj_M} {R : xj_M} (hx1 : xin x1) (hx2 : xin x2) (h : f216_65 r17 f x0 x1 x2 M = some R) : xW (d + 2) (none, d + 2, none) xr_216 (65, [(0, xV x0), (1, xI x1), (2, xI x2)], [], M) (xQv R) := by
  unfold f216_65 at h
  refine xe_ldn (ins := .iload_n 1) (len := 1) (by decide +kernel) rfl rfl rfl rfl ?_
  refine xe_ifeq (off := 18) (t := 84) (by decide +kernel) (by decide) rfl hx1 (fun c115 => ?_) (fun c115 => ?_)
  · rw [if_pos c115] at h
    refine xW_lv rfl (l := [(0, xV (x0)), (2, xI (x2))]) (xsb_of ⟨rfl, rfl, trivial⟩ (show [0, 1, 2].Nodup by decide)) ?_
    exact k216_84 hr17 hx2 h
  · rw [if_neg c115] at h
    refine xe_alr (ins := .aload_n 0) (len := 1) (i := 0) (by decide +kernel) rfl rfl rfl rfl rfl ?_
    refine xe_ldn (ins := .iload_n 2) (len := 1) (by decide +kernel) rfl rfl rfl rfl ?_
    obtain ⟨_, e117, h⟩ := xbind h
    obtain ⟨R118, e116, h⟩ := xbind h
    refine xs_cv (i := 39) (j := 209) (ar := [xI (x2)]) (rest := []) (r2 := xr_209) (by decide +kernel) (by decide +kernel) (by decide +kernel) xr_209_e rfl (by decide) (by decide) e117 ?_
    refine xc_i (k209 (d := d + 1) hx2 e116) rfl (fun hi119 => ?_)
    obtain ⟨R121, e120, h⟩ := xbind h
    refine xs_cs (kd := 2) (by decide) (i := 49) (j := 206) (ar := [xI (R118.1)]) (rest := []) (r2 := xr_206) (by decide +kernel) (by decide +kernel) (by decide +kernel) xr_206_e rfl (by decide) ?_
    refine xc_i (k206 (d := d + 1) hi119 e120) rfl (fun hi122 => ?_)
    refine xe_ifeq (off := 7) (t := 84) (by decide +kernel) (by decide) rfl hi122 (fun c123 => ?_) (fun c123 => ?_)
    · rw [if_pos c123] at h
      refine xW_lv rfl (l := [(0, xV (x0)), (2, xI (x2))]) (xsb_of ⟨rfl, rfl, trivial⟩ (show [0, 1, 2].Nodup by decide)) ?_
      exact k216_84 hr17 hx2 h
    · rw [if_neg c123] at h
      refine xe_iconst (n := 1) (by decide +kernel) rfl ?_
      refine xe_goto (off := 4) (nx := 85) (by decide +kernel) (by decide) ?_
      refine xW_lv rfl (l := [(0, xV (x0)), (2, xI (x2))]) (xsb_of ⟨rfl, rfl, trivial⟩ (show [0, 1, 2].Nodup by decide)) ?_
      exact k216_85 hr17 hx2 (by decide) h
def f216_49 (r17 : Nat → Int → Int → xj_M → Option (xj_M)) (f : Nat) (x0 : Nat) (x1 : Int) (x2 : Int) (M : xj_M) : Option (xj_M) := ((xq_gi 15 4 (x0) M).bind fun v124 => (if ¬ (x2) = (xwr ((v124) + (12))) then f216_65 r17 f (x0) (x1) (x2) M else ((xq_pi 15 6 (x0) (x2) M).bind fun M127 => f216_65 r17 f (x0) (x1) (x2) M127)))
theorem k216_49 {d f : Nat} {r17 : Nat → Int → Int → xj_M → Option (xj_M)} (hr17 : ∀ {x0 : Nat} {x1 : Int} {x2 : Int} {M : xj_M} {R : xj_M}, xin x1 → xin x2 → r17 x0 x1 x2 M = some R → xW (d + 2) (none, d + 2, none) xr_216 (17, [(0, xV x0), (1, xI x1), (2, xI x2)], [], M) (xQv R)) {x0 : Nat} {x1 : Int} {x2 : Int} {M : xj_M} {R : xj_M} (hx1 : xin x1) (hx2 : xin x2) (h : f216_49 r17 f x0 x1 x2 M = some R) : xW (d + 2) (none, d + 2, none) xr_216 (49, [(0, xV x0), (1, xI x1), (2, xI x2)], [], M) (xQv R) := by
  unfold f216_49 at h
  refine xe_ldn (ins := .iload_n 2) (len := 1) (by decide +kernel) rfl rfl rfl rfl ?_
  refine xe_alr (ins := .aload_n 0) (len := 1) (i := 0) (by decide +kernel) rfl rfl rfl rfl rfl ?_
  obtain ⟨v124, e125, h⟩ := xbind h
  refine xs_gi (i := 43) (c := 15) (k := 4) (by decide +kernel) (by decide) (by decide +kernel) e125 rfl ?_
  refine xe_bipush (n := 12) (by decide +kernel) (by decide) rfl ?_
  refine xe_iadd (by decide +kernel) rfl ?_
  refine xe_icmpne (off := 8) (t := 65) (by decide +kernel) (by decide) rfl hx2 (xin_wr _) (fun c126 => ?_) (fun c126 => ?_)
  · rw [if_pos c126] at h
    refine xW_lv rfl (l := [(0, xV (x0)), (1, xI (x1)), (2, xI (x2))]) (xsb_of ⟨rfl, rfl, rfl, trivial⟩ (show [0, 1, 2].Nodup by decide)) ?_
    exact k216_65 hr17 hx1 hx2 h
  · rw [if_neg c126] at h
    refine xe_alr (ins := .aload_n 0) (len := 1) (i := 0) (by decide +kernel) rfl rfl rfl rfl rfl ?_
    refine xe_ldn (ins := .iload_n 2) (len := 1) (by decide +kernel) rfl rfl rfl rfl ?_
    obtain ⟨M127, e128, h⟩ := xbind h
    refine xs_p (i := 32) (c := 15) (k := 6) (by decide +kernel) (by decide +kernel) (by decide +kernel) e128 rfl ?_
    refine xW_lv rfl (l := [(0, xV (x0)), (1, xI (x1)), (2, xI (x2))]) (xsb_of ⟨rfl, rfl, rfl, trivial⟩ (show [0, 1, 2].Nodup by decide)) ?_
    exact k216_65 hr17 hx1 hx2 h
def f216_149  (f : Nat)  (M : xj_M) : Option (xj_M) := (some M)
theorem k216_149 {d f : Nat}    {M : xj_M} {R : xj_M}  (h : f216_149  f  M = some R) : xW (d + 2) (none, d + 2, none) xr_216 (149, [], [], M) (xQv R) := by
  unfold f216_149 at h
  cases h
  exact xe_ret_v (by decide +kernel) rfl ⟨rfl, rfl⟩
def f216_201 (r157 : Nat → Int → Int → xj_M → Option (xj_M)) (f : Nat) (x0 : Nat) (x2 : Int) (x3 : Int) (y0 : Int) (y1 : Int) (y2 : Nat) (M : xj_M) : Option (xj_M) := ((xq_pl 15 10 (y2) (xwl ((y1) + (y0))) M).bind fun M129 => r157 (x0) (x2) (xwr ((x3) + (1))) M129)
theorem k216_201 {d f : Nat} {r157 : Nat → Int → Int → xj_M → Option (xj_M)} (hr157 : ∀ {x0 : Nat} {x2 : Int} {x3 : Int} {M : xj_M} {R : xj_M}, xin x2 → xin x3 → r157 x0 x2 x3 M = some R → xW (d + 2) (none, d + 2, none) xr_216 (157, [(0, xV x0), (2, xI x2), (3, xI x3)], [], M) (xQv R)) {x0 : Nat} {x2 : Int} {x3 : Int} {y0 : Int} {y1 : Int} {y2 : Nat} {M : xj_M} {R : xj_M} (hx2 : xin x2) (hx3 : xin x3) (hy0 : xin y0) (hy1 : xiN y1) (h : f216_201 r157 f x0 x2 x3 y0 y1 y2 M = some R) : xW (d + 2) (none, d + 2, none) xr_216 (201, [(0, xV x0), (2, xI x2), (3, xI x3)], [xI y0, xZ y1, xV y2], M) (xQv R) := by
  unfold f216_201 at h
  refine xe_i2l (by decide +kernel) rfl hy0 ?_
  refine xe_ladd (by decide +kernel) rfl ?_
  obtain ⟨M129, e130, h⟩ := xbind h
  refine xs_p (i := 82) (c := 15) (k := 10) (by decide +kernel) (by decide +kernel) (by decide +kernel) e130 rfl ?_
  refine xe_iincr (i := 3) (n := 1) (by decide +kernel) (by decide) rfl (xk_k (show ¬ (0 : Nat) = 3 by decide) (Or.inl (show ¬ (0 + 1 : Nat) = 3 by decide)) (xk_k (show ¬ (2 : Nat) = 3 by decide) (Or.inr (xI_cat _)) (xk_d rfl xk_n))) rfl ?_
  refine xe_goto (off := -52) (nx := 157) (by decide +kernel) (by decide) ?_
  refine xW_lv rfl (l := [(0, xV (x0)), (2, xI (x2)), (3, xI (xwr ((x3) + (1))))]) (xsb_of ⟨rfl, rfl, rfl, trivial⟩ (show [3, 0, 2].Nodup by decide)) ?_
  exact hr157 hx2 (xin_wr _) h
def f216_157b (r157 : Nat → Int → Int → xj_M → Option (xj_M)) (f : Nat) (x0 : Nat) (x2 : Int) (x3 : Int) (M : xj_M) : Option (xj_M) := (if (8) ≤ (x3) then ((xq_gl 15 10 (x0) M).bind fun v132 => ((xq_pl 15 10 (x0) (xwl ((v132) + (2000000000000))) M).bind fun M134 => (some M134))) else ((xq_gl 15 10 (x0) M).bind fun v136 => ((xq_gi 15 4 (x0) M).bind fun v138 => (if (x2) ≤ (xwr ((v138) + (x3))) then f216_201 r157 f (x0) (x2) (x3) (0) (xwl ((27) * (v136))) (x0) M else ((xq_gi 15 4 (x0) M).bind fun v141 => ((xq_is 15 (x0) M).bind fun _ => ((f209 f (x0) (xwr ((v141) + (x3))) M).bind fun R145 => f216_201 r157 f (x0) (x2) (x3) (xwr ((xwr ((R145.1) - (97))) + (1))) (xwl ((27) * (v136))) (x0) R145.2)))))))
theorem k216_157b {d f : Nat} {r157 : Nat → Int → Int → xj_M → Option (xj_M)} (hr157 : ∀ {x0 : Nat} {x2 : Int} {x3 : Int} {M : xj_M} {R : xj_M}, xin x2 → xin x3 → r157 x0 x2 x3 M = some R → xW (d + 2) (none, d + 2, none) xr_216 (157, [(0, xV x0), (2, xI x2), (3, xI x3)], [], M) (xQv R)) {x0 : Nat} {x2 : Int} {x3 : Int} {M : xj_M} {R : xj_M} (hx2 : xin x2) (hx3 : xin x3) (h : f216_157b r157 f x0 x2 x3 M = some R) : xW (d + 2) (none, d + 2, none) xr_216 (157, [(0, xV x0), (2, xI x2), (3, xI x3)], [], M) (xQv R) := by
  unfold f216_157b at h
  refine xe_ldn (ins := .iload_n 3) (len := 1) (by decide +kernel) rfl rfl rfl rfl ?_
  refine xe_bipush (n := 8) (by decide +kernel) (by decide) rfl ?_
  refine xe_icmpge (off := 52) (t := 212) (by decide +kernel) (by decide) rfl hx3 (by decide) (fun c131 => ?_) (fun c131 => ?_)
  · rw [if_pos c131] at h
    refine xe_alr (ins := .aload_n 0) (len := 1) (i := 0) (by decide +kernel) rfl rfl rfl rfl rfl ?_
    refine xe_dupr (by decide +kernel) rfl ?_
    obtain ⟨v132, e133, h⟩ := xbind h
    refine xs_gl (i := 82) (c := 15) (k := 10) (by decide +kernel) (by decide) (by decide +kernel) e133 rfl ?_
    refine xe_ldc2 (i := 87) (n := 2000000000000) (by decide +kernel) (by decide +kernel) rfl ?_
    refine xe_ladd (by decide +kernel) rfl ?_
    obtain ⟨M134, e135, h⟩ := xbind h
    refine xs_p (i := 82) (c := 15) (k := 10) (by decide +kernel) (by decide +kernel) (by decide +kernel) e135 rfl ?_
    cases h
    exact xe_ret_v (by decide +kernel) rfl ⟨rfl, rfl⟩
  · rw [if_neg c131] at h
    refine xe_alr (ins := .aload_n 0) (len := 1) (i := 0) (by decide +kernel) rfl rfl rfl rfl rfl ?_
    refine xe_ldc2 (i := 85) (n := 27) (by decide +kernel) (by decide +kernel) rfl ?_
    refine xe_alr (ins := .aload_n 0) (len := 1) (i := 0) (by decide +kernel) rfl rfl rfl rfl rfl ?_
    obtain ⟨v136, e137, h⟩ := xbind h
    refine xs_gl (i := 82) (c := 15) (k := 10) (by decide +kernel) (by decide) (by decide +kernel) e137 rfl ?_
    refine xe_lmul (by decide +kernel) rfl ?_
    refine xe_alr (ins := .aload_n 0) (len := 1) (i := 0) (by decide +kernel) rfl rfl rfl rfl rfl ?_
    obtain ⟨v138, e139, h⟩ := xbind h
    refine xs_gi (i := 43) (c := 15) (k := 4) (by decide +kernel) (by decide) (by decide +kernel) e139 rfl ?_
    refine xe_ldn (ins := .iload_n 3) (len := 1) (by decide +kernel) rfl rfl rfl rfl ?_
    refine xe_iadd (by decide +kernel) rfl ?_
    refine xe_ldn (ins := .iload_n 2) (len := 1) (by decide +kernel) rfl rfl rfl rfl ?_
    refine xe_icmpge (off := 21) (t := 200) (by decide +kernel) (by decide) rfl (xin_wr _) hx2 (fun c140 => ?_) (fun c140 => ?_)
    · rw [if_pos c140] at h
      refine xe_iconst (n := 0) (by decide +kernel) rfl ?_
      refine xW_lv rfl (l := [(0, xV (x0)), (2, xI (x2)), (3, xI (x3))]) (xsb_of ⟨rfl, rfl, rfl, trivial⟩ (show [0, 2, 3].Nodup by decide)) ?_
      exact k216_201 hr157 hx2 hx3 (by decide) (xiN_wl _) h
    · rw [if_neg c140] at h
      refine xe_alr (ins := .aload_n 0) (len := 1) (i := 0) (by decide +kernel) rfl rfl rfl rfl rfl ?_
      refine xe_alr (ins := .aload_n 0) (len := 1) (i := 0) (by decide +kernel) rfl rfl rfl rfl rfl ?_
      obtain ⟨v141, e142, h⟩ := xbind h
      refine xs_gi (i := 43) (c := 15) (k := 4) (by decide +kernel) (by decide) (by decide +kernel) e142 rfl ?_
      refine xe_ldn (ins := .iload_n 3) (len := 1) (by decide +kernel) rfl rfl rfl rfl ?_
      refine xe_iadd (by decide +kernel) rfl ?_
      obtain ⟨_, e144, h⟩ := xbind h
      obtain ⟨R145, e143, h⟩ := xbind h
      refine xs_cv (i := 39) (j := 209) (ar := [xI (xwr ((v141) + (x3)))]) (rest := [xZ (xwl ((27) * (v136))), xV (x0)]) (r2 := xr_209) (by decide +kernel) (by decide +kernel) (by decide +kernel) xr_209_e rfl (by decide) (by simp only [List.map_cons, List.map_nil, List.sum_cons, List.sum_nil, xV_cat, xI_cat, xZ_cat]; decide) e144 ?_
      refine xc_i (k209 (d := d + 1) (xin_wr _) e143) rfl (fun hi146 => ?_)
      refine xe_bipush (n := 97) (by decide +kernel) (by decide) rfl ?_
      refine xe_isub (by decide +kernel) rfl ?_
      refine xe_iconst (n := 1) (by decide +kernel) rfl ?_
      refine xe_iadd (by decide +kernel) rfl ?_
      refine xe_goto (off := 4) (nx := 201) (by decide +kernel) (by decide) ?_
      refine xW_lv rfl (l := [(0, xV (x0)), (2, xI (x2)), (3, xI (x3))]) (xsb_of ⟨rfl, rfl, rfl, trivial⟩ (show [0, 2, 3].Nodup by decide)) ?_
      exact k216_201 hr157 hx2 hx3 (xin_wr _) (xiN_wl _) h
def f216_157  (f : Nat) : Nat → Nat → Int → Int → xj_M → Option (xj_M)
  | 0, _, _, _, _ => none
  | n + 1, x0, x2, x3, M => f216_157b  (f216_157  f n) f x0 x2 x3 M
theorem k216_157 {d f : Nat}   : ∀ {n : Nat} {x0 : Nat} {x2 : Int} {x3 : Int} {M : xj_M} {R : xj_M}, xin x2 → xin x3 → f216_157  f n x0 x2 x3 M = some R → xW (d + 2) (none, d + 2, none) xr_216 (157, [(0, xV x0), (2, xI x2), (3, xI x3)], [], M) (xQv R) := by
  intro n
  induction n with
  | zero => intros; rename_i h; cases h
  | succ n ih => intros; rename_i h; exact k216_157b  ih (by assumption) (by assumption) h
def f216_17b (r17 : Nat → Int → Int → xj_M → Option (xj_M)) (f : Nat) (x0 : Nat) (x1 : Int) (x2 : Int) (M : xj_M) : Option (xj_M) := ((xq_is 15 (x0) M).bind fun _ => ((f209 f (x0) (x2) M).bind fun R149 => ((f206 f (R149.1) R149.2).bind fun R152 => (if ¬ (R152.1) = 0 then f216_49 r17 f (x0) (x1) (x2) R152.2 else ((xq_is 15 (x0) R152.2).bind fun _ => ((f209 f (x0) (x2) R152.2).bind fun R157 => ((f208 f (R157.1) R157.2).bind fun R160 => (if ¬ (R160.1) = 0 then f216_49 r17 f (x0) (x1) (x2) R160.2 else ((xq_is 15 (x0) R160.2).bind fun _ => ((f209 f (x0) (x2) R160.2).bind fun R165 => (if ¬ (R165.1) = (95) then ((xq_pi 15 5 (x0) (x2) R165.2).bind fun M168 => ((xq_pl 15 10 (x0) (-1) M168).bind fun M170 => (if (x1) = 0 then f216_149  f  M170 else ((xq_gi 15 4 (x0) M170).bind fun v173 => (if (xwr ((x2) - (v173))) ≤ (8) then ((xq_pl 15 10 (x0) (0) M170).bind fun M176 => f216_157  f f (x0) (x2) (0) M176) else f216_149  f  M170))))) else f216_49 r17 f (x0) (x1) (x2) R165.2)))))))))))
theorem k216_17b {d f : Nat} {r17 : Nat → Int → Int → xj_M → Option (xj_M)} (hr17 : ∀ {x0 : Nat} {x1 : Int} {x2 : Int} {M : xj_M} {R : xj_M}, xin x1 → xin x2 → r17 x0 x1 x2 M = some R → xW (d + 2) (none, d + 2, none) xr_216 (17, [(0, xV x0), (1, xI x1), (2, xI x2)], [], M) (xQv R)) {x0 : Nat} {x1 : Int} {x2 : Int} {M : xj_M} {R : xj_M} (hx1 : xin x1) (hx2 : xin x2) (h : f216_17b r17 f x0 x1 x2 M = some R) : xW (d + 2) (none, d + 2, none) xr_216 (17, [(0, xV x0), (1, xI x1), (2, xI x2)], [], M) (xQv R) := by
  unfold f216_17b at h
  refine xe_alr (ins := .aload_n 0) (len := 1) (i := 0) (by decide +kernel) rfl rfl rfl rfl rfl ?_
  refine xe_ldn (ins := .iload_n 2) (len := 1) (by decide +kernel) rfl rfl rfl rfl ?_
  obtain ⟨_, e148, h⟩ := xbind h
  obtain ⟨R149, e147, h⟩ := xbind h
  refine xs_cv (i := 39) (j := 209) (ar := [xI (x2)]) (rest := []) (r2 := xr_209) (by decide +kernel) (by decide +kernel) (by decide +kernel) xr_209_e rfl (by decide) (by decide) e148 ?_
  refine xc_i (k209 (d := d + 1) hx2 e147) rfl (fun hi150 => ?_)
  obtain ⟨R152, e151, h⟩ := xbind h
  refine xs_cs (kd := 2) (by decide) (i := 49) (j := 206) (ar := [xI (R149.1)]) (rest := []) (r2 := xr_206) (by decide +kernel) (by decide +kernel) (by decide +kernel) xr_206_e rfl (by decide) ?_
  refine xc_i (k206 (d := d + 1) hi150 e151) rfl (fun hi153 => ?_)
  refine xe_ifne (off := 24) (t := 49) (by decide +kernel) (by decide) rfl hi153 (fun c154 => ?_) (fun c154 => ?_)
  · rw [if_pos c154] at h
    refine xW_lv rfl (l := [(0, xV (x0)), (1, xI (x1)), (2, xI (x2))]) (xsb_of ⟨rfl, rfl, rfl, trivial⟩ (show [0, 1, 2].Nodup by decide)) ?_
    exact k216_49 hr17 hx1 hx2 h
  · rw [if_neg c154] at h
    refine xe_alr (ins := .aload_n 0) (len := 1) (i := 0) (by decide +kernel) rfl rfl rfl rfl rfl ?_
    refine xe_ldn (ins := .iload_n 2) (len := 1) (by decide +kernel) rfl rfl rfl rfl ?_
    obtain ⟨_, e156, h⟩ := xbind h
    obtain ⟨R157, e155, h⟩ := xbind h
    refine xs_cv (i := 39) (j := 209) (ar := [xI (x2)]) (rest := []) (r2 := xr_209) (by decide +kernel) (by decide +kernel) (by decide +kernel) xr_209_e rfl (by decide) (by decide) e156 ?_
    refine xc_i (k209 (d := d + 1) hx2 e155) rfl (fun hi158 => ?_)
    obtain ⟨R160, e159, h⟩ := xbind h
    refine xs_cs (kd := 2) (by decide) (i := 62) (j := 208) (ar := [xI (R157.1)]) (rest := []) (r2 := xr_208) (by decide +kernel) (by decide +kernel) (by decide +kernel) xr_208_e rfl (by decide) ?_
    refine xc_i (k208 (d := d + 1) hi158 e159) rfl (fun hi161 => ?_)
    refine xe_ifne (off := 13) (t := 49) (by decide +kernel) (by decide) rfl hi161 (fun c162 => ?_) (fun c162 => ?_)
    · rw [if_pos c162] at h
      refine xW_lv rfl (l := [(0, xV (x0)), (1, xI (x1)), (2, xI (x2))]) (xsb_of ⟨rfl, rfl, rfl, trivial⟩ (show [0, 1, 2].Nodup by decide)) ?_
      exact k216_49 hr17 hx1 hx2 h
    · rw [if_neg c162] at h
      refine xe_alr (ins := .aload_n 0) (len := 1) (i := 0) (by decide +kernel) rfl rfl rfl rfl rfl ?_
      refine xe_ldn (ins := .iload_n 2) (len := 1) (by decide +kernel) rfl rfl rfl rfl ?_
      obtain ⟨_, e164, h⟩ := xbind h
      obtain ⟨R165, e163, h⟩ := xbind h
      refine xs_cv (i := 39) (j := 209) (ar := [xI (x2)]) (rest := []) (r2 := xr_209) (by decide +kernel) (by decide +kernel) (by decide +kernel) xr_209_e rfl (by decide) (by decide) e164 ?_
      refine xc_i (k209 (d := d + 1) hx2 e163) rfl (fun hi166 => ?_)
      refine xe_bipush (n := 95) (by decide +kernel) (by decide) rfl ?_
      refine xe_icmpne (off := 76) (t := 122) (by decide +kernel) (by decide) rfl hi166 (by decide) (fun c167 => ?_) (fun c167 => ?_)
      · rw [if_pos c167] at h
        refine xe_alr (ins := .aload_n 0) (len := 1) (i := 0) (by decide +kernel) rfl rfl rfl rfl rfl ?_
        refine xe_ldn (ins := .iload_n 2) (len := 1) (by decide +kernel) rfl rfl rfl rfl ?_
        obtain ⟨M168, e169, h⟩ := xbind h
        refine xs_p (i := 14) (c := 15) (k := 5) (by decide +kernel) (by decide +kernel) (by decide +kernel) e169 rfl ?_
        refine xe_alr (ins := .aload_n 0) (len := 1) (i := 0) (by decide +kernel) rfl rfl rfl rfl rfl ?_
        refine xe_ldc2 (i := 80) (n := -1) (by decide +kernel) (by decide +kernel) rfl ?_
        obtain ⟨M170, e171, h⟩ := xbind h
        refine xs_p (i := 82) (c := 15) (k := 10) (by decide +kernel) (by decide +kernel) (by decide +kernel) e171 rfl ?_
        refine xe_ldn (ins := .iload_n 1) (len := 1) (by decide +kernel) rfl rfl rfl rfl ?_
        refine xe_ifeq (off := 14) (t := 149) (by decide +kernel) (by decide) rfl hx1 (fun c172 => ?_) (fun c172 => ?_)
        · rw [if_pos c172] at h
          refine xW_lv rfl (l := []) (xsb_of trivial (show [0, 1, 2].Nodup by decide)) ?_
          exact k216_149   h
        · rw [if_neg c172] at h
          refine xe_ldn (ins := .iload_n 2) (len := 1) (by decide +kernel) rfl rfl rfl rfl ?_
          refine xe_alr (ins := .aload_n 0) (len := 1) (i := 0) (by decide +kernel) rfl rfl rfl rfl rfl ?_
          obtain ⟨v173, e174, h⟩ := xbind h
          refine xs_gi (i := 43) (c := 15) (k := 4) (by decide +kernel) (by decide) (by decide +kernel) e174 rfl ?_
          refine xe_isub (by decide +kernel) rfl ?_
          refine xe_bipush (n := 8) (by decide +kernel) (by decide) rfl ?_
          refine xe_icmple (off := 4) (t := 150) (by decide +kernel) (by decide) rfl (xin_wr _) (by decide) (fun c175 => ?_) (fun c175 => ?_)
          · rw [if_pos c175] at h
            refine xe_alr (ins := .aload_n 0) (len := 1) (i := 0) (by decide +kernel) rfl rfl rfl rfl rfl ?_
            refine xe_lconst (n := 0) (z := 0) (by decide +kernel) rfl rfl ?_
            obtain ⟨M176, e177, h⟩ := xbind h
            refine xs_p (i := 82) (c := 15) (k := 10) (by decide +kernel) (by decide +kernel) (by decide +kernel) e177 rfl ?_
            refine xe_iconst (n := 0) (by decide +kernel) rfl ?_
            refine xe_isr (ins := .istore_n 3) (len := 1) (i := 3) (by decide +kernel) rfl rfl rfl (by decide) (xk_k (show ¬ (0 : Nat) = 3 by decide) (Or.inl (show ¬ (0 + 1 : Nat) = 3 by decide)) (xk_k (show ¬ (1 : Nat) = 3 by decide) (Or.inl (show ¬ (1 + 1 : Nat) = 3 by decide)) (xk_k (show ¬ (2 : Nat) = 3 by decide) (Or.inr (xI_cat _)) xk_n))) rfl ?_
            refine xW_lv rfl (l := [(0, xV (x0)), (2, xI (x2)), (3, xI (0))]) (xsb_of ⟨rfl, rfl, rfl, trivial⟩ (show [3, 0, 1, 2].Nodup by decide)) ?_
            exact k216_157  hx2 (by decide) h
          · rw [if_neg c175] at h
            refine xW_lv rfl (l := []) (xsb_of trivial (show [0, 1, 2].Nodup by decide)) ?_
            exact k216_149   h
      · rw [if_neg c167] at h
        refine xW_lv rfl (l := [(0, xV (x0)), (1, xI (x1)), (2, xI (x2))]) (xsb_of ⟨rfl, rfl, rfl, trivial⟩ (show [0, 1, 2].Nodup by decide)) ?_
        exact k216_49 hr17 hx1 hx2 h
def f216_17  (f : Nat) : Nat → Nat → Int → Int → xj_M → Option (xj_M)
  | 0, _, _, _, _ => none
  | n + 1, x0, x1, x2, M => f216_17b  (f216_17  f n) f x0 x1 x2 M
theorem k216_17 {d f : Nat}   : ∀ {n : Nat} {x0 : Nat} {x1 : Int} {x2 : Int} {M : xj_M} {R : xj_M}, xin x1 → xin x2 → f216_17  f n x0 x1 x2 M = some R → xW (d + 2) (none, d + 2, none) xr_216 (17, [(0, xV x0), (1, xI x1), (2, xI x2)], [], M) (xQv R) := by
  intro n
  induction n with
  | zero => intros; rename_i h; cases h
  | succ n ih => intros; rename_i h; exact k216_17b  ih (by assumption) (by assumption) h
def f216 (f : Nat) (a0 : Nat) (M : xj_M) : Option (xj_M) := ((xq_pi 15 2 (a0) (2) M).bind fun M178 => ((xq_pl 15 9 (a0) (0) M178).bind fun M180 => ((xq_gi 15 4 (a0) M180).bind fun v182 => f216_17  f f (a0) (1) (v182) M180)))
theorem k216 {d f : Nat} {a0 : Nat} {M : xj_M} {R : xj_M}  (h : f216 f a0 M = some R) : xT (d + 3) 216 [xV a0] M (xQv R) := by
  refine xT_m xr_216_e (X := (none, d + 2, none)) rfl (xa_1 (xV_cat _) xa_n) (by decide) ?_
  unfold f216 at h
  refine xe_alr (ins := .aload_n 0) (len := 1) (i := 0) (by decide +kernel) rfl rfl rfl rfl rfl ?_
  refine xe_iconst (n := 2) (by decide +kernel) rfl ?_
  obtain ⟨M178, e179, h⟩ := xbind h
  refine xs_p (i := 46) (c := 15) (k := 2) (by decide +kernel) (by decide +kernel) (by decide +kernel) e179 rfl ?_
  refine xe_alr (ins := .aload_n 0) (len := 1) (i := 0) (by decide +kernel) rfl rfl rfl rfl rfl ?_
  refine xe_lconst (n := 0) (z := 0) (by decide +kernel) rfl rfl ?_
  obtain ⟨M180, e181, h⟩ := xbind h
  refine xs_p (i := 71) (c := 15) (k := 9) (by decide +kernel) (by decide +kernel) (by decide +kernel) e181 rfl ?_
  refine xe_iconst (n := 1) (by decide +kernel) rfl ?_
  refine xe_isr (ins := .istore_n 1) (len := 1) (i := 1) (by decide +kernel) rfl rfl rfl (by decide) (xk_k (show ¬ (0 : Nat) = 1 by decide) (Or.inr (xV_cat _)) xk_n) rfl ?_
  refine xe_alr (ins := .aload_n 0) (len := 1) (i := 0) (by decide +kernel) rfl rfl rfl rfl rfl ?_
  obtain ⟨v182, e183, h⟩ := xbind h
  refine xs_gi (i := 43) (c := 15) (k := 4) (by decide +kernel) (by decide) (by decide +kernel) e183 rfl ?_
  refine xe_isr (ins := .istore_n 2) (len := 1) (i := 2) (by decide +kernel) rfl rfl rfl (by decide) (xk_k (show ¬ (1 : Nat) = 2 by decide) (Or.inr (xI_cat _)) (xk_k (show ¬ (0 : Nat) = 2 by decide) (Or.inl (show ¬ (0 + 1 : Nat) = 2 by decide)) xk_n)) rfl ?_
  refine xW_lv rfl (l := [(0, xV (a0)), (1, xI (1)), (2, xI (v182))]) (xsb_of ⟨rfl, rfl, rfl, trivial⟩ (show [2, 1, 0].Nodup by decide)) ?_
  exact k216_17  (by decide) (xq_gi_in e183) h
