/-! Mirrors (written by mk_mir.py) -/
-- ChangeHouseModel.isTooMuch
def xr_269 : xj_mR := (15, yX15_isTooMuch, cX15_isTooMuch, 4, (Option.some Jvm.ClassFile.FieldType.boolean), 2, false, (9, 201), (1, 12))
set_option maxRecDepth 20000 in
theorem xr_269_e : xj_row 269 = some xr_269 := rfl
def f269_27   (f : Nat) (y0 : Int) (M : xj_M) : Option (Int × xj_M) := (if (y0) = 0 ∨ (y0) = 1 then some (y0, M) else none)
theorem k269_27 {d f : Nat}     {y0 : Int} {M : xj_M} {R : Int × xj_M} (hy0 : xin y0) (h : f269_27   f y0 M = some R) : xW (d + 0) (none, d + 0, none) xr_269 (27, [], [xI y0], M) (xQi R) := by
  unfold f269_27 at h
  by_cases c101 : (y0) = 0 ∨ (y0) = 1
  · rw [if_pos c101] at h; cases h; exact xe_ret_i (ty := .boolean) (by decide +kernel) rfl (xbool c101) ⟨rfl, rfl, hy0⟩
  · rw [if_neg c101] at h; cases h
def f269_26   (f : Nat)  (M : xj_M) : Option (Int × xj_M) := f269_27   f (0) M
theorem k269_26 {d f : Nat}      {M : xj_M} {R : Int × xj_M}  (h : f269_26   f  M = some R) : xW (d + 0) (none, d + 0, none) xr_269 (26, [], [], M) (xQi R) := by
  unfold f269_26 at h
  refine xe_iconst (n := 0) (by decide +kernel) rfl ?_
  refine xW_lv rfl (l := []) (xsb_of trivial (show [].Nodup by decide)) ?_
  exact k269_27   (show xin (0) by decide) h
def f269  (f : Nat) (a0 : Int) (a1 : Int) (M : xj_M) : Option (Int × xj_M) := (if (a0) = (0) then f269_26   f  M else (if (xabs8 (a0)) = 0 then none else (if (xabs8 (a1)) ≤ (xdiv8 (1000000000000) (xabs8 (a0))) then f269_26   f  M else f269_27   f (1) M)))
theorem k269 {d f : Nat}   {a0 : Int} {a1 : Int} {M : xj_M} {R : Int × xj_M} (ha0 : xiN a0) (ha1 : xiN a1) (h : f269  f a0 a1 M = some R) : xT (d + 1) 269 [xZ a0, xZ a1] M (xQi R) := by
  refine xT_m xr_269_e (X := (none, d + 0, none)) rfl (xa_2 (xZ_cat _) (xa_2 (xZ_cat _) xa_n)) (by decide) ?_
  unfold f269 at h
  refine xe_ldn (ins := .lload_n 0) (len := 1) (by decide +kernel) rfl rfl rfl rfl ?_
  refine xe_lconst (n := 0) (z := 0) (by decide +kernel) rfl rfl ?_
  refine xe_lcmp (by decide +kernel) rfl ha0 (show xiN (0) by decide) ?_
  refine xe_ifeq (off := 23) (t := 26) (by decide +kernel) (by decide) rfl (xin_cmp8 _ _) (fun c102 => ?_) (fun c102 => ?_)
  · have c102 := xcmp8_eq.mp c102; rw [if_pos c102] at h
    refine xW_lv rfl (l := []) (xsb_of trivial (show [0, 2].Nodup by decide)) ?_
    exact k269_26    h
  · have c102 := (not_congr xcmp8_eq).mp c102; rw [if_neg c102] at h
    refine xe_ldn (ins := .lload_n 2) (len := 1) (by decide +kernel) rfl rfl rfl rfl ?_
    refine xe_xabl (i := 475) (by decide +kernel) (by decide +kernel) (by decide +kernel) (by rfl) rfl ha1 ?_
    refine xe_ldc2 (i := 103) (n := 1000000000000) (by decide +kernel) (by decide +kernel) rfl ?_
    refine xe_ldn (ins := .lload_n 0) (len := 1) (by decide +kernel) rfl rfl rfl rfl ?_
    refine xe_xabl (i := 475) (by decide +kernel) (by decide +kernel) (by decide +kernel) (by rfl) rfl ha0 ?_
    by_cases c103 : (xabs8 (a0)) = 0
    · rw [if_pos c103] at h; cases h
    rw [if_neg c103] at h
    refine xe_ldiv (by decide +kernel) rfl (xabs8_iN ha0) c103 ?_
    refine xe_lcmp (by decide +kernel) rfl (xabs8_iN ha1) (xiN_of _) ?_
    refine xe_ifle (off := 7) (t := 26) (by decide +kernel) (by decide) rfl (xin_cmp8 _ _) (fun c104 => ?_) (fun c104 => ?_)
    · have c104 := xcmp8_le.mp c104; rw [if_pos c104] at h
      refine xW_lv rfl (l := []) (xsb_of trivial (show [0, 2].Nodup by decide)) ?_
      exact k269_26    h
    · have c104 := (not_congr xcmp8_le).mp c104; rw [if_neg c104] at h
      refine xe_iconst (n := 1) (by decide +kernel) rfl ?_
      refine xe_goto (off := 4) (nx := 27) (by decide +kernel) (by decide) ?_
      refine xW_lv rfl (l := []) (xsb_of trivial (show [0, 2].Nodup by decide)) ?_
      exact k269_27   (show xin (1) by decide) h
-- ChangeHouseModel.isBound
def xr_270 : xj_mR := (15, yX15_isBound, cX15_isBound, 2, (Option.some Jvm.ClassFile.FieldType.boolean), 1, false, (9, 187), (1, 12))
set_option maxRecDepth 20000 in
theorem xr_270_e : xj_row 270 = some xr_270 := rfl
def f270_17   (f : Nat) (y0 : Int) (M : xj_M) : Option (Int × xj_M) := (if (y0) = 0 ∨ (y0) = 1 then some (y0, M) else none)
theorem k270_17 {d f : Nat}     {y0 : Int} {M : xj_M} {R : Int × xj_M} (hy0 : xin y0) (h : f270_17   f y0 M = some R) : xW (d + 0) (none, d + 0, none) xr_270 (17, [], [xI y0], M) (xQi R) := by
  unfold f270_17 at h
  by_cases c101 : (y0) = 0 ∨ (y0) = 1
  · rw [if_pos c101] at h; cases h; exact xe_ret_i (ty := .boolean) (by decide +kernel) rfl (xbool c101) ⟨rfl, rfl, hy0⟩
  · rw [if_neg c101] at h; cases h
def f270  (f : Nat) (a0 : Nat) (a1 : Int) (M : xj_M) : Option (Int × xj_M) := ((xq_gi 15 37 (a0) M).bind fun v102 => (if ¬ (xand (xshr (v102) (a1)) (1)) = (1) then f270_17   f (0) M else f270_17   f (1) M))
theorem k270 {d f : Nat}   {a0 : Nat} {a1 : Int} {M : xj_M} {R : Int × xj_M} (ha1 : xin a1) (h : f270  f a0 a1 M = some R) : xT (d + 1) 270 [xR_ a0, xI a1] M (xQi R) := by
  refine xT_m xr_270_e (X := (none, d + 0, none)) rfl (xa_1 (xR_cat _) (xa_1 (xI_cat _) xa_n)) (by decide) ?_
  unfold f270 at h
  refine xe_alr (ins := .aload_n 0) (len := 1) (i := 0) (by decide +kernel) rfl rfl rfl rfl rfl ?_
  obtain ⟨v102, e103, h⟩ := xbnd h
  refine xs_gi (i := 479) (c := 15) (k := 37) (by decide +kernel) (by decide) (by decide +kernel) e103 rfl ?_
  refine xe_ldn (ins := .iload_n 1) (len := 1) (by decide +kernel) rfl rfl rfl rfl ?_
  refine xe_ishr (by decide +kernel) rfl ?_
  refine xe_iconst (n := 1) (by decide +kernel) rfl ?_
  refine xe_iand (by decide +kernel) rfl ?_
  refine xe_iconst (n := 1) (by decide +kernel) rfl ?_
  refine xe_icmpne (off := 7) (t := 16) (by decide +kernel) (by decide) rfl (xin_of _) (show xin (1) by decide) (fun c104 => ?_) (fun c104 => ?_)
  · rw [if_pos c104] at h
    refine xe_iconst (n := 0) (by decide +kernel) rfl ?_
    refine xW_lv rfl (l := []) (xsb_of trivial (show [0, 1].Nodup by decide)) ?_
    exact k270_17   (show xin (0) by decide) h
  · rw [if_neg c104] at h
    refine xe_iconst (n := 1) (by decide +kernel) rfl ?_
    refine xe_goto (off := 4) (nx := 17) (by decide +kernel) (by decide) ?_
    refine xW_lv rfl (l := []) (xsb_of trivial (show [0, 1].Nodup by decide)) ?_
    exact k270_17   (show xin (1) by decide) h
-- ChangeHouseModel.isOpen
def xr_271 : xj_mR := (15, yX15_isOpen, cX15_isOpen, 3, (Option.some Jvm.ClassFile.FieldType.boolean), 2, false, (10, 8), (1, 12))
set_option maxRecDepth 20000 in
theorem xr_271_e : xj_row 271 = some xr_271 := rfl
def f271_48   (f : Nat) (y0 : Int) (M : xj_M) : Option (Int × xj_M) := (if (y0) = 0 ∨ (y0) = 1 then some (y0, M) else none)
theorem k271_48 {d f : Nat}     {y0 : Int} {M : xj_M} {R : Int × xj_M} (hy0 : xin y0) (h : f271_48   f y0 M = some R) : xW (d + 0) (none, d + 0, none) xr_271 (48, [], [xI y0], M) (xQi R) := by
  unfold f271_48 at h
  by_cases c101 : (y0) = 0 ∨ (y0) = 1
  · rw [if_pos c101] at h; cases h; exact xe_ret_i (ty := .boolean) (by decide +kernel) rfl (xbool c101) ⟨rfl, rfl, hy0⟩
  · rw [if_neg c101] at h; cases h
def f271_43   (f : Nat)  (M : xj_M) : Option (Int × xj_M) := f271_48   f (1) M
theorem k271_43 {d f : Nat}      {M : xj_M} {R : Int × xj_M}  (h : f271_43   f  M = some R) : xW (d + 0) (none, d + 0, none) xr_271 (43, [], [], M) (xQi R) := by
  unfold f271_43 at h
  refine xe_iconst (n := 1) (by decide +kernel) rfl ?_
  refine xe_goto (off := 4) (nx := 48) (by decide +kernel) (by decide) ?_
  refine xW_lv rfl (l := []) (xsb_of trivial (show [].Nodup by decide)) ?_
  exact k271_48   (show xin (1) by decide) h
def f271  (f : Nat) (a0 : Nat) (a1 : Int) (a2 : Int) (M : xj_M) : Option (Int × xj_M) := ((xq_gi 15 40 (a0) M).bind fun v102 => (if (v102) = (-1) then f271_43   f  M else ((xq_gr 15 29 (a0) M).bind fun v105 => ((xq_gr 14 4 (v105) M).bind fun v107 => ((xq_ai 3 (v107) (a1) M).bind fun v109 => ((xq_gi 15 40 (a0) M).bind fun v111 => (if ¬ (v109) = (v111) then f271_43   f  M else ((xq_gr 15 34 (a0) M).bind fun v114 => ((xq_ai 3 (v114) (xwr ((xwr ((a1) * (520))) + (a2))) M).bind fun v116 => ((xq_gi 15 41 (a0) M).bind fun v118 => (if (v118) ≤ (v116) then f271_48   f (0) M else f271_43   f  M)))))))))))
theorem k271 {d f : Nat}   {a0 : Nat} {a1 : Int} {a2 : Int} {M : xj_M} {R : Int × xj_M} (ha1 : xin a1) (ha2 : xin a2) (h : f271  f a0 a1 a2 M = some R) : xT (d + 1) 271 [xR_ a0, xI a1, xI a2] M (xQi R) := by
  refine xT_m xr_271_e (X := (none, d + 0, none)) rfl (xa_1 (xR_cat _) (xa_1 (xI_cat _) (xa_1 (xI_cat _) xa_n))) (by decide) ?_
  unfold f271 at h
  refine xe_alr (ins := .aload_n 0) (len := 1) (i := 0) (by decide +kernel) rfl rfl rfl rfl rfl ?_
  obtain ⟨v102, e103, h⟩ := xbnd h
  refine xs_gi (i := 482) (c := 15) (k := 40) (by decide +kernel) (by decide) (by decide +kernel) e103 rfl ?_
  refine xe_iconst (n := -1) (by decide +kernel) rfl ?_
  refine xe_icmpeq (off := 38) (t := 43) (by decide +kernel) (by decide) rfl (xq_gi_in e103) (show xin (-1) by decide) (fun c104 => ?_) (fun c104 => ?_)
  · rw [if_pos c104] at h
    refine xW_lv rfl (l := []) (xsb_of trivial (show [0, 1, 2].Nodup by decide)) ?_
    exact k271_43    h
  · rw [if_neg c104] at h
    refine xe_alr (ins := .aload_n 0) (len := 1) (i := 0) (by decide +kernel) rfl rfl rfl rfl rfl ?_
    obtain ⟨v105, e106, h⟩ := xbnd h
    refine xs_gr (i := 439) (c := 15) (k := 29) (by decide +kernel) (by decide) (by decide +kernel) e106 rfl ?_
    obtain ⟨v107, e108, h⟩ := xbnd h
    refine xs_gr (i := 427) (c := 14) (k := 4) (by decide +kernel) (by decide) (by decide +kernel) e108 rfl ?_
    refine xe_ldn (ins := .iload_n 1) (len := 1) (by decide +kernel) rfl rfl rfl rfl ?_
    obtain ⟨v109, e110, h⟩ := xbnd h
    refine xs_iald rfl (by decide +kernel) ha1 e110 rfl ?_
    refine xe_alr (ins := .aload_n 0) (len := 1) (i := 0) (by decide +kernel) rfl rfl rfl rfl rfl ?_
    obtain ⟨v111, e112, h⟩ := xbnd h
    refine xs_gi (i := 482) (c := 15) (k := 40) (by decide +kernel) (by decide) (by decide +kernel) e112 rfl ?_
    refine xe_icmpne (off := 22) (t := 43) (by decide +kernel) (by decide) rfl (xq_ai_in e110) (xq_gi_in e112) (fun c113 => ?_) (fun c113 => ?_)
    · rw [if_pos c113] at h
      refine xW_lv rfl (l := []) (xsb_of trivial (show [0, 1, 2].Nodup by decide)) ?_
      exact k271_43    h
    · rw [if_neg c113] at h
      refine xe_alr (ins := .aload_n 0) (len := 1) (i := 0) (by decide +kernel) rfl rfl rfl rfl rfl ?_
      obtain ⟨v114, e115, h⟩ := xbnd h
      refine xs_gr (i := 450) (c := 15) (k := 34) (by decide +kernel) (by decide) (by decide +kernel) e115 rfl ?_
      refine xe_ldn (ins := .iload_n 1) (len := 1) (by decide +kernel) rfl rfl rfl rfl ?_
      refine xe_sipush (n := 520) (by decide +kernel) (by decide) rfl ?_
      refine xe_imul (by decide +kernel) rfl ?_
      refine xe_ldn (ins := .iload_n 2) (len := 1) (by decide +kernel) rfl rfl rfl rfl ?_
      refine xe_iadd (by decide +kernel) rfl ?_
      obtain ⟨v116, e117, h⟩ := xbnd h
      refine xs_iald rfl (by decide +kernel) (xin_wr _) e117 rfl ?_
      refine xe_alr (ins := .aload_n 0) (len := 1) (i := 0) (by decide +kernel) rfl rfl rfl rfl rfl ?_
      obtain ⟨v118, e119, h⟩ := xbnd h
      refine xs_gi (i := 485) (c := 15) (k := 41) (by decide +kernel) (by decide) (by decide +kernel) e119 rfl ?_
      refine xe_icmpge (off := 7) (t := 47) (by decide +kernel) (by decide) rfl (xq_ai_in e117) (xq_gi_in e119) (fun c120 => ?_) (fun c120 => ?_)
      · rw [if_pos c120] at h
        refine xe_iconst (n := 0) (by decide +kernel) rfl ?_
        refine xW_lv rfl (l := []) (xsb_of trivial (show [0, 1, 2].Nodup by decide)) ?_
        exact k271_48   (show xin (0) by decide) h
      · rw [if_neg c120] at h
        refine xW_lv rfl (l := []) (xsb_of trivial (show [0, 1, 2].Nodup by decide)) ?_
        exact k271_43    h
-- ChangeHouseModel.fits
def xr_272 : xj_mR := (15, yX15_fits, cX15_fits, 9, (Option.some Jvm.ClassFile.FieldType.boolean), 3, false, (9, 215), (1, 12))
set_option maxRecDepth 20000 in
theorem xr_272_e : xj_row 272 = some xr_272 := rfl
def f272_221  (r3 : Nat → Int → Int → Int → Int → xj_M → Option (Int × xj_M)) (r132 : Nat → Int → Int → Int → Int → Int → Int → Int → xj_M → Option (Int × xj_M)) (f : Nat) (x0 : Nat) (x1 : Int) (x2 : Int) (x3 : Int) (x4 : Int) (x5 : Int) (x6 : Int) (x8 : Int) (M : xj_M) : Option (Int × xj_M) := r132 (x0) (x1) (x2) (x3) (x4) (x5) (x6) (xwr ((x8) + (1))) M
theorem k272_221 {d f : Nat}  {r3 : Nat → Int → Int → Int → Int → xj_M → Option (Int × xj_M)} {r132 : Nat → Int → Int → Int → Int → Int → Int → Int → xj_M → Option (Int × xj_M)}  (hr3 : ∀ {x0 : Nat} {x1 : Int} {x2 : Int} {x3 : Int} {x4 : Int} {M : xj_M} {R : Int × xj_M}, xin x1 → xin x2 → xin x3 → xin x4 → r3 x0 x1 x2 x3 x4 M = some R → xW (d + 1) (none, d + 1, none) xr_272 (3, [(0, xR_ x0), (1, xI x1), (2, xI x2), (3, xI x3), (4, xI x4)], [], M) (xQi R)) (hr132 : ∀ {x0 : Nat} {x1 : Int} {x2 : Int} {x3 : Int} {x4 : Int} {x5 : Int} {x6 : Int} {x8 : Int} {M : xj_M} {R : Int × xj_M}, xin x1 → xin x2 → xin x3 → xin x4 → xin x5 → xiN x6 → xin x8 → r132 x0 x1 x2 x3 x4 x5 x6 x8 M = some R → xW (d + 1) (none, d + 1, none) xr_272 (132, [(0, xR_ x0), (1, xI x1), (2, xI x2), (3, xI x3), (4, xI x4), (5, xI x5), (6, xZ x6), (8, xI x8)], [], M) (xQi R)) {x0 : Nat} {x1 : Int} {x2 : Int} {x3 : Int} {x4 : Int} {x5 : Int} {x6 : Int} {x8 : Int} {M : xj_M} {R : Int × xj_M} (hx1 : xin x1) (hx2 : xin x2) (hx3 : xin x3) (hx4 : xin x4) (hx5 : xin x5) (hx6 : xiN x6) (hx8 : xin x8) (h : f272_221  r3 r132 f x0 x1 x2 x3 x4 x5 x6 x8 M = some R) : xW (d + 1) (none, d + 1, none) xr_272 (221, [(0, xR_ x0), (1, xI x1), (2, xI x2), (3, xI x3), (4, xI x4), (5, xI x5), (6, xZ x6), (8, xI x8)], [], M) (xQi R) := by
  unfold f272_221 at h
  refine xe_iincr (i := 8) (n := 1) (by decide +kernel) (by decide) rfl (xk_k (show ¬ (0 : Nat) = 8 by decide) (Or.inl (show ¬ (0 + 1 : Nat) = 8 by decide)) (xk_k (show ¬ (1 : Nat) = 8 by decide) (Or.inl (show ¬ (1 + 1 : Nat) = 8 by decide)) (xk_k (show ¬ (2 : Nat) = 8 by decide) (Or.inl (show ¬ (2 + 1 : Nat) = 8 by decide)) (xk_k (show ¬ (3 : Nat) = 8 by decide) (Or.inl (show ¬ (3 + 1 : Nat) = 8 by decide)) (xk_k (show ¬ (4 : Nat) = 8 by decide) (Or.inl (show ¬ (4 + 1 : Nat) = 8 by decide)) (xk_k (show ¬ (5 : Nat) = 8 by decide) (Or.inl (show ¬ (5 + 1 : Nat) = 8 by decide)) (xk_k (show ¬ (6 : Nat) = 8 by decide) (Or.inl (show ¬ (6 + 1 : Nat) = 8 by decide)) (xk_d rfl xk_n)))))))) rfl ?_
  refine xe_goto (off := -92) (nx := 132) (by decide +kernel) (by decide) ?_
  refine xW_lv rfl (l := [(0, xR_ (x0)), (1, xI (x1)), (2, xI (x2)), (3, xI (x3)), (4, xI (x4)), (5, xI (x5)), (6, xZ (x6)), (8, xI (xwr ((x8) + (1))))]) (xsb_of ⟨rfl, rfl, rfl, rfl, rfl, rfl, rfl, rfl, trivial⟩ (show [8, 0, 1, 2, 3, 4, 5, 6].Nodup by decide)) ?_
  exact hr132 hx1 hx2 hx3 hx4 hx5 hx6 (xin_wr _) h
def f272_227  (r3 : Nat → Int → Int → Int → Int → xj_M → Option (Int × xj_M)) (f : Nat) (x0 : Nat) (x1 : Int) (x2 : Int) (x3 : Int) (x4 : Int) (M : xj_M) : Option (Int × xj_M) := r3 (x0) (x1) (x2) (x3) (xwr ((x4) + (1))) M
theorem k272_227 {d f : Nat}  {r3 : Nat → Int → Int → Int → Int → xj_M → Option (Int × xj_M)}  (hr3 : ∀ {x0 : Nat} {x1 : Int} {x2 : Int} {x3 : Int} {x4 : Int} {M : xj_M} {R : Int × xj_M}, xin x1 → xin x2 → xin x3 → xin x4 → r3 x0 x1 x2 x3 x4 M = some R → xW (d + 1) (none, d + 1, none) xr_272 (3, [(0, xR_ x0), (1, xI x1), (2, xI x2), (3, xI x3), (4, xI x4)], [], M) (xQi R)) {x0 : Nat} {x1 : Int} {x2 : Int} {x3 : Int} {x4 : Int} {M : xj_M} {R : Int × xj_M} (hx1 : xin x1) (hx2 : xin x2) (hx3 : xin x3) (hx4 : xin x4) (h : f272_227  r3 f x0 x1 x2 x3 x4 M = some R) : xW (d + 1) (none, d + 1, none) xr_272 (227, [(0, xR_ x0), (1, xI x1), (2, xI x2), (3, xI x3), (4, xI x4)], [], M) (xQi R) := by
  unfold f272_227 at h
  refine xe_iincr (i := 4) (n := 1) (by decide +kernel) (by decide) rfl (xk_k (show ¬ (0 : Nat) = 4 by decide) (Or.inl (show ¬ (0 + 1 : Nat) = 4 by decide)) (xk_k (show ¬ (1 : Nat) = 4 by decide) (Or.inl (show ¬ (1 + 1 : Nat) = 4 by decide)) (xk_k (show ¬ (2 : Nat) = 4 by decide) (Or.inl (show ¬ (2 + 1 : Nat) = 4 by decide)) (xk_k (show ¬ (3 : Nat) = 4 by decide) (Or.inr (xI_cat _)) (xk_d rfl xk_n))))) rfl ?_
  refine xe_goto (off := -227) (nx := 3) (by decide +kernel) (by decide) ?_
  refine xW_lv rfl (l := [(0, xR_ (x0)), (1, xI (x1)), (2, xI (x2)), (3, xI (x3)), (4, xI (xwr ((x4) + (1))))]) (xsb_of ⟨rfl, rfl, rfl, rfl, rfl, trivial⟩ (show [4, 0, 1, 2, 3].Nodup by decide)) ?_
  exact hr3 hx1 hx2 hx3 (xin_wr _) h
def f272_132b  (r3 : Nat → Int → Int → Int → Int → xj_M → Option (Int × xj_M)) (r132 : Nat → Int → Int → Int → Int → Int → Int → Int → xj_M → Option (Int × xj_M)) (f : Nat) (x0 : Nat) (x1 : Int) (x2 : Int) (x3 : Int) (x4 : Int) (x5 : Int) (x6 : Int) (x8 : Int) (M : xj_M) : Option (Int × xj_M) := (if (x4) ≤ (x8) then f272_227  r3 f (x0) (x1) (x2) (x3) (x4) M else ((xq_gr 15 29 (x0) M).bind fun v102 => ((xq_gr 14 33 (v102) M).bind fun v104 => ((xq_ai 3 (v104) (x5) M).bind fun v106 => (if ¬ (v106) = (1) then f272_227  r3 f (x0) (x1) (x2) (x3) (x4) M else ((xq_gr 15 29 (x0) M).bind fun v109 => ((xq_gr 14 33 (v109) M).bind fun v111 => ((xq_ai 3 (v111) (xwr ((xwr ((x1) * (4))) + (x8))) M).bind fun v113 => (if ¬ (v113) = (1) then f272_221  r3 r132 f (x0) (x1) (x2) (x3) (x4) (x5) (x6) (x8) M else ((xq_gr 15 29 (x0) M).bind fun v116 => ((xq_gr 14 34 (v116) M).bind fun v118 => ((xq_al (v118) (xwr ((xwr ((x1) * (4))) + (x8))) M).bind fun v120 => ((xq_gr 15 29 (x0) M).bind fun v122 => ((xq_gr 14 34 (v122) M).bind fun v124 => ((xq_al (v124) (x5) M).bind fun v126 => (if ¬ (v120) = (v126) then f272_221  r3 r132 f (x0) (x1) (x2) (x3) (x4) (x5) (x6) (x8) M else ((xq_gr 15 32 (x0) M).bind fun v129 => ((xq_is 15 (x0) M).bind fun _ => ((f261  f (x0) (x2) (x3) M).bind fun R133 => ((xq_al (v129) (xwr ((R133.1) + (x8))) R133.2).bind fun v135 => (if (v135) = (x6) then f272_221  r3 r132 f (x0) (x1) (x2) (x3) (x4) (x5) (x6) (x8) R133.2 else (some (0, R133.2)))))))))))))))))))))))
theorem k272_132b {d f : Nat}  {r3 : Nat → Int → Int → Int → Int → xj_M → Option (Int × xj_M)} {r132 : Nat → Int → Int → Int → Int → Int → Int → Int → xj_M → Option (Int × xj_M)}  (hr3 : ∀ {x0 : Nat} {x1 : Int} {x2 : Int} {x3 : Int} {x4 : Int} {M : xj_M} {R : Int × xj_M}, xin x1 → xin x2 → xin x3 → xin x4 → r3 x0 x1 x2 x3 x4 M = some R → xW (d + 1) (none, d + 1, none) xr_272 (3, [(0, xR_ x0), (1, xI x1), (2, xI x2), (3, xI x3), (4, xI x4)], [], M) (xQi R)) (hr132 : ∀ {x0 : Nat} {x1 : Int} {x2 : Int} {x3 : Int} {x4 : Int} {x5 : Int} {x6 : Int} {x8 : Int} {M : xj_M} {R : Int × xj_M}, xin x1 → xin x2 → xin x3 → xin x4 → xin x5 → xiN x6 → xin x8 → r132 x0 x1 x2 x3 x4 x5 x6 x8 M = some R → xW (d + 1) (none, d + 1, none) xr_272 (132, [(0, xR_ x0), (1, xI x1), (2, xI x2), (3, xI x3), (4, xI x4), (5, xI x5), (6, xZ x6), (8, xI x8)], [], M) (xQi R)) {x0 : Nat} {x1 : Int} {x2 : Int} {x3 : Int} {x4 : Int} {x5 : Int} {x6 : Int} {x8 : Int} {M : xj_M} {R : Int × xj_M} (hx1 : xin x1) (hx2 : xin x2) (hx3 : xin x3) (hx4 : xin x4) (hx5 : xin x5) (hx6 : xiN x6) (hx8 : xin x8) (h : f272_132b  r3 r132 f x0 x1 x2 x3 x4 x5 x6 x8 M = some R) : xW (d + 1) (none, d + 1, none) xr_272 (132, [(0, xR_ x0), (1, xI x1), (2, xI x2), (3, xI x3), (4, xI x4), (5, xI x5), (6, xZ x6), (8, xI x8)], [], M) (xQi R) := by
  unfold f272_132b at h
  refine xe_ldn (ins := .iload 8) (len := 2) (by decide +kernel) rfl rfl rfl rfl ?_
  refine xe_ldn (ins := .iload 4) (len := 2) (by decide +kernel) rfl rfl rfl rfl ?_
  refine xe_icmpge (off := 91) (t := 227) (by decide +kernel) (by decide) rfl hx8 hx4 (fun c101 => ?_) (fun c101 => ?_)
  · rw [if_pos c101] at h
    refine xW_lv rfl (l := [(0, xR_ (x0)), (1, xI (x1)), (2, xI (x2)), (3, xI (x3)), (4, xI (x4))]) (xsb_of ⟨rfl, rfl, rfl, rfl, rfl, trivial⟩ (show [0, 1, 2, 3, 4, 5, 6, 8].Nodup by decide)) ?_
    exact k272_227  hr3 hx1 hx2 hx3 hx4 h
  · rw [if_neg c101] at h
    refine xe_alr (ins := .aload_n 0) (len := 1) (i := 0) (by decide +kernel) rfl rfl rfl rfl rfl ?_
    obtain ⟨v102, e103, h⟩ := xbnd h
    refine xs_gr (i := 439) (c := 15) (k := 29) (by decide +kernel) (by decide) (by decide +kernel) e103 rfl ?_
    obtain ⟨v104, e105, h⟩ := xbnd h
    refine xs_gr (i := 376) (c := 14) (k := 33) (by decide +kernel) (by decide) (by decide +kernel) e105 rfl ?_
    refine xe_ldn (ins := .iload 5) (len := 2) (by decide +kernel) rfl rfl rfl rfl ?_
    obtain ⟨v106, e107, h⟩ := xbnd h
    refine xs_iald rfl (by decide +kernel) hx5 e107 rfl ?_
    refine xe_iconst (n := 1) (by decide +kernel) rfl ?_
    refine xe_icmpne (off := 77) (t := 227) (by decide +kernel) (by decide) rfl (xq_ai_in e107) (show xin (1) by decide) (fun c108 => ?_) (fun c108 => ?_)
    · rw [if_pos c108] at h
      refine xW_lv rfl (l := [(0, xR_ (x0)), (1, xI (x1)), (2, xI (x2)), (3, xI (x3)), (4, xI (x4))]) (xsb_of ⟨rfl, rfl, rfl, rfl, rfl, trivial⟩ (show [0, 1, 2, 3, 4, 5, 6, 8].Nodup by decide)) ?_
      exact k272_227  hr3 hx1 hx2 hx3 hx4 h
    · rw [if_neg c108] at h
      refine xe_alr (ins := .aload_n 0) (len := 1) (i := 0) (by decide +kernel) rfl rfl rfl rfl rfl ?_
      obtain ⟨v109, e110, h⟩ := xbnd h
      refine xs_gr (i := 439) (c := 15) (k := 29) (by decide +kernel) (by decide) (by decide +kernel) e110 rfl ?_
      obtain ⟨v111, e112, h⟩ := xbnd h
      refine xs_gr (i := 376) (c := 14) (k := 33) (by decide +kernel) (by decide) (by decide +kernel) e112 rfl ?_
      refine xe_ldn (ins := .iload_n 1) (len := 1) (by decide +kernel) rfl rfl rfl rfl ?_
      refine xe_iconst (n := 4) (by decide +kernel) rfl ?_
      refine xe_imul (by decide +kernel) rfl ?_
      refine xe_ldn (ins := .iload 8) (len := 2) (by decide +kernel) rfl rfl rfl rfl ?_
      refine xe_iadd (by decide +kernel) rfl ?_
      obtain ⟨v113, e114, h⟩ := xbnd h
      refine xs_iald rfl (by decide +kernel) (xin_wr _) e114 rfl ?_
      refine xe_iconst (n := 1) (by decide +kernel) rfl ?_
      refine xe_icmpne (off := 53) (t := 221) (by decide +kernel) (by decide) rfl (xq_ai_in e114) (show xin (1) by decide) (fun c115 => ?_) (fun c115 => ?_)
      · rw [if_pos c115] at h
        refine xW_lv rfl (l := [(0, xR_ (x0)), (1, xI (x1)), (2, xI (x2)), (3, xI (x3)), (4, xI (x4)), (5, xI (x5)), (6, xZ (x6)), (8, xI (x8))]) (xsb_of ⟨rfl, rfl, rfl, rfl, rfl, rfl, rfl, rfl, trivial⟩ (show [0, 1, 2, 3, 4, 5, 6, 8].Nodup by decide)) ?_
        exact k272_221  hr3 hr132 hx1 hx2 hx3 hx4 hx5 hx6 hx8 h
      · rw [if_neg c115] at h
        refine xe_alr (ins := .aload_n 0) (len := 1) (i := 0) (by decide +kernel) rfl rfl rfl rfl rfl ?_
        obtain ⟨v116, e117, h⟩ := xbnd h
        refine xs_gr (i := 439) (c := 15) (k := 29) (by decide +kernel) (by decide) (by decide +kernel) e117 rfl ?_
        obtain ⟨v118, e119, h⟩ := xbnd h
        refine xs_gr (i := 379) (c := 14) (k := 34) (by decide +kernel) (by decide) (by decide +kernel) e119 rfl ?_
        refine xe_ldn (ins := .iload_n 1) (len := 1) (by decide +kernel) rfl rfl rfl rfl ?_
        refine xe_iconst (n := 4) (by decide +kernel) rfl ?_
        refine xe_imul (by decide +kernel) rfl ?_
        refine xe_ldn (ins := .iload 8) (len := 2) (by decide +kernel) rfl rfl rfl rfl ?_
        refine xe_iadd (by decide +kernel) rfl ?_
        obtain ⟨v120, e121, h⟩ := xbnd h
        refine xs_lald (by decide +kernel) (xin_wr _) e121 rfl ?_
        refine xe_alr (ins := .aload_n 0) (len := 1) (i := 0) (by decide +kernel) rfl rfl rfl rfl rfl ?_
        obtain ⟨v122, e123, h⟩ := xbnd h
        refine xs_gr (i := 439) (c := 15) (k := 29) (by decide +kernel) (by decide) (by decide +kernel) e123 rfl ?_
        obtain ⟨v124, e125, h⟩ := xbnd h
        refine xs_gr (i := 379) (c := 14) (k := 34) (by decide +kernel) (by decide) (by decide +kernel) e125 rfl ?_
        refine xe_ldn (ins := .iload 5) (len := 2) (by decide +kernel) rfl rfl rfl rfl ?_
        obtain ⟨v126, e127, h⟩ := xbnd h
        refine xs_lald (by decide +kernel) hx5 e127 rfl ?_
        refine xe_lcmp (by decide +kernel) rfl (xq_al_in e121) (xq_al_in e127) ?_
        refine xe_ifne (off := 25) (t := 221) (by decide +kernel) (by decide) rfl (xin_cmp8 _ _) (fun c128 => ?_) (fun c128 => ?_)
        · have c128 := xcmp8_ne.mp c128; rw [if_pos c128] at h
          refine xW_lv rfl (l := [(0, xR_ (x0)), (1, xI (x1)), (2, xI (x2)), (3, xI (x3)), (4, xI (x4)), (5, xI (x5)), (6, xZ (x6)), (8, xI (x8))]) (xsb_of ⟨rfl, rfl, rfl, rfl, rfl, rfl, rfl, rfl, trivial⟩ (show [0, 1, 2, 3, 4, 5, 6, 8].Nodup by decide)) ?_
          exact k272_221  hr3 hr132 hx1 hx2 hx3 hx4 hx5 hx6 hx8 h
        · have c128 := (not_congr xcmp8_ne).mp c128; rw [if_neg c128] at h
          refine xe_alr (ins := .aload_n 0) (len := 1) (i := 0) (by decide +kernel) rfl rfl rfl rfl rfl ?_
          obtain ⟨v129, e130, h⟩ := xbnd h
          refine xs_gr (i := 433) (c := 15) (k := 32) (by decide +kernel) (by decide) (by decide +kernel) e130 rfl ?_
          refine xe_alr (ins := .aload_n 0) (len := 1) (i := 0) (by decide +kernel) rfl rfl rfl rfl rfl ?_
          refine xe_ldn (ins := .iload_n 2) (len := 1) (by decide +kernel) rfl rfl rfl rfl ?_
          refine xe_ldn (ins := .iload_n 3) (len := 1) (by decide +kernel) rfl rfl rfl rfl ?_
          obtain ⟨_, e132, h⟩ := xbnd h
          obtain ⟨R133, e131, h⟩ := xbnd h
          refine xs_cv (i := 436) (j := 261) (ar := [xI (x3), xI (x2)]) (rest := [xR_ (v129)]) (r2 := xr_261) (by decide +kernel) (by decide +kernel) (by decide +kernel) xr_261_e rfl (by decide) (by simp only [List.map_cons, List.map_nil, List.sum_cons, List.sum_nil, xR_cat, xI_cat, xZ_cat]; decide) e132 ?_
          refine xc_i (k261 (d := d + 0)  hx2 hx3 e131) rfl (fun hi134 => ?_)
          refine xe_ldn (ins := .iload 8) (len := 2) (by decide +kernel) rfl rfl rfl rfl ?_
          refine xe_iadd (by decide +kernel) rfl ?_
          obtain ⟨v135, e136, h⟩ := xbnd h
          refine xs_lald (by decide +kernel) (xin_wr _) e136 rfl ?_
          refine xe_ldn (ins := .lload 6) (len := 2) (by decide +kernel) rfl rfl rfl rfl ?_
          refine xe_lcmp (by decide +kernel) rfl (xq_al_in e136) hx6 ?_
          refine xe_ifeq (off := 5) (t := 221) (by decide +kernel) (by decide) rfl (xin_cmp8 _ _) (fun c137 => ?_) (fun c137 => ?_)
          · have c137 := xcmp8_eq.mp c137; rw [if_pos c137] at h
            refine xW_lv rfl (l := [(0, xR_ (x0)), (1, xI (x1)), (2, xI (x2)), (3, xI (x3)), (4, xI (x4)), (5, xI (x5)), (6, xZ (x6)), (8, xI (x8))]) (xsb_of ⟨rfl, rfl, rfl, rfl, rfl, rfl, rfl, rfl, trivial⟩ (show [0, 1, 2, 3, 4, 5, 6, 8].Nodup by decide)) ?_
            exact k272_221  hr3 hr132 hx1 hx2 hx3 hx4 hx5 hx6 hx8 h
          · have c137 := (not_congr xcmp8_eq).mp c137; rw [if_neg c137] at h
            refine xe_iconst (n := 0) (by decide +kernel) rfl ?_
            cases h
            exact xe_ret_i (ty := .boolean) (by decide +kernel) rfl (by decide) ⟨rfl, rfl, (show xin (0) by decide)⟩
def f272_132  (r3 : Nat → Int → Int → Int → Int → xj_M → Option (Int × xj_M)) (f : Nat) : Nat → Nat → Int → Int → Int → Int → Int → Int → Int → xj_M → Option (Int × xj_M)
  | 0, _, _, _, _, _, _, _, _, _ => none
  | n + 1, x0, x1, x2, x3, x4, x5, x6, x8, M => f272_132b  r3 (f272_132  r3 f n) f x0 x1 x2 x3 x4 x5 x6 x8 M
theorem k272_132 {d f : Nat}  {r3 : Nat → Int → Int → Int → Int → xj_M → Option (Int × xj_M)}  (hr3 : ∀ {x0 : Nat} {x1 : Int} {x2 : Int} {x3 : Int} {x4 : Int} {M : xj_M} {R : Int × xj_M}, xin x1 → xin x2 → xin x3 → xin x4 → r3 x0 x1 x2 x3 x4 M = some R → xW (d + 1) (none, d + 1, none) xr_272 (3, [(0, xR_ x0), (1, xI x1), (2, xI x2), (3, xI x3), (4, xI x4)], [], M) (xQi R)) : ∀ {n : Nat} {x0 : Nat} {x1 : Int} {x2 : Int} {x3 : Int} {x4 : Int} {x5 : Int} {x6 : Int} {x8 : Int} {M : xj_M} {R : Int × xj_M}, xin x1 → xin x2 → xin x3 → xin x4 → xin x5 → xiN x6 → xin x8 → f272_132  r3 f n x0 x1 x2 x3 x4 x5 x6 x8 M = some R → xW (d + 1) (none, d + 1, none) xr_272 (132, [(0, xR_ x0), (1, xI x1), (2, xI x2), (3, xI x3), (4, xI x4), (5, xI x5), (6, xZ x6), (8, xI x8)], [], M) (xQi R) := by
  intro n
  induction n with
  | zero => intros; rename_i h; cases h
  | succ n ih => intros; rename_i h; exact k272_132b  hr3 ih (by assumption) (by assumption) (by assumption) (by assumption) (by assumption) (by assumption) (by assumption) h
def f272_129  (r3 : Nat → Int → Int → Int → Int → xj_M → Option (Int × xj_M)) (f : Nat) (x0 : Nat) (x1 : Int) (x2 : Int) (x3 : Int) (x4 : Int) (x5 : Int) (x6 : Int) (M : xj_M) : Option (Int × xj_M) := f272_132  r3 f f (x0) (x1) (x2) (x3) (x4) (x5) (x6) (0) M
theorem k272_129 {d f : Nat}  {r3 : Nat → Int → Int → Int → Int → xj_M → Option (Int × xj_M)}  (hr3 : ∀ {x0 : Nat} {x1 : Int} {x2 : Int} {x3 : Int} {x4 : Int} {M : xj_M} {R : Int × xj_M}, xin x1 → xin x2 → xin x3 → xin x4 → r3 x0 x1 x2 x3 x4 M = some R → xW (d + 1) (none, d + 1, none) xr_272 (3, [(0, xR_ x0), (1, xI x1), (2, xI x2), (3, xI x3), (4, xI x4)], [], M) (xQi R)) {x0 : Nat} {x1 : Int} {x2 : Int} {x3 : Int} {x4 : Int} {x5 : Int} {x6 : Int} {M : xj_M} {R : Int × xj_M} (hx1 : xin x1) (hx2 : xin x2) (hx3 : xin x3) (hx4 : xin x4) (hx5 : xin x5) (hx6 : xiN x6) (h : f272_129  r3 f x0 x1 x2 x3 x4 x5 x6 M = some R) : xW (d + 1) (none, d + 1, none) xr_272 (129, [(0, xR_ x0), (1, xI x1), (2, xI x2), (3, xI x3), (4, xI x4), (5, xI x5), (6, xZ x6)], [], M) (xQi R) := by
  unfold f272_129 at h
  refine xe_iconst (n := 0) (by decide +kernel) rfl ?_
  refine xe_isr (ins := .istore 8) (len := 2) (i := 8) (by decide +kernel) rfl rfl rfl (by decide) (xk_k (show ¬ (0 : Nat) = 8 by decide) (Or.inl (show ¬ (0 + 1 : Nat) = 8 by decide)) (xk_k (show ¬ (1 : Nat) = 8 by decide) (Or.inl (show ¬ (1 + 1 : Nat) = 8 by decide)) (xk_k (show ¬ (2 : Nat) = 8 by decide) (Or.inl (show ¬ (2 + 1 : Nat) = 8 by decide)) (xk_k (show ¬ (3 : Nat) = 8 by decide) (Or.inl (show ¬ (3 + 1 : Nat) = 8 by decide)) (xk_k (show ¬ (4 : Nat) = 8 by decide) (Or.inl (show ¬ (4 + 1 : Nat) = 8 by decide)) (xk_k (show ¬ (5 : Nat) = 8 by decide) (Or.inl (show ¬ (5 + 1 : Nat) = 8 by decide)) (xk_k (show ¬ (6 : Nat) = 8 by decide) (Or.inl (show ¬ (6 + 1 : Nat) = 8 by decide)) xk_n))))))) rfl ?_
  refine xW_lv rfl (l := [(0, xR_ (x0)), (1, xI (x1)), (2, xI (x2)), (3, xI (x3)), (4, xI (x4)), (5, xI (x5)), (6, xZ (x6)), (8, xI (0))]) (xsb_of ⟨rfl, rfl, rfl, rfl, rfl, rfl, rfl, rfl, trivial⟩ (show [8, 0, 1, 2, 3, 4, 5, 6].Nodup by decide)) ?_
  exact k272_132  hr3 hx1 hx2 hx3 hx4 hx5 hx6 (show xin (0) by decide) h
def f272_73  (r3 : Nat → Int → Int → Int → Int → xj_M → Option (Int × xj_M)) (f : Nat) (x0 : Nat) (x1 : Int) (x2 : Int) (x3 : Int) (x4 : Int) (x5 : Int) (x6 : Int) (M : xj_M) : Option (Int × xj_M) := ((xq_gr 15 29 (x0) M).bind fun v138 => ((xq_gr 14 33 (v138) M).bind fun v140 => ((xq_ai 3 (v140) (x5) M).bind fun v142 => (if ¬ (v142) = (1) then f272_129  r3 f (x0) (x1) (x2) (x3) (x4) (x5) (x6) M else ((xq_gr 15 29 (x0) M).bind fun v145 => ((xq_gr 14 34 (v145) M).bind fun v147 => ((xq_al (v147) (x5) M).bind fun v149 => ((xq_is 15 (x0) M).bind fun _ => ((f270  f (x0) (xwr (v149)) M).bind fun R153 => (if (R153.1) = 0 then f272_129  r3 f (x0) (x1) (x2) (x3) (x4) (x5) (x6) R153.2 else ((xq_gr 15 35 (x0) R153.2).bind fun v156 => ((xq_gr 15 29 (x0) R153.2).bind fun v158 => ((xq_gr 14 34 (v158) R153.2).bind fun v160 => ((xq_al (v160) (x5) R153.2).bind fun v162 => ((xq_al (v156) (xwr (v162)) R153.2).bind fun v164 => (if (v164) = (x6) then f272_129  r3 f (x0) (x1) (x2) (x3) (x4) (x5) (x6) R153.2 else (some (0, R153.2))))))))))))))))))
theorem k272_73 {d f : Nat}  {r3 : Nat → Int → Int → Int → Int → xj_M → Option (Int × xj_M)}  (hr3 : ∀ {x0 : Nat} {x1 : Int} {x2 : Int} {x3 : Int} {x4 : Int} {M : xj_M} {R : Int × xj_M}, xin x1 → xin x2 → xin x3 → xin x4 → r3 x0 x1 x2 x3 x4 M = some R → xW (d + 1) (none, d + 1, none) xr_272 (3, [(0, xR_ x0), (1, xI x1), (2, xI x2), (3, xI x3), (4, xI x4)], [], M) (xQi R)) {x0 : Nat} {x1 : Int} {x2 : Int} {x3 : Int} {x4 : Int} {x5 : Int} {x6 : Int} {M : xj_M} {R : Int × xj_M} (hx1 : xin x1) (hx2 : xin x2) (hx3 : xin x3) (hx4 : xin x4) (hx5 : xin x5) (hx6 : xiN x6) (h : f272_73  r3 f x0 x1 x2 x3 x4 x5 x6 M = some R) : xW (d + 1) (none, d + 1, none) xr_272 (73, [(0, xR_ x0), (1, xI x1), (2, xI x2), (3, xI x3), (4, xI x4), (5, xI x5), (6, xZ x6)], [], M) (xQi R) := by
  unfold f272_73 at h
  refine xe_alr (ins := .aload_n 0) (len := 1) (i := 0) (by decide +kernel) rfl rfl rfl rfl rfl ?_
  obtain ⟨v138, e139, h⟩ := xbnd h
  refine xs_gr (i := 439) (c := 15) (k := 29) (by decide +kernel) (by decide) (by decide +kernel) e139 rfl ?_
  obtain ⟨v140, e141, h⟩ := xbnd h
  refine xs_gr (i := 376) (c := 14) (k := 33) (by decide +kernel) (by decide) (by decide +kernel) e141 rfl ?_
  refine xe_ldn (ins := .iload 5) (len := 2) (by decide +kernel) rfl rfl rfl rfl ?_
  obtain ⟨v142, e143, h⟩ := xbnd h
  refine xs_iald rfl (by decide +kernel) hx5 e143 rfl ?_
  refine xe_iconst (n := 1) (by decide +kernel) rfl ?_
  refine xe_icmpne (off := 45) (t := 129) (by decide +kernel) (by decide) rfl (xq_ai_in e143) (show xin (1) by decide) (fun c144 => ?_) (fun c144 => ?_)
  · rw [if_pos c144] at h
    refine xW_lv rfl (l := [(0, xR_ (x0)), (1, xI (x1)), (2, xI (x2)), (3, xI (x3)), (4, xI (x4)), (5, xI (x5)), (6, xZ (x6))]) (xsb_of ⟨rfl, rfl, rfl, rfl, rfl, rfl, rfl, trivial⟩ (show [0, 1, 2, 3, 4, 5, 6].Nodup by decide)) ?_
    exact k272_129  hr3 hx1 hx2 hx3 hx4 hx5 hx6 h
  · rw [if_neg c144] at h
    refine xe_alr (ins := .aload_n 0) (len := 1) (i := 0) (by decide +kernel) rfl rfl rfl rfl rfl ?_
    refine xe_alr (ins := .aload_n 0) (len := 1) (i := 0) (by decide +kernel) rfl rfl rfl rfl rfl ?_
    obtain ⟨v145, e146, h⟩ := xbnd h
    refine xs_gr (i := 439) (c := 15) (k := 29) (by decide +kernel) (by decide) (by decide +kernel) e146 rfl ?_
    obtain ⟨v147, e148, h⟩ := xbnd h
    refine xs_gr (i := 379) (c := 14) (k := 34) (by decide +kernel) (by decide) (by decide +kernel) e148 rfl ?_
    refine xe_ldn (ins := .iload 5) (len := 2) (by decide +kernel) rfl rfl rfl rfl ?_
    obtain ⟨v149, e150, h⟩ := xbnd h
    refine xs_lald (by decide +kernel) hx5 e150 rfl ?_
    refine xe_l2i (by decide +kernel) rfl ?_
    obtain ⟨_, e152, h⟩ := xbnd h
    obtain ⟨R153, e151, h⟩ := xbnd h
    refine xs_cv (i := 488) (j := 270) (ar := [xI (xwr (v149))]) (rest := []) (r2 := xr_270) (by decide +kernel) (by decide +kernel) (by decide +kernel) xr_270_e rfl (by decide) (by decide) e152 ?_
    refine xc_i (k270 (d := d + 0)  (xin_wr _) e151) rfl (fun hi154 => ?_)
    refine xe_ifeq (off := 27) (t := 129) (by decide +kernel) (by decide) rfl hi154 (fun c155 => ?_) (fun c155 => ?_)
    · rw [if_pos c155] at h
      refine xW_lv rfl (l := [(0, xR_ (x0)), (1, xI (x1)), (2, xI (x2)), (3, xI (x3)), (4, xI (x4)), (5, xI (x5)), (6, xZ (x6))]) (xsb_of ⟨rfl, rfl, rfl, rfl, rfl, rfl, rfl, trivial⟩ (show [0, 1, 2, 3, 4, 5, 6].Nodup by decide)) ?_
      exact k272_129  hr3 hx1 hx2 hx3 hx4 hx5 hx6 h
    · rw [if_neg c155] at h
      refine xe_alr (ins := .aload_n 0) (len := 1) (i := 0) (by decide +kernel) rfl rfl rfl rfl rfl ?_
      obtain ⟨v156, e157, h⟩ := xbnd h
      refine xs_gr (i := 459) (c := 15) (k := 35) (by decide +kernel) (by decide) (by decide +kernel) e157 rfl ?_
      refine xe_alr (ins := .aload_n 0) (len := 1) (i := 0) (by decide +kernel) rfl rfl rfl rfl rfl ?_
      obtain ⟨v158, e159, h⟩ := xbnd h
      refine xs_gr (i := 439) (c := 15) (k := 29) (by decide +kernel) (by decide) (by decide +kernel) e159 rfl ?_
      obtain ⟨v160, e161, h⟩ := xbnd h
      refine xs_gr (i := 379) (c := 14) (k := 34) (by decide +kernel) (by decide) (by decide +kernel) e161 rfl ?_
      refine xe_ldn (ins := .iload 5) (len := 2) (by decide +kernel) rfl rfl rfl rfl ?_
      obtain ⟨v162, e163, h⟩ := xbnd h
      refine xs_lald (by decide +kernel) hx5 e163 rfl ?_
      refine xe_l2i (by decide +kernel) rfl ?_
      obtain ⟨v164, e165, h⟩ := xbnd h
      refine xs_lald (by decide +kernel) (xin_wr _) e165 rfl ?_
      refine xe_ldn (ins := .lload 6) (len := 2) (by decide +kernel) rfl rfl rfl rfl ?_
      refine xe_lcmp (by decide +kernel) rfl (xq_al_in e165) hx6 ?_
      refine xe_ifeq (off := 5) (t := 129) (by decide +kernel) (by decide) rfl (xin_cmp8 _ _) (fun c166 => ?_) (fun c166 => ?_)
      · have c166 := xcmp8_eq.mp c166; rw [if_pos c166] at h
        refine xW_lv rfl (l := [(0, xR_ (x0)), (1, xI (x1)), (2, xI (x2)), (3, xI (x3)), (4, xI (x4)), (5, xI (x5)), (6, xZ (x6))]) (xsb_of ⟨rfl, rfl, rfl, rfl, rfl, rfl, rfl, trivial⟩ (show [0, 1, 2, 3, 4, 5, 6].Nodup by decide)) ?_
        exact k272_129  hr3 hx1 hx2 hx3 hx4 hx5 hx6 h
      · have c166 := (not_congr xcmp8_eq).mp c166; rw [if_neg c166] at h
        refine xe_iconst (n := 0) (by decide +kernel) rfl ?_
        cases h
        exact xe_ret_i (ty := .boolean) (by decide +kernel) rfl (by decide) ⟨rfl, rfl, (show xin (0) by decide)⟩
def f272_3b  (r3 : Nat → Int → Int → Int → Int → xj_M → Option (Int × xj_M)) (f : Nat) (x0 : Nat) (x1 : Int) (x2 : Int) (x3 : Int) (x4 : Int) (M : xj_M) : Option (Int × xj_M) := ((xq_gr 15 29 (x0) M).bind fun v167 => ((xq_gr 14 29 (v167) M).bind fun v169 => ((xq_ai 3 (v169) (x1) M).bind fun v171 => (if (v171) ≤ (x4) then (some (1, M)) else ((xq_gr 15 32 (x0) M).bind fun v174 => ((xq_is 15 (x0) M).bind fun _ => ((f261  f (x0) (x2) (x3) M).bind fun R178 => ((xq_al (v174) (xwr ((R178.1) + (x4))) R178.2).bind fun v180 => ((xq_gr 15 29 (x0) R178.2).bind fun v182 => ((xq_gr 14 33 (v182) R178.2).bind fun v184 => ((xq_ai 3 (v184) (xwr ((xwr ((x1) * (4))) + (x4))) R178.2).bind fun v186 => (if ¬ (v186) = (3) then f272_73  r3 f (x0) (x1) (x2) (x3) (x4) (xwr ((xwr ((x1) * (4))) + (x4))) (v180) R178.2 else ((xq_gr 15 29 (x0) R178.2).bind fun v189 => ((xq_gr 14 34 (v189) R178.2).bind fun v191 => ((xq_al (v191) (xwr ((xwr ((x1) * (4))) + (x4))) R178.2).bind fun v193 => (if (v193) = (v180) then f272_73  r3 f (x0) (x1) (x2) (x3) (x4) (xwr ((xwr ((x1) * (4))) + (x4))) (v180) R178.2 else (some (0, R178.2))))))))))))))))))
theorem k272_3b {d f : Nat}  {r3 : Nat → Int → Int → Int → Int → xj_M → Option (Int × xj_M)}  (hr3 : ∀ {x0 : Nat} {x1 : Int} {x2 : Int} {x3 : Int} {x4 : Int} {M : xj_M} {R : Int × xj_M}, xin x1 → xin x2 → xin x3 → xin x4 → r3 x0 x1 x2 x3 x4 M = some R → xW (d + 1) (none, d + 1, none) xr_272 (3, [(0, xR_ x0), (1, xI x1), (2, xI x2), (3, xI x3), (4, xI x4)], [], M) (xQi R)) {x0 : Nat} {x1 : Int} {x2 : Int} {x3 : Int} {x4 : Int} {M : xj_M} {R : Int × xj_M} (hx1 : xin x1) (hx2 : xin x2) (hx3 : xin x3) (hx4 : xin x4) (h : f272_3b  r3 f x0 x1 x2 x3 x4 M = some R) : xW (d + 1) (none, d + 1, none) xr_272 (3, [(0, xR_ x0), (1, xI x1), (2, xI x2), (3, xI x3), (4, xI x4)], [], M) (xQi R) := by
  unfold f272_3b at h
  refine xe_ldn (ins := .iload 4) (len := 2) (by decide +kernel) rfl rfl rfl rfl ?_
  refine xe_alr (ins := .aload_n 0) (len := 1) (i := 0) (by decide +kernel) rfl rfl rfl rfl rfl ?_
  obtain ⟨v167, e168, h⟩ := xbnd h
  refine xs_gr (i := 439) (c := 15) (k := 29) (by decide +kernel) (by decide) (by decide +kernel) e168 rfl ?_
  obtain ⟨v169, e170, h⟩ := xbnd h
  refine xs_gr (i := 373) (c := 14) (k := 29) (by decide +kernel) (by decide) (by decide +kernel) e170 rfl ?_
  refine xe_ldn (ins := .iload_n 1) (len := 1) (by decide +kernel) rfl rfl rfl rfl ?_
  obtain ⟨v171, e172, h⟩ := xbnd h
  refine xs_iald rfl (by decide +kernel) hx1 e172 rfl ?_
  refine xe_icmpge (off := 219) (t := 233) (by decide +kernel) (by decide) rfl hx4 (xq_ai_in e172) (fun c173 => ?_) (fun c173 => ?_)
  · rw [if_pos c173] at h
    refine xe_iconst (n := 1) (by decide +kernel) rfl ?_
    cases h
    exact xe_ret_i (ty := .boolean) (by decide +kernel) rfl (by decide) ⟨rfl, rfl, (show xin (1) by decide)⟩
  · rw [if_neg c173] at h
    refine xe_ldn (ins := .iload_n 1) (len := 1) (by decide +kernel) rfl rfl rfl rfl ?_
    refine xe_iconst (n := 4) (by decide +kernel) rfl ?_
    refine xe_imul (by decide +kernel) rfl ?_
    refine xe_ldn (ins := .iload 4) (len := 2) (by decide +kernel) rfl rfl rfl rfl ?_
    refine xe_iadd (by decide +kernel) rfl ?_
    refine xe_isr (ins := .istore 5) (len := 2) (i := 5) (by decide +kernel) rfl rfl rfl (by decide) (xk_k (show ¬ (0 : Nat) = 5 by decide) (Or.inl (show ¬ (0 + 1 : Nat) = 5 by decide)) (xk_k (show ¬ (1 : Nat) = 5 by decide) (Or.inl (show ¬ (1 + 1 : Nat) = 5 by decide)) (xk_k (show ¬ (2 : Nat) = 5 by decide) (Or.inl (show ¬ (2 + 1 : Nat) = 5 by decide)) (xk_k (show ¬ (3 : Nat) = 5 by decide) (Or.inl (show ¬ (3 + 1 : Nat) = 5 by decide)) (xk_k (show ¬ (4 : Nat) = 5 by decide) (Or.inr (xI_cat _)) xk_n))))) rfl ?_
    refine xe_alr (ins := .aload_n 0) (len := 1) (i := 0) (by decide +kernel) rfl rfl rfl rfl rfl ?_
    obtain ⟨v174, e175, h⟩ := xbnd h
    refine xs_gr (i := 433) (c := 15) (k := 32) (by decide +kernel) (by decide) (by decide +kernel) e175 rfl ?_
    refine xe_alr (ins := .aload_n 0) (len := 1) (i := 0) (by decide +kernel) rfl rfl rfl rfl rfl ?_
    refine xe_ldn (ins := .iload_n 2) (len := 1) (by decide +kernel) rfl rfl rfl rfl ?_
    refine xe_ldn (ins := .iload_n 3) (len := 1) (by decide +kernel) rfl rfl rfl rfl ?_
    obtain ⟨_, e177, h⟩ := xbnd h
    obtain ⟨R178, e176, h⟩ := xbnd h
    refine xs_cv (i := 436) (j := 261) (ar := [xI (x3), xI (x2)]) (rest := [xR_ (v174)]) (r2 := xr_261) (by decide +kernel) (by decide +kernel) (by decide +kernel) xr_261_e rfl (by decide) (by simp only [List.map_cons, List.map_nil, List.sum_cons, List.sum_nil, xR_cat, xI_cat, xZ_cat]; decide) e177 ?_
    refine xc_i (k261 (d := d + 0)  hx2 hx3 e176) rfl (fun hi179 => ?_)
    refine xe_ldn (ins := .iload 4) (len := 2) (by decide +kernel) rfl rfl rfl rfl ?_
    refine xe_iadd (by decide +kernel) rfl ?_
    obtain ⟨v180, e181, h⟩ := xbnd h
    refine xs_lald (by decide +kernel) (xin_wr _) e181 rfl ?_
    refine xe_lsr (ins := .lstore 6) (len := 2) (i := 6) (by decide +kernel) rfl rfl rfl (by decide) (xk2_k (show ¬ (5 : Nat) = 6 by decide) (show ¬ (5 : Nat) = 6 + 1 by decide) (Or.inr (xI_cat _)) (xk2_k (show ¬ (0 : Nat) = 6 by decide) (show ¬ (0 : Nat) = 6 + 1 by decide) (Or.inl (show ¬ (0 + 1 : Nat) = 6 by decide)) (xk2_k (show ¬ (1 : Nat) = 6 by decide) (show ¬ (1 : Nat) = 6 + 1 by decide) (Or.inl (show ¬ (1 + 1 : Nat) = 6 by decide)) (xk2_k (show ¬ (2 : Nat) = 6 by decide) (show ¬ (2 : Nat) = 6 + 1 by decide) (Or.inl (show ¬ (2 + 1 : Nat) = 6 by decide)) (xk2_k (show ¬ (3 : Nat) = 6 by decide) (show ¬ (3 : Nat) = 6 + 1 by decide) (Or.inl (show ¬ (3 + 1 : Nat) = 6 by decide)) (xk2_k (show ¬ (4 : Nat) = 6 by decide) (show ¬ (4 : Nat) = 6 + 1 by decide) (Or.inl (show ¬ (4 + 1 : Nat) = 6 by decide)) xk2_n)))))) rfl ?_
    refine xe_alr (ins := .aload_n 0) (len := 1) (i := 0) (by decide +kernel) rfl rfl rfl rfl rfl ?_
    obtain ⟨v182, e183, h⟩ := xbnd h
    refine xs_gr (i := 439) (c := 15) (k := 29) (by decide +kernel) (by decide) (by decide +kernel) e183 rfl ?_
    obtain ⟨v184, e185, h⟩ := xbnd h
    refine xs_gr (i := 376) (c := 14) (k := 33) (by decide +kernel) (by decide) (by decide +kernel) e185 rfl ?_
    refine xe_ldn (ins := .iload 5) (len := 2) (by decide +kernel) rfl rfl rfl rfl ?_
    obtain ⟨v186, e187, h⟩ := xbnd h
    refine xs_iald rfl (by decide +kernel) (xin_wr _) e187 rfl ?_
    refine xe_iconst (n := 3) (by decide +kernel) rfl ?_
    refine xe_icmpne (off := 21) (t := 73) (by decide +kernel) (by decide) rfl (xq_ai_in e187) (show xin (3) by decide) (fun c188 => ?_) (fun c188 => ?_)
    · rw [if_pos c188] at h
      refine xW_lv rfl (l := [(0, xR_ (x0)), (1, xI (x1)), (2, xI (x2)), (3, xI (x3)), (4, xI (x4)), (5, xI (xwr ((xwr ((x1) * (4))) + (x4)))), (6, xZ (v180))]) (xsb_of ⟨rfl, rfl, rfl, rfl, rfl, rfl, rfl, trivial⟩ (show [6, 5, 0, 1, 2, 3, 4].Nodup by decide)) ?_
      exact k272_73  hr3 hx1 hx2 hx3 hx4 (xin_wr _) (xq_al_in e181) h
    · rw [if_neg c188] at h
      refine xe_alr (ins := .aload_n 0) (len := 1) (i := 0) (by decide +kernel) rfl rfl rfl rfl rfl ?_
      obtain ⟨v189, e190, h⟩ := xbnd h
      refine xs_gr (i := 439) (c := 15) (k := 29) (by decide +kernel) (by decide) (by decide +kernel) e190 rfl ?_
      obtain ⟨v191, e192, h⟩ := xbnd h
      refine xs_gr (i := 379) (c := 14) (k := 34) (by decide +kernel) (by decide) (by decide +kernel) e192 rfl ?_
      refine xe_ldn (ins := .iload 5) (len := 2) (by decide +kernel) rfl rfl rfl rfl ?_
      obtain ⟨v193, e194, h⟩ := xbnd h
      refine xs_lald (by decide +kernel) (xin_wr _) e194 rfl ?_
      refine xe_ldn (ins := .lload 6) (len := 2) (by decide +kernel) rfl rfl rfl rfl ?_
      refine xe_lcmp (by decide +kernel) rfl (xq_al_in e194) (xq_al_in e181) ?_
      refine xe_ifeq (off := 5) (t := 73) (by decide +kernel) (by decide) rfl (xin_cmp8 _ _) (fun c195 => ?_) (fun c195 => ?_)
      · have c195 := xcmp8_eq.mp c195; rw [if_pos c195] at h
        refine xW_lv rfl (l := [(0, xR_ (x0)), (1, xI (x1)), (2, xI (x2)), (3, xI (x3)), (4, xI (x4)), (5, xI (xwr ((xwr ((x1) * (4))) + (x4)))), (6, xZ (v180))]) (xsb_of ⟨rfl, rfl, rfl, rfl, rfl, rfl, rfl, trivial⟩ (show [6, 5, 0, 1, 2, 3, 4].Nodup by decide)) ?_
        exact k272_73  hr3 hx1 hx2 hx3 hx4 (xin_wr _) (xq_al_in e181) h
      · have c195 := (not_congr xcmp8_eq).mp c195; rw [if_neg c195] at h
        refine xe_iconst (n := 0) (by decide +kernel) rfl ?_
        cases h
        exact xe_ret_i (ty := .boolean) (by decide +kernel) rfl (by decide) ⟨rfl, rfl, (show xin (0) by decide)⟩
def f272_3   (f : Nat) : Nat → Nat → Int → Int → Int → Int → xj_M → Option (Int × xj_M)
  | 0, _, _, _, _, _, _ => none
  | n + 1, x0, x1, x2, x3, x4, M => f272_3b   (f272_3   f n) f x0 x1 x2 x3 x4 M
theorem k272_3 {d f : Nat}     : ∀ {n : Nat} {x0 : Nat} {x1 : Int} {x2 : Int} {x3 : Int} {x4 : Int} {M : xj_M} {R : Int × xj_M}, xin x1 → xin x2 → xin x3 → xin x4 → f272_3   f n x0 x1 x2 x3 x4 M = some R → xW (d + 1) (none, d + 1, none) xr_272 (3, [(0, xR_ x0), (1, xI x1), (2, xI x2), (3, xI x3), (4, xI x4)], [], M) (xQi R) := by
  intro n
  induction n with
  | zero => intros; rename_i h; cases h
  | succ n ih => intros; rename_i h; exact k272_3b   ih (by assumption) (by assumption) (by assumption) (by assumption) h
def f272  (f : Nat) (a0 : Nat) (a1 : Int) (a2 : Int) (a3 : Int) (M : xj_M) : Option (Int × xj_M) := f272_3   f f (a0) (a1) (a2) (a3) (0) M
theorem k272 {d f : Nat}   {a0 : Nat} {a1 : Int} {a2 : Int} {a3 : Int} {M : xj_M} {R : Int × xj_M} (ha1 : xin a1) (ha2 : xin a2) (ha3 : xin a3) (h : f272  f a0 a1 a2 a3 M = some R) : xT (d + 2) 272 [xR_ a0, xI a1, xI a2, xI a3] M (xQi R) := by
  refine xT_m xr_272_e (X := (none, d + 1, none)) rfl (xa_1 (xR_cat _) (xa_1 (xI_cat _) (xa_1 (xI_cat _) (xa_1 (xI_cat _) xa_n)))) (by decide) ?_
  unfold f272 at h
  refine xe_iconst (n := 0) (by decide +kernel) rfl ?_
  refine xe_isr (ins := .istore 4) (len := 2) (i := 4) (by decide +kernel) rfl rfl rfl (by decide) (xk_k (show ¬ (0 : Nat) = 4 by decide) (Or.inl (show ¬ (0 + 1 : Nat) = 4 by decide)) (xk_k (show ¬ (1 : Nat) = 4 by decide) (Or.inl (show ¬ (1 + 1 : Nat) = 4 by decide)) (xk_k (show ¬ (2 : Nat) = 4 by decide) (Or.inl (show ¬ (2 + 1 : Nat) = 4 by decide)) (xk_k (show ¬ (3 : Nat) = 4 by decide) (Or.inr (xI_cat _)) xk_n)))) rfl ?_
  refine xW_lv rfl (l := [(0, xR_ (a0)), (1, xI (a1)), (2, xI (a2)), (3, xI (a3)), (4, xI (0))]) (xsb_of ⟨rfl, rfl, rfl, rfl, rfl, trivial⟩ (show [4, 0, 1, 2, 3].Nodup by decide)) ?_
  exact k272_3   ha1 ha2 ha3 (show xin (0) by decide) h
-- ChangeHouseModel.isAlike
def xr_273 : xj_mR := (15, yX15_isAlike, cX15_isAlike, 6, (Option.some Jvm.ClassFile.FieldType.boolean), 4, false, (10, 16), (1, 12))
set_option maxRecDepth 20000 in
theorem xr_273_e : xj_row 273 = some xr_273 := rfl
def f273_70  (r3 : Nat → Int → Int → Int → Int → Int → xj_M → Option (Int × xj_M)) (f : Nat) (x0 : Nat) (x1 : Int) (x2 : Int) (x3 : Int) (x4 : Int) (x5 : Int) (M : xj_M) : Option (Int × xj_M) := r3 (x0) (x1) (x2) (x3) (x4) (xwr ((x5) + (1))) M
theorem k273_70 {d f : Nat}  {r3 : Nat → Int → Int → Int → Int → Int → xj_M → Option (Int × xj_M)}  (hr3 : ∀ {x0 : Nat} {x1 : Int} {x2 : Int} {x3 : Int} {x4 : Int} {x5 : Int} {M : xj_M} {R : Int × xj_M}, xin x1 → xin x2 → xin x3 → xin x4 → xin x5 → r3 x0 x1 x2 x3 x4 x5 M = some R → xW (d + 1) (none, d + 1, none) xr_273 (3, [(0, xR_ x0), (1, xI x1), (2, xI x2), (3, xI x3), (4, xI x4), (5, xI x5)], [], M) (xQi R)) {x0 : Nat} {x1 : Int} {x2 : Int} {x3 : Int} {x4 : Int} {x5 : Int} {M : xj_M} {R : Int × xj_M} (hx1 : xin x1) (hx2 : xin x2) (hx3 : xin x3) (hx4 : xin x4) (hx5 : xin x5) (h : f273_70  r3 f x0 x1 x2 x3 x4 x5 M = some R) : xW (d + 1) (none, d + 1, none) xr_273 (70, [(0, xR_ x0), (1, xI x1), (2, xI x2), (3, xI x3), (4, xI x4), (5, xI x5)], [], M) (xQi R) := by
  unfold f273_70 at h
  refine xe_iincr (i := 5) (n := 1) (by decide +kernel) (by decide) rfl (xk_k (show ¬ (0 : Nat) = 5 by decide) (Or.inl (show ¬ (0 + 1 : Nat) = 5 by decide)) (xk_k (show ¬ (1 : Nat) = 5 by decide) (Or.inl (show ¬ (1 + 1 : Nat) = 5 by decide)) (xk_k (show ¬ (2 : Nat) = 5 by decide) (Or.inl (show ¬ (2 + 1 : Nat) = 5 by decide)) (xk_k (show ¬ (3 : Nat) = 5 by decide) (Or.inl (show ¬ (3 + 1 : Nat) = 5 by decide)) (xk_k (show ¬ (4 : Nat) = 5 by decide) (Or.inr (xI_cat _)) (xk_d rfl xk_n)))))) rfl ?_
  refine xe_goto (off := -70) (nx := 3) (by decide +kernel) (by decide) ?_
  refine xW_lv rfl (l := [(0, xR_ (x0)), (1, xI (x1)), (2, xI (x2)), (3, xI (x3)), (4, xI (x4)), (5, xI (xwr ((x5) + (1))))]) (xsb_of ⟨rfl, rfl, rfl, rfl, rfl, rfl, trivial⟩ (show [5, 0, 1, 2, 3, 4].Nodup by decide)) ?_
  exact hr3 hx1 hx2 hx3 hx4 (xin_wr _) h
def f273_3b  (r3 : Nat → Int → Int → Int → Int → Int → xj_M → Option (Int × xj_M)) (f : Nat) (x0 : Nat) (x1 : Int) (x2 : Int) (x3 : Int) (x4 : Int) (x5 : Int) (M : xj_M) : Option (Int × xj_M) := ((xq_gr 15 29 (x0) M).bind fun v101 => ((xq_gr 14 29 (v101) M).bind fun v103 => ((xq_ai 3 (v103) (x1) M).bind fun v105 => (if (v105) ≤ (x5) then (some (1, M)) else ((xq_gr 15 29 (x0) M).bind fun v108 => ((xq_gr 14 33 (v108) M).bind fun v110 => ((xq_ai 3 (v110) (xwr ((xwr ((x1) * (4))) + (x5))) M).bind fun v112 => (if (v112) = (2) then f273_70  r3 f (x0) (x1) (x2) (x3) (x4) (x5) M else ((xq_gr 15 32 (x0) M).bind fun v115 => ((xq_is 15 (x0) M).bind fun _ => ((f261  f (x0) (x2) (x3) M).bind fun R119 => ((xq_al (v115) (xwr ((R119.1) + (x5))) R119.2).bind fun v121 => ((xq_gr 15 32 (x0) R119.2).bind fun v123 => ((xq_is 15 (x0) R119.2).bind fun _ => ((f261  f (x0) (x2) (x4) R119.2).bind fun R127 => ((xq_al (v123) (xwr ((R127.1) + (x5))) R127.2).bind fun v129 => (if (v121) = (v129) then f273_70  r3 f (x0) (x1) (x2) (x3) (x4) (x5) R127.2 else (some (0, R127.2)))))))))))))))))))
theorem k273_3b {d f : Nat}  {r3 : Nat → Int → Int → Int → Int → Int → xj_M → Option (Int × xj_M)}  (hr3 : ∀ {x0 : Nat} {x1 : Int} {x2 : Int} {x3 : Int} {x4 : Int} {x5 : Int} {M : xj_M} {R : Int × xj_M}, xin x1 → xin x2 → xin x3 → xin x4 → xin x5 → r3 x0 x1 x2 x3 x4 x5 M = some R → xW (d + 1) (none, d + 1, none) xr_273 (3, [(0, xR_ x0), (1, xI x1), (2, xI x2), (3, xI x3), (4, xI x4), (5, xI x5)], [], M) (xQi R)) {x0 : Nat} {x1 : Int} {x2 : Int} {x3 : Int} {x4 : Int} {x5 : Int} {M : xj_M} {R : Int × xj_M} (hx1 : xin x1) (hx2 : xin x2) (hx3 : xin x3) (hx4 : xin x4) (hx5 : xin x5) (h : f273_3b  r3 f x0 x1 x2 x3 x4 x5 M = some R) : xW (d + 1) (none, d + 1, none) xr_273 (3, [(0, xR_ x0), (1, xI x1), (2, xI x2), (3, xI x3), (4, xI x4), (5, xI x5)], [], M) (xQi R) := by
  unfold f273_3b at h
  refine xe_ldn (ins := .iload 5) (len := 2) (by decide +kernel) rfl rfl rfl rfl ?_
  refine xe_alr (ins := .aload_n 0) (len := 1) (i := 0) (by decide +kernel) rfl rfl rfl rfl rfl ?_
  obtain ⟨v101, e102, h⟩ := xbnd h
  refine xs_gr (i := 439) (c := 15) (k := 29) (by decide +kernel) (by decide) (by decide +kernel) e102 rfl ?_
  obtain ⟨v103, e104, h⟩ := xbnd h
  refine xs_gr (i := 373) (c := 14) (k := 29) (by decide +kernel) (by decide) (by decide +kernel) e104 rfl ?_
  refine xe_ldn (ins := .iload_n 1) (len := 1) (by decide +kernel) rfl rfl rfl rfl ?_
  obtain ⟨v105, e106, h⟩ := xbnd h
  refine xs_iald rfl (by decide +kernel) hx1 e106 rfl ?_
  refine xe_icmpge (off := 62) (t := 76) (by decide +kernel) (by decide) rfl hx5 (xq_ai_in e106) (fun c107 => ?_) (fun c107 => ?_)
  · rw [if_pos c107] at h
    refine xe_iconst (n := 1) (by decide +kernel) rfl ?_
    cases h
    exact xe_ret_i (ty := .boolean) (by decide +kernel) rfl (by decide) ⟨rfl, rfl, (show xin (1) by decide)⟩
  · rw [if_neg c107] at h
    refine xe_alr (ins := .aload_n 0) (len := 1) (i := 0) (by decide +kernel) rfl rfl rfl rfl rfl ?_
    obtain ⟨v108, e109, h⟩ := xbnd h
    refine xs_gr (i := 439) (c := 15) (k := 29) (by decide +kernel) (by decide) (by decide +kernel) e109 rfl ?_
    obtain ⟨v110, e111, h⟩ := xbnd h
    refine xs_gr (i := 376) (c := 14) (k := 33) (by decide +kernel) (by decide) (by decide +kernel) e111 rfl ?_
    refine xe_ldn (ins := .iload_n 1) (len := 1) (by decide +kernel) rfl rfl rfl rfl ?_
    refine xe_iconst (n := 4) (by decide +kernel) rfl ?_
    refine xe_imul (by decide +kernel) rfl ?_
    refine xe_ldn (ins := .iload 5) (len := 2) (by decide +kernel) rfl rfl rfl rfl ?_
    refine xe_iadd (by decide +kernel) rfl ?_
    obtain ⟨v112, e113, h⟩ := xbnd h
    refine xs_iald rfl (by decide +kernel) (xin_wr _) e113 rfl ?_
    refine xe_iconst (n := 2) (by decide +kernel) rfl ?_
    refine xe_icmpeq (off := 38) (t := 70) (by decide +kernel) (by decide) rfl (xq_ai_in e113) (show xin (2) by decide) (fun c114 => ?_) (fun c114 => ?_)
    · rw [if_pos c114] at h
      refine xW_lv rfl (l := [(0, xR_ (x0)), (1, xI (x1)), (2, xI (x2)), (3, xI (x3)), (4, xI (x4)), (5, xI (x5))]) (xsb_of ⟨rfl, rfl, rfl, rfl, rfl, rfl, trivial⟩ (show [0, 1, 2, 3, 4, 5].Nodup by decide)) ?_
      exact k273_70  hr3 hx1 hx2 hx3 hx4 hx5 h
    · rw [if_neg c114] at h
      refine xe_alr (ins := .aload_n 0) (len := 1) (i := 0) (by decide +kernel) rfl rfl rfl rfl rfl ?_
      obtain ⟨v115, e116, h⟩ := xbnd h
      refine xs_gr (i := 433) (c := 15) (k := 32) (by decide +kernel) (by decide) (by decide +kernel) e116 rfl ?_
      refine xe_alr (ins := .aload_n 0) (len := 1) (i := 0) (by decide +kernel) rfl rfl rfl rfl rfl ?_
      refine xe_ldn (ins := .iload_n 2) (len := 1) (by decide +kernel) rfl rfl rfl rfl ?_
      refine xe_ldn (ins := .iload_n 3) (len := 1) (by decide +kernel) rfl rfl rfl rfl ?_
      obtain ⟨_, e118, h⟩ := xbnd h
      obtain ⟨R119, e117, h⟩ := xbnd h
      refine xs_cv (i := 436) (j := 261) (ar := [xI (x3), xI (x2)]) (rest := [xR_ (v115)]) (r2 := xr_261) (by decide +kernel) (by decide +kernel) (by decide +kernel) xr_261_e rfl (by decide) (by simp only [List.map_cons, List.map_nil, List.sum_cons, List.sum_nil, xR_cat, xI_cat, xZ_cat]; decide) e118 ?_
      refine xc_i (k261 (d := d + 0)  hx2 hx3 e117) rfl (fun hi120 => ?_)
      refine xe_ldn (ins := .iload 5) (len := 2) (by decide +kernel) rfl rfl rfl rfl ?_
      refine xe_iadd (by decide +kernel) rfl ?_
      obtain ⟨v121, e122, h⟩ := xbnd h
      refine xs_lald (by decide +kernel) (xin_wr _) e122 rfl ?_
      refine xe_alr (ins := .aload_n 0) (len := 1) (i := 0) (by decide +kernel) rfl rfl rfl rfl rfl ?_
      obtain ⟨v123, e124, h⟩ := xbnd h
      refine xs_gr (i := 433) (c := 15) (k := 32) (by decide +kernel) (by decide) (by decide +kernel) e124 rfl ?_
      refine xe_alr (ins := .aload_n 0) (len := 1) (i := 0) (by decide +kernel) rfl rfl rfl rfl rfl ?_
      refine xe_ldn (ins := .iload_n 2) (len := 1) (by decide +kernel) rfl rfl rfl rfl ?_
      refine xe_ldn (ins := .iload 4) (len := 2) (by decide +kernel) rfl rfl rfl rfl ?_
      obtain ⟨_, e126, h⟩ := xbnd h
      obtain ⟨R127, e125, h⟩ := xbnd h
      refine xs_cv (i := 436) (j := 261) (ar := [xI (x4), xI (x2)]) (rest := [xR_ (v123), xZ (v121)]) (r2 := xr_261) (by decide +kernel) (by decide +kernel) (by decide +kernel) xr_261_e rfl (by decide) (by simp only [List.map_cons, List.map_nil, List.sum_cons, List.sum_nil, xR_cat, xI_cat, xZ_cat]; decide) e126 ?_
      refine xc_i (k261 (d := d + 0)  hx2 hx4 e125) rfl (fun hi128 => ?_)
      refine xe_ldn (ins := .iload 5) (len := 2) (by decide +kernel) rfl rfl rfl rfl ?_
      refine xe_iadd (by decide +kernel) rfl ?_
      obtain ⟨v129, e130, h⟩ := xbnd h
      refine xs_lald (by decide +kernel) (xin_wr _) e130 rfl ?_
      refine xe_lcmp (by decide +kernel) rfl (xq_al_in e122) (xq_al_in e130) ?_
      refine xe_ifeq (off := 5) (t := 70) (by decide +kernel) (by decide) rfl (xin_cmp8 _ _) (fun c131 => ?_) (fun c131 => ?_)
      · have c131 := xcmp8_eq.mp c131; rw [if_pos c131] at h
        refine xW_lv rfl (l := [(0, xR_ (x0)), (1, xI (x1)), (2, xI (x2)), (3, xI (x3)), (4, xI (x4)), (5, xI (x5))]) (xsb_of ⟨rfl, rfl, rfl, rfl, rfl, rfl, trivial⟩ (show [0, 1, 2, 3, 4, 5].Nodup by decide)) ?_
        exact k273_70  hr3 hx1 hx2 hx3 hx4 hx5 h
      · have c131 := (not_congr xcmp8_eq).mp c131; rw [if_neg c131] at h
        refine xe_iconst (n := 0) (by decide +kernel) rfl ?_
        cases h
        exact xe_ret_i (ty := .boolean) (by decide +kernel) rfl (by decide) ⟨rfl, rfl, (show xin (0) by decide)⟩
def f273_3   (f : Nat) : Nat → Nat → Int → Int → Int → Int → Int → xj_M → Option (Int × xj_M)
  | 0, _, _, _, _, _, _, _ => none
  | n + 1, x0, x1, x2, x3, x4, x5, M => f273_3b   (f273_3   f n) f x0 x1 x2 x3 x4 x5 M
theorem k273_3 {d f : Nat}     : ∀ {n : Nat} {x0 : Nat} {x1 : Int} {x2 : Int} {x3 : Int} {x4 : Int} {x5 : Int} {M : xj_M} {R : Int × xj_M}, xin x1 → xin x2 → xin x3 → xin x4 → xin x5 → f273_3   f n x0 x1 x2 x3 x4 x5 M = some R → xW (d + 1) (none, d + 1, none) xr_273 (3, [(0, xR_ x0), (1, xI x1), (2, xI x2), (3, xI x3), (4, xI x4), (5, xI x5)], [], M) (xQi R) := by
  intro n
  induction n with
  | zero => intros; rename_i h; cases h
  | succ n ih => intros; rename_i h; exact k273_3b   ih (by assumption) (by assumption) (by assumption) (by assumption) (by assumption) h
def f273  (f : Nat) (a0 : Nat) (a1 : Int) (a2 : Int) (a3 : Int) (a4 : Int) (M : xj_M) : Option (Int × xj_M) := f273_3   f f (a0) (a1) (a2) (a3) (a4) (0) M
theorem k273 {d f : Nat}   {a0 : Nat} {a1 : Int} {a2 : Int} {a3 : Int} {a4 : Int} {M : xj_M} {R : Int × xj_M} (ha1 : xin a1) (ha2 : xin a2) (ha3 : xin a3) (ha4 : xin a4) (h : f273  f a0 a1 a2 a3 a4 M = some R) : xT (d + 2) 273 [xR_ a0, xI a1, xI a2, xI a3, xI a4] M (xQi R) := by
  refine xT_m xr_273_e (X := (none, d + 1, none)) rfl (xa_1 (xR_cat _) (xa_1 (xI_cat _) (xa_1 (xI_cat _) (xa_1 (xI_cat _) (xa_1 (xI_cat _) xa_n))))) (by decide) ?_
  unfold f273 at h
  refine xe_iconst (n := 0) (by decide +kernel) rfl ?_
  refine xe_isr (ins := .istore 5) (len := 2) (i := 5) (by decide +kernel) rfl rfl rfl (by decide) (xk_k (show ¬ (0 : Nat) = 5 by decide) (Or.inl (show ¬ (0 + 1 : Nat) = 5 by decide)) (xk_k (show ¬ (1 : Nat) = 5 by decide) (Or.inl (show ¬ (1 + 1 : Nat) = 5 by decide)) (xk_k (show ¬ (2 : Nat) = 5 by decide) (Or.inl (show ¬ (2 + 1 : Nat) = 5 by decide)) (xk_k (show ¬ (3 : Nat) = 5 by decide) (Or.inl (show ¬ (3 + 1 : Nat) = 5 by decide)) (xk_k (show ¬ (4 : Nat) = 5 by decide) (Or.inr (xI_cat _)) xk_n))))) rfl ?_
  refine xW_lv rfl (l := [(0, xR_ (a0)), (1, xI (a1)), (2, xI (a2)), (3, xI (a3)), (4, xI (a4)), (5, xI (0))]) (xsb_of ⟨rfl, rfl, rfl, rfl, rfl, rfl, trivial⟩ (show [5, 0, 1, 2, 3, 4].Nodup by decide)) ?_
  exact k273_3   ha1 ha2 ha3 ha4 (show xin (0) by decide) h
-- ChangeHouseModel.hasFirst
def xr_274 : xj_mR := (15, yX15_hasFirst, cX15_hasFirst, 5, (Option.some Jvm.ClassFile.FieldType.boolean), 3, false, (10, 12), (1, 12))
set_option maxRecDepth 20000 in
theorem xr_274_e : xj_row 274 = some xr_274 := rfl
def f274_33  (r3 : Nat → Int → Int → Int → Int → xj_M → Option (Int × xj_M)) (f : Nat) (x0 : Nat) (x1 : Int) (x2 : Int) (x3 : Int) (x4 : Int) (M : xj_M) : Option (Int × xj_M) := r3 (x0) (x1) (x2) (x3) (xwr ((x4) + (1))) M
theorem k274_33 {d f : Nat}  {r3 : Nat → Int → Int → Int → Int → xj_M → Option (Int × xj_M)}  (hr3 : ∀ {x0 : Nat} {x1 : Int} {x2 : Int} {x3 : Int} {x4 : Int} {M : xj_M} {R : Int × xj_M}, xin x1 → xin x2 → xin x3 → xin x4 → r3 x0 x1 x2 x3 x4 M = some R → xW (d + 2) (none, d + 2, none) xr_274 (3, [(0, xR_ x0), (1, xI x1), (2, xI x2), (3, xI x3), (4, xI x4)], [], M) (xQi R)) {x0 : Nat} {x1 : Int} {x2 : Int} {x3 : Int} {x4 : Int} {M : xj_M} {R : Int × xj_M} (hx1 : xin x1) (hx2 : xin x2) (hx3 : xin x3) (hx4 : xin x4) (h : f274_33  r3 f x0 x1 x2 x3 x4 M = some R) : xW (d + 2) (none, d + 2, none) xr_274 (33, [(0, xR_ x0), (1, xI x1), (2, xI x2), (3, xI x3), (4, xI x4)], [], M) (xQi R) := by
  unfold f274_33 at h
  refine xe_iincr (i := 4) (n := 1) (by decide +kernel) (by decide) rfl (xk_k (show ¬ (0 : Nat) = 4 by decide) (Or.inl (show ¬ (0 + 1 : Nat) = 4 by decide)) (xk_k (show ¬ (1 : Nat) = 4 by decide) (Or.inl (show ¬ (1 + 1 : Nat) = 4 by decide)) (xk_k (show ¬ (2 : Nat) = 4 by decide) (Or.inl (show ¬ (2 + 1 : Nat) = 4 by decide)) (xk_k (show ¬ (3 : Nat) = 4 by decide) (Or.inr (xI_cat _)) (xk_d rfl xk_n))))) rfl ?_
  refine xe_goto (off := -33) (nx := 3) (by decide +kernel) (by decide) ?_
  refine xW_lv rfl (l := [(0, xR_ (x0)), (1, xI (x1)), (2, xI (x2)), (3, xI (x3)), (4, xI (xwr ((x4) + (1))))]) (xsb_of ⟨rfl, rfl, rfl, rfl, rfl, trivial⟩ (show [4, 0, 1, 2, 3].Nodup by decide)) ?_
  exact hr3 hx1 hx2 hx3 (xin_wr _) h
def f274_3b  (r3 : Nat → Int → Int → Int → Int → xj_M → Option (Int × xj_M)) (f : Nat) (x0 : Nat) (x1 : Int) (x2 : Int) (x3 : Int) (x4 : Int) (M : xj_M) : Option (Int × xj_M) := (if (x3) ≤ (x4) then (some (0, M)) else ((xq_is 15 (x0) M).bind fun _ => ((f271  f (x0) (x2) (x4) M).bind fun R104 => (if (R104.1) = 0 then f274_33  r3 f (x0) (x1) (x2) (x3) (x4) R104.2 else ((xq_is 15 (x0) R104.2).bind fun _ => ((f273  f (x0) (x1) (x2) (x3) (x4) R104.2).bind fun R109 => (if (R109.1) = 0 then f274_33  r3 f (x0) (x1) (x2) (x3) (x4) R109.2 else (some (1, R109.2)))))))))
theorem k274_3b {d f : Nat}  {r3 : Nat → Int → Int → Int → Int → xj_M → Option (Int × xj_M)}  (hr3 : ∀ {x0 : Nat} {x1 : Int} {x2 : Int} {x3 : Int} {x4 : Int} {M : xj_M} {R : Int × xj_M}, xin x1 → xin x2 → xin x3 → xin x4 → r3 x0 x1 x2 x3 x4 M = some R → xW (d + 2) (none, d + 2, none) xr_274 (3, [(0, xR_ x0), (1, xI x1), (2, xI x2), (3, xI x3), (4, xI x4)], [], M) (xQi R)) {x0 : Nat} {x1 : Int} {x2 : Int} {x3 : Int} {x4 : Int} {M : xj_M} {R : Int × xj_M} (hx1 : xin x1) (hx2 : xin x2) (hx3 : xin x3) (hx4 : xin x4) (h : f274_3b  r3 f x0 x1 x2 x3 x4 M = some R) : xW (d + 2) (none, d + 2, none) xr_274 (3, [(0, xR_ x0), (1, xI x1), (2, xI x2), (3, xI x3), (4, xI x4)], [], M) (xQi R) := by
  unfold f274_3b at h
  refine xe_ldn (ins := .iload 4) (len := 2) (by decide +kernel) rfl rfl rfl rfl ?_
  refine xe_ldn (ins := .iload_n 3) (len := 1) (by decide +kernel) rfl rfl rfl rfl ?_
  refine xe_icmpge (off := 33) (t := 39) (by decide +kernel) (by decide) rfl hx4 hx3 (fun c101 => ?_) (fun c101 => ?_)
  · rw [if_pos c101] at h
    refine xe_iconst (n := 0) (by decide +kernel) rfl ?_
    cases h
    exact xe_ret_i (ty := .boolean) (by decide +kernel) rfl (by decide) ⟨rfl, rfl, (show xin (0) by decide)⟩
  · rw [if_neg c101] at h
    refine xe_alr (ins := .aload_n 0) (len := 1) (i := 0) (by decide +kernel) rfl rfl rfl rfl rfl ?_
    refine xe_ldn (ins := .iload_n 2) (len := 1) (by decide +kernel) rfl rfl rfl rfl ?_
    refine xe_ldn (ins := .iload 4) (len := 2) (by decide +kernel) rfl rfl rfl rfl ?_
    obtain ⟨_, e103, h⟩ := xbnd h
    obtain ⟨R104, e102, h⟩ := xbnd h
    refine xs_cv (i := 491) (j := 271) (ar := [xI (x4), xI (x2)]) (rest := []) (r2 := xr_271) (by decide +kernel) (by decide +kernel) (by decide +kernel) xr_271_e rfl (by decide) (by decide) e103 ?_
    refine xc_i (k271 (d := d + 1)  hx2 hx4 e102) rfl (fun hi105 => ?_)
    refine xe_ifeq (off := 17) (t := 33) (by decide +kernel) (by decide) rfl hi105 (fun c106 => ?_) (fun c106 => ?_)
    · rw [if_pos c106] at h
      refine xW_lv rfl (l := [(0, xR_ (x0)), (1, xI (x1)), (2, xI (x2)), (3, xI (x3)), (4, xI (x4))]) (xsb_of ⟨rfl, rfl, rfl, rfl, rfl, trivial⟩ (show [0, 1, 2, 3, 4].Nodup by decide)) ?_
      exact k274_33  hr3 hx1 hx2 hx3 hx4 h
    · rw [if_neg c106] at h
      refine xe_alr (ins := .aload_n 0) (len := 1) (i := 0) (by decide +kernel) rfl rfl rfl rfl rfl ?_
      refine xe_ldn (ins := .iload_n 1) (len := 1) (by decide +kernel) rfl rfl rfl rfl ?_
      refine xe_ldn (ins := .iload_n 2) (len := 1) (by decide +kernel) rfl rfl rfl rfl ?_
      refine xe_ldn (ins := .iload_n 3) (len := 1) (by decide +kernel) rfl rfl rfl rfl ?_
      refine xe_ldn (ins := .iload 4) (len := 2) (by decide +kernel) rfl rfl rfl rfl ?_
      obtain ⟨_, e108, h⟩ := xbnd h
      obtain ⟨R109, e107, h⟩ := xbnd h
      refine xs_cv (i := 494) (j := 273) (ar := [xI (x4), xI (x3), xI (x2), xI (x1)]) (rest := []) (r2 := xr_273) (by decide +kernel) (by decide +kernel) (by decide +kernel) xr_273_e rfl (by decide) (by decide) e108 ?_
      refine xc_i (k273 (d := d + 0)  hx1 hx2 hx3 hx4 e107) rfl (fun hi110 => ?_)
      refine xe_ifeq (off := 5) (t := 33) (by decide +kernel) (by decide) rfl hi110 (fun c111 => ?_) (fun c111 => ?_)
      · rw [if_pos c111] at h
        refine xW_lv rfl (l := [(0, xR_ (x0)), (1, xI (x1)), (2, xI (x2)), (3, xI (x3)), (4, xI (x4))]) (xsb_of ⟨rfl, rfl, rfl, rfl, rfl, trivial⟩ (show [0, 1, 2, 3, 4].Nodup by decide)) ?_
        exact k274_33  hr3 hx1 hx2 hx3 hx4 h
      · rw [if_neg c111] at h
        refine xe_iconst (n := 1) (by decide +kernel) rfl ?_
        cases h
        exact xe_ret_i (ty := .boolean) (by decide +kernel) rfl (by decide) ⟨rfl, rfl, (show xin (1) by decide)⟩
def f274_3   (f : Nat) : Nat → Nat → Int → Int → Int → Int → xj_M → Option (Int × xj_M)
  | 0, _, _, _, _, _, _ => none
  | n + 1, x0, x1, x2, x3, x4, M => f274_3b   (f274_3   f n) f x0 x1 x2 x3 x4 M
theorem k274_3 {d f : Nat}     : ∀ {n : Nat} {x0 : Nat} {x1 : Int} {x2 : Int} {x3 : Int} {x4 : Int} {M : xj_M} {R : Int × xj_M}, xin x1 → xin x2 → xin x3 → xin x4 → f274_3   f n x0 x1 x2 x3 x4 M = some R → xW (d + 2) (none, d + 2, none) xr_274 (3, [(0, xR_ x0), (1, xI x1), (2, xI x2), (3, xI x3), (4, xI x4)], [], M) (xQi R) := by
  intro n
  induction n with
  | zero => intros; rename_i h; cases h
  | succ n ih => intros; rename_i h; exact k274_3b   ih (by assumption) (by assumption) (by assumption) (by assumption) h
def f274  (f : Nat) (a0 : Nat) (a1 : Int) (a2 : Int) (a3 : Int) (M : xj_M) : Option (Int × xj_M) := f274_3   f f (a0) (a1) (a2) (a3) (0) M
theorem k274 {d f : Nat}   {a0 : Nat} {a1 : Int} {a2 : Int} {a3 : Int} {M : xj_M} {R : Int × xj_M} (ha1 : xin a1) (ha2 : xin a2) (ha3 : xin a3) (h : f274  f a0 a1 a2 a3 M = some R) : xT (d + 3) 274 [xR_ a0, xI a1, xI a2, xI a3] M (xQi R) := by
  refine xT_m xr_274_e (X := (none, d + 2, none)) rfl (xa_1 (xR_cat _) (xa_1 (xI_cat _) (xa_1 (xI_cat _) (xa_1 (xI_cat _) xa_n)))) (by decide) ?_
  unfold f274 at h
  refine xe_iconst (n := 0) (by decide +kernel) rfl ?_
  refine xe_isr (ins := .istore 4) (len := 2) (i := 4) (by decide +kernel) rfl rfl rfl (by decide) (xk_k (show ¬ (0 : Nat) = 4 by decide) (Or.inl (show ¬ (0 + 1 : Nat) = 4 by decide)) (xk_k (show ¬ (1 : Nat) = 4 by decide) (Or.inl (show ¬ (1 + 1 : Nat) = 4 by decide)) (xk_k (show ¬ (2 : Nat) = 4 by decide) (Or.inl (show ¬ (2 + 1 : Nat) = 4 by decide)) (xk_k (show ¬ (3 : Nat) = 4 by decide) (Or.inr (xI_cat _)) xk_n)))) rfl ?_
  refine xW_lv rfl (l := [(0, xR_ (a0)), (1, xI (a1)), (2, xI (a2)), (3, xI (a3)), (4, xI (0))]) (xsb_of ⟨rfl, rfl, rfl, rfl, rfl, trivial⟩ (show [4, 0, 1, 2, 3].Nodup by decide)) ?_
  exact k274_3   ha1 ha2 ha3 (show xin (0) by decide) h
-- ChangeHouseModel.isSome
def xr_280 : xj_mR := (15, yX15_isSome, cX15_isSome, 3, (Option.some Jvm.ClassFile.FieldType.boolean), 1, false, (9, 211), (1, 12))
set_option maxRecDepth 20000 in
theorem xr_280_e : xj_row 280 = some xr_280 := rfl
def f280_2b  (r2 : Nat → Int → Int → xj_M → Option (Int × xj_M)) (f : Nat) (x0 : Nat) (x1 : Int) (x2 : Int) (M : xj_M) : Option (Int × xj_M) := ((xq_gr 15 33 (x0) M).bind fun v101 => ((xq_gr 15 29 (x0) M).bind fun v103 => ((xq_gr 14 28 (v103) M).bind fun v105 => ((xq_ai 3 (v105) (x1) M).bind fun v107 => ((xq_ai 3 (v101) (v107) M).bind fun v109 => (if (v109) ≤ (x2) then (some (0, M)) else ((xq_gr 15 29 (x0) M).bind fun v112 => ((xq_gr 14 28 (v112) M).bind fun v114 => ((xq_ai 3 (v114) (x1) M).bind fun v116 => ((xq_is 15 (x0) M).bind fun _ => ((f272  f (x0) (x1) (v116) (x2) M).bind fun R120 => (if (R120.1) = 0 then r2 (x0) (x1) (xwr ((x2) + (1))) R120.2 else (some (1, R120.2))))))))))))))
theorem k280_2b {d f : Nat}  {r2 : Nat → Int → Int → xj_M → Option (Int × xj_M)}  (hr2 : ∀ {x0 : Nat} {x1 : Int} {x2 : Int} {M : xj_M} {R : Int × xj_M}, xin x1 → xin x2 → r2 x0 x1 x2 M = some R → xW (d + 2) (none, d + 2, none) xr_280 (2, [(0, xR_ x0), (1, xI x1), (2, xI x2)], [], M) (xQi R)) {x0 : Nat} {x1 : Int} {x2 : Int} {M : xj_M} {R : Int × xj_M} (hx1 : xin x1) (hx2 : xin x2) (h : f280_2b  r2 f x0 x1 x2 M = some R) : xW (d + 2) (none, d + 2, none) xr_280 (2, [(0, xR_ x0), (1, xI x1), (2, xI x2)], [], M) (xQi R) := by
  unfold f280_2b at h
  refine xe_ldn (ins := .iload_n 2) (len := 1) (by decide +kernel) rfl rfl rfl rfl ?_
  refine xe_alr (ins := .aload_n 0) (len := 1) (i := 0) (by decide +kernel) rfl rfl rfl rfl rfl ?_
  obtain ⟨v101, e102, h⟩ := xbnd h
  refine xs_gr (i := 430) (c := 15) (k := 33) (by decide +kernel) (by decide) (by decide +kernel) e102 rfl ?_
  refine xe_alr (ins := .aload_n 0) (len := 1) (i := 0) (by decide +kernel) rfl rfl rfl rfl rfl ?_
  obtain ⟨v103, e104, h⟩ := xbnd h
  refine xs_gr (i := 439) (c := 15) (k := 29) (by decide +kernel) (by decide) (by decide +kernel) e104 rfl ?_
  obtain ⟨v105, e106, h⟩ := xbnd h
  refine xs_gr (i := 363) (c := 14) (k := 28) (by decide +kernel) (by decide) (by decide +kernel) e106 rfl ?_
  refine xe_ldn (ins := .iload_n 1) (len := 1) (by decide +kernel) rfl rfl rfl rfl ?_
  obtain ⟨v107, e108, h⟩ := xbnd h
  refine xs_iald rfl (by decide +kernel) hx1 e108 rfl ?_
  obtain ⟨v109, e110, h⟩ := xbnd h
  refine xs_iald rfl (by decide +kernel) (xq_ai_in e108) e110 rfl ?_
  refine xe_icmpge (off := 29) (t := 46) (by decide +kernel) (by decide) rfl hx2 (xq_ai_in e110) (fun c111 => ?_) (fun c111 => ?_)
  · rw [if_pos c111] at h
    refine xe_iconst (n := 0) (by decide +kernel) rfl ?_
    cases h
    exact xe_ret_i (ty := .boolean) (by decide +kernel) rfl (by decide) ⟨rfl, rfl, (show xin (0) by decide)⟩
  · rw [if_neg c111] at h
    refine xe_alr (ins := .aload_n 0) (len := 1) (i := 0) (by decide +kernel) rfl rfl rfl rfl rfl ?_
    refine xe_ldn (ins := .iload_n 1) (len := 1) (by decide +kernel) rfl rfl rfl rfl ?_
    refine xe_alr (ins := .aload_n 0) (len := 1) (i := 0) (by decide +kernel) rfl rfl rfl rfl rfl ?_
    obtain ⟨v112, e113, h⟩ := xbnd h
    refine xs_gr (i := 439) (c := 15) (k := 29) (by decide +kernel) (by decide) (by decide +kernel) e113 rfl ?_
    obtain ⟨v114, e115, h⟩ := xbnd h
    refine xs_gr (i := 363) (c := 14) (k := 28) (by decide +kernel) (by decide) (by decide +kernel) e115 rfl ?_
    refine xe_ldn (ins := .iload_n 1) (len := 1) (by decide +kernel) rfl rfl rfl rfl ?_
    obtain ⟨v116, e117, h⟩ := xbnd h
    refine xs_iald rfl (by decide +kernel) hx1 e117 rfl ?_
    refine xe_ldn (ins := .iload_n 2) (len := 1) (by decide +kernel) rfl rfl rfl rfl ?_
    obtain ⟨_, e119, h⟩ := xbnd h
    obtain ⟨R120, e118, h⟩ := xbnd h
    refine xs_cv (i := 510) (j := 272) (ar := [xI (x2), xI (v116), xI (x1)]) (rest := []) (r2 := xr_272) (by decide +kernel) (by decide +kernel) (by decide +kernel) xr_272_e rfl (by decide) (by decide) e119 ?_
    refine xc_i (k272 (d := d + 0)  hx1 (xq_ai_in e117) hx2 e118) rfl (fun hi121 => ?_)
    refine xe_ifeq (off := 5) (t := 40) (by decide +kernel) (by decide) rfl hi121 (fun c122 => ?_) (fun c122 => ?_)
    · rw [if_pos c122] at h
      refine xe_iincr (i := 2) (n := 1) (by decide +kernel) (by decide) rfl (xk_k (show ¬ (0 : Nat) = 2 by decide) (Or.inl (show ¬ (0 + 1 : Nat) = 2 by decide)) (xk_k (show ¬ (1 : Nat) = 2 by decide) (Or.inr (xI_cat _)) (xk_d rfl xk_n))) rfl ?_
      refine xe_goto (off := -41) (nx := 2) (by decide +kernel) (by decide) ?_
      refine xW_lv rfl (l := [(0, xR_ (x0)), (1, xI (x1)), (2, xI (xwr ((x2) + (1))))]) (xsb_of ⟨rfl, rfl, rfl, trivial⟩ (show [2, 0, 1].Nodup by decide)) ?_
      exact hr2 hx1 (xin_wr _) h
    · rw [if_neg c122] at h
      refine xe_iconst (n := 1) (by decide +kernel) rfl ?_
      cases h
      exact xe_ret_i (ty := .boolean) (by decide +kernel) rfl (by decide) ⟨rfl, rfl, (show xin (1) by decide)⟩
def f280_2   (f : Nat) : Nat → Nat → Int → Int → xj_M → Option (Int × xj_M)
  | 0, _, _, _, _ => none
  | n + 1, x0, x1, x2, M => f280_2b   (f280_2   f n) f x0 x1 x2 M
theorem k280_2 {d f : Nat}     : ∀ {n : Nat} {x0 : Nat} {x1 : Int} {x2 : Int} {M : xj_M} {R : Int × xj_M}, xin x1 → xin x2 → f280_2   f n x0 x1 x2 M = some R → xW (d + 2) (none, d + 2, none) xr_280 (2, [(0, xR_ x0), (1, xI x1), (2, xI x2)], [], M) (xQi R) := by
  intro n
  induction n with
  | zero => intros; rename_i h; cases h
  | succ n ih => intros; rename_i h; exact k280_2b   ih (by assumption) (by assumption) h
def f280  (f : Nat) (a0 : Nat) (a1 : Int) (M : xj_M) : Option (Int × xj_M) := f280_2   f f (a0) (a1) (0) M
theorem k280 {d f : Nat}   {a0 : Nat} {a1 : Int} {M : xj_M} {R : Int × xj_M} (ha1 : xin a1) (h : f280  f a0 a1 M = some R) : xT (d + 3) 280 [xR_ a0, xI a1] M (xQi R) := by
  refine xT_m xr_280_e (X := (none, d + 2, none)) rfl (xa_1 (xR_cat _) (xa_1 (xI_cat _) xa_n)) (by decide) ?_
  unfold f280 at h
  refine xe_iconst (n := 0) (by decide +kernel) rfl ?_
  refine xe_isr (ins := .istore_n 2) (len := 1) (i := 2) (by decide +kernel) rfl rfl rfl (by decide) (xk_k (show ¬ (0 : Nat) = 2 by decide) (Or.inl (show ¬ (0 + 1 : Nat) = 2 by decide)) (xk_k (show ¬ (1 : Nat) = 2 by decide) (Or.inr (xI_cat _)) xk_n)) rfl ?_
  refine xW_lv rfl (l := [(0, xR_ (a0)), (1, xI (a1)), (2, xI (0))]) (xsb_of ⟨rfl, rfl, rfl, trivial⟩ (show [2, 0, 1].Nodup by decide)) ?_
  exact k280_2   ha1 (show xin (0) by decide) h
-- ChangeHouseModel.newRow
def xr_284 : xj_mR := (15, yX15_newRow, cX15_newRow, 3, (Option.none : Option Jvm.ClassFile.FieldType), 1, false, (9, 231), (1, 12))
set_option maxRecDepth 20000 in
theorem xr_284_e : xj_row 284 = some xr_284 := rfl
def f284_63  (r17 : Nat → Int → Int → xj_M → Option (xj_M)) (f : Nat) (x0 : Nat) (x1 : Int) (x2 : Int) (M : xj_M) : Option (xj_M) := r17 (x0) (x1) (xwr ((x2) + (1))) M
theorem k284_63 {d f : Nat}  {r17 : Nat → Int → Int → xj_M → Option (xj_M)}  (hr17 : ∀ {x0 : Nat} {x1 : Int} {x2 : Int} {M : xj_M} {R : xj_M}, xin x1 → xin x2 → r17 x0 x1 x2 M = some R → xW (d + 2) (none, d + 2, none) xr_284 (17, [(0, xR_ x0), (1, xI x1), (2, xI x2)], [], M) (xQv R)) {x0 : Nat} {x1 : Int} {x2 : Int} {M : xj_M} {R : xj_M} (hx1 : xin x1) (hx2 : xin x2) (h : f284_63  r17 f x0 x1 x2 M = some R) : xW (d + 2) (none, d + 2, none) xr_284 (63, [(0, xR_ x0), (1, xI x1), (2, xI x2)], [], M) (xQv R) := by
  unfold f284_63 at h
  refine xe_iincr (i := 2) (n := 1) (by decide +kernel) (by decide) rfl (xk_k (show ¬ (0 : Nat) = 2 by decide) (Or.inl (show ¬ (0 + 1 : Nat) = 2 by decide)) (xk_k (show ¬ (1 : Nat) = 2 by decide) (Or.inr (xI_cat _)) (xk_d rfl xk_n))) rfl ?_
  refine xe_goto (off := -49) (nx := 17) (by decide +kernel) (by decide) ?_
  refine xW_lv rfl (l := [(0, xR_ (x0)), (1, xI (x1)), (2, xI (xwr ((x2) + (1))))]) (xsb_of ⟨rfl, rfl, rfl, trivial⟩ (show [2, 0, 1].Nodup by decide)) ?_
  exact hr17 hx1 (xin_wr _) h
def f284_115b  (r115 : Nat → Int → xj_M → Option (xj_M)) (f : Nat) (x0 : Nat) (x2 : Int) (M : xj_M) : Option (xj_M) := (if (4) ≤ (x2) then ((xq_gi 15 47 (x0) M).bind fun v102 => ((xq_pi 15 47 (x0) (xwr ((v102) + (1))) M).bind fun M104 => (some M104))) else ((xq_gr 15 46 (x0) M).bind fun v106 => ((xq_gi 15 47 (x0) M).bind fun v108 => ((xq_gr 15 44 (x0) M).bind fun v110 => ((xq_al (v110) (x2) M).bind fun v112 => ((xq_sl (v106) (xwr ((xwr ((4) * (v108))) + (x2))) (v112) M).bind fun M114 => r115 (x0) (xwr ((x2) + (1))) M114))))))
theorem k284_115b {d f : Nat}  {r115 : Nat → Int → xj_M → Option (xj_M)}  (hr115 : ∀ {x0 : Nat} {x2 : Int} {M : xj_M} {R : xj_M}, xin x2 → r115 x0 x2 M = some R → xW (d + 2) (none, d + 2, none) xr_284 (115, [(0, xR_ x0), (2, xI x2)], [], M) (xQv R)) {x0 : Nat} {x2 : Int} {M : xj_M} {R : xj_M} (hx2 : xin x2) (h : f284_115b  r115 f x0 x2 M = some R) : xW (d + 2) (none, d + 2, none) xr_284 (115, [(0, xR_ x0), (2, xI x2)], [], M) (xQv R) := by
  unfold f284_115b at h
  refine xe_ldn (ins := .iload_n 2) (len := 1) (by decide +kernel) rfl rfl rfl rfl ?_
  refine xe_iconst (n := 4) (by decide +kernel) rfl ?_
  refine xe_icmpge (off := 28) (t := 145) (by decide +kernel) (by decide) rfl hx2 (show xin (4) by decide) (fun c101 => ?_) (fun c101 => ?_)
  · rw [if_pos c101] at h
    refine xe_alr (ins := .aload_n 0) (len := 1) (i := 0) (by decide +kernel) rfl rfl rfl rfl rfl ?_
    refine xe_dupr (by decide +kernel) rfl ?_
    obtain ⟨v102, e103, h⟩ := xbnd h
    refine xs_gi (i := 562) (c := 15) (k := 47) (by decide +kernel) (by decide) (by decide +kernel) e103 rfl ?_
    refine xe_iconst (n := 1) (by decide +kernel) rfl ?_
    refine xe_iadd (by decide +kernel) rfl ?_
    obtain ⟨M104, e105, h⟩ := xbnd h
    refine xs_p (i := 562) (c := 15) (k := 47) (by decide +kernel) (by decide +kernel) (by decide +kernel) e105 rfl ?_
    cases h
    exact xe_ret_v (by decide +kernel) rfl ⟨rfl, rfl⟩
  · rw [if_neg c101] at h
    refine xe_alr (ins := .aload_n 0) (len := 1) (i := 0) (by decide +kernel) rfl rfl rfl rfl rfl ?_
    obtain ⟨v106, e107, h⟩ := xbnd h
    refine xs_gr (i := 568) (c := 15) (k := 46) (by decide +kernel) (by decide) (by decide +kernel) e107 rfl ?_
    refine xe_iconst (n := 4) (by decide +kernel) rfl ?_
    refine xe_alr (ins := .aload_n 0) (len := 1) (i := 0) (by decide +kernel) rfl rfl rfl rfl rfl ?_
    obtain ⟨v108, e109, h⟩ := xbnd h
    refine xs_gi (i := 562) (c := 15) (k := 47) (by decide +kernel) (by decide) (by decide +kernel) e109 rfl ?_
    refine xe_imul (by decide +kernel) rfl ?_
    refine xe_ldn (ins := .iload_n 2) (len := 1) (by decide +kernel) rfl rfl rfl rfl ?_
    refine xe_iadd (by decide +kernel) rfl ?_
    refine xe_alr (ins := .aload_n 0) (len := 1) (i := 0) (by decide +kernel) rfl rfl rfl rfl rfl ?_
    obtain ⟨v110, e111, h⟩ := xbnd h
    refine xs_gr (i := 539) (c := 15) (k := 44) (by decide +kernel) (by decide) (by decide +kernel) e111 rfl ?_
    refine xe_ldn (ins := .iload_n 2) (len := 1) (by decide +kernel) rfl rfl rfl rfl ?_
    obtain ⟨v112, e113, h⟩ := xbnd h
    refine xs_lald (by decide +kernel) hx2 e113 rfl ?_
    obtain ⟨M114, e115, h⟩ := xbnd h
    refine xs_last (by decide +kernel) (xin_wr _) e115 rfl ?_
    refine xe_iincr (i := 2) (n := 1) (by decide +kernel) (by decide) rfl (xk_k (show ¬ (0 : Nat) = 2 by decide) (Or.inl (show ¬ (0 + 1 : Nat) = 2 by decide)) (xk_d rfl xk_n)) rfl ?_
    refine xe_goto (off := -27) (nx := 115) (by decide +kernel) (by decide) ?_
    refine xW_lv rfl (l := [(0, xR_ (x0)), (2, xI (xwr ((x2) + (1))))]) (xsb_of ⟨rfl, rfl, trivial⟩ (show [2, 0].Nodup by decide)) ?_
    exact hr115 (xin_wr _) h
def f284_115   (f : Nat) : Nat → Nat → Int → xj_M → Option (xj_M)
  | 0, _, _, _ => none
  | n + 1, x0, x2, M => f284_115b   (f284_115   f n) f x0 x2 M
theorem k284_115 {d f : Nat}     : ∀ {n : Nat} {x0 : Nat} {x2 : Int} {M : xj_M} {R : xj_M}, xin x2 → f284_115   f n x0 x2 M = some R → xW (d + 2) (none, d + 2, none) xr_284 (115, [(0, xR_ x0), (2, xI x2)], [], M) (xQv R) := by
  intro n
  induction n with
  | zero => intros; rename_i h; cases h
  | succ n ih => intros; rename_i h; exact k284_115b   ih (by assumption) h
def f284_17b  (r17 : Nat → Int → Int → xj_M → Option (xj_M)) (f : Nat) (x0 : Nat) (x1 : Int) (x2 : Int) (M : xj_M) : Option (xj_M) := ((xq_gi 15 47 (x0) M).bind fun v116 => (if (v116) ≤ (x2) then ((xq_gr 15 48 (x0) M).bind fun v119 => ((xq_ai 3 (v119) (x1) M).bind fun v121 => ((xq_si (v119) (x1) (xwr ((v121) + (1))) M).bind fun M123 => ((xq_gr 15 33 (x0) M123).bind fun v125 => ((xq_ai 3 (v125) (x1) M123).bind fun v127 => ((xq_gr 15 48 (x0) M123).bind fun v129 => ((xq_ai 3 (v129) (x1) M123).bind fun v131 => (if (xwr ((v127) + (v131))) ≤ (100) then ((xq_gr 15 45 (x0) M123).bind fun v134 => ((xq_gi 15 47 (x0) M123).bind fun v136 => ((xq_si (v134) (v136) (x1) M123).bind fun M138 => f284_115   f f (x0) (0) M138))) else ((xq_pi 15 43 (x0) (1) M123).bind fun M140 => (some M140)))))))))) else ((xq_gr 15 45 (x0) M).bind fun v142 => ((xq_ai 3 (v142) (x2) M).bind fun v144 => (if ¬ (v144) = (x1) then f284_63  r17 f (x0) (x1) (x2) M else ((xq_gr 15 46 (x0) M).bind fun v147 => ((xq_gr 15 44 (x0) M).bind fun v149 => ((xq_gr 15 29 (x0) M).bind fun v151 => ((xq_gr 14 1 (v151) M).bind fun v153 => ((xq_ai 3 (v153) (x1) M).bind fun v155 => ((f262  f (v147) (xwr ((4) * (x2))) (v149) (0) (v155) M).bind fun R158 => (if ¬ (R158.1) = 0 then f284_63  r17 f (x0) (x1) (x2) R158.2 else (some R158.2)))))))))))))
theorem k284_17b {d f : Nat}  {r17 : Nat → Int → Int → xj_M → Option (xj_M)}  (hr17 : ∀ {x0 : Nat} {x1 : Int} {x2 : Int} {M : xj_M} {R : xj_M}, xin x1 → xin x2 → r17 x0 x1 x2 M = some R → xW (d + 2) (none, d + 2, none) xr_284 (17, [(0, xR_ x0), (1, xI x1), (2, xI x2)], [], M) (xQv R)) {x0 : Nat} {x1 : Int} {x2 : Int} {M : xj_M} {R : xj_M} (hx1 : xin x1) (hx2 : xin x2) (h : f284_17b  r17 f x0 x1 x2 M = some R) : xW (d + 2) (none, d + 2, none) xr_284 (17, [(0, xR_ x0), (1, xI x1), (2, xI x2)], [], M) (xQv R) := by
  unfold f284_17b at h
  refine xe_ldn (ins := .iload_n 2) (len := 1) (by decide +kernel) rfl rfl rfl rfl ?_
  refine xe_alr (ins := .aload_n 0) (len := 1) (i := 0) (by decide +kernel) rfl rfl rfl rfl rfl ?_
  obtain ⟨v116, e117, h⟩ := xbnd h
  refine xs_gi (i := 562) (c := 15) (k := 47) (by decide +kernel) (by decide) (by decide +kernel) e117 rfl ?_
  refine xe_icmpge (off := 47) (t := 69) (by decide +kernel) (by decide) rfl hx2 (xq_gi_in e117) (fun c118 => ?_) (fun c118 => ?_)
  · rw [if_pos c118] at h
    refine xe_alr (ins := .aload_n 0) (len := 1) (i := 0) (by decide +kernel) rfl rfl rfl rfl rfl ?_
    obtain ⟨v119, e120, h⟩ := xbnd h
    refine xs_gr (i := 571) (c := 15) (k := 48) (by decide +kernel) (by decide) (by decide +kernel) e120 rfl ?_
    refine xe_ldn (ins := .iload_n 1) (len := 1) (by decide +kernel) rfl rfl rfl rfl ?_
    refine xe_dup2r (xI_cat _) (xR_cat _) (by decide +kernel) rfl ?_
    obtain ⟨v121, e122, h⟩ := xbnd h
    refine xs_iald rfl (by decide +kernel) hx1 e122 rfl ?_
    refine xe_iconst (n := 1) (by decide +kernel) rfl ?_
    refine xe_iadd (by decide +kernel) rfl ?_
    obtain ⟨M123, e124, h⟩ := xbnd h
    refine xs_iast (by decide +kernel) hx1 e124 rfl ?_
    refine xe_alr (ins := .aload_n 0) (len := 1) (i := 0) (by decide +kernel) rfl rfl rfl rfl rfl ?_
    obtain ⟨v125, e126, h⟩ := xbnd h
    refine xs_gr (i := 430) (c := 15) (k := 33) (by decide +kernel) (by decide) (by decide +kernel) e126 rfl ?_
    refine xe_ldn (ins := .iload_n 1) (len := 1) (by decide +kernel) rfl rfl rfl rfl ?_
    obtain ⟨v127, e128, h⟩ := xbnd h
    refine xs_iald rfl (by decide +kernel) hx1 e128 rfl ?_
    refine xe_alr (ins := .aload_n 0) (len := 1) (i := 0) (by decide +kernel) rfl rfl rfl rfl rfl ?_
    obtain ⟨v129, e130, h⟩ := xbnd h
    refine xs_gr (i := 571) (c := 15) (k := 48) (by decide +kernel) (by decide) (by decide +kernel) e130 rfl ?_
    refine xe_ldn (ins := .iload_n 1) (len := 1) (by decide +kernel) rfl rfl rfl rfl ?_
    obtain ⟨v131, e132, h⟩ := xbnd h
    refine xs_iald rfl (by decide +kernel) hx1 e132 rfl ?_
    refine xe_iadd (by decide +kernel) rfl ?_
    refine xe_bipush (n := 100) (by decide +kernel) (by decide) rfl ?_
    refine xe_icmple (off := 9) (t := 103) (by decide +kernel) (by decide) rfl (xin_wr _) (show xin (100) by decide) (fun c133 => ?_) (fun c133 => ?_)
    · rw [if_pos c133] at h
      refine xe_alr (ins := .aload_n 0) (len := 1) (i := 0) (by decide +kernel) rfl rfl rfl rfl rfl ?_
      obtain ⟨v134, e135, h⟩ := xbnd h
      refine xs_gr (i := 565) (c := 15) (k := 45) (by decide +kernel) (by decide) (by decide +kernel) e135 rfl ?_
      refine xe_alr (ins := .aload_n 0) (len := 1) (i := 0) (by decide +kernel) rfl rfl rfl rfl rfl ?_
      obtain ⟨v136, e137, h⟩ := xbnd h
      refine xs_gi (i := 562) (c := 15) (k := 47) (by decide +kernel) (by decide) (by decide +kernel) e137 rfl ?_
      refine xe_ldn (ins := .iload_n 1) (len := 1) (by decide +kernel) rfl rfl rfl rfl ?_
      obtain ⟨M138, e139, h⟩ := xbnd h
      refine xs_iast (by decide +kernel) (xq_gi_in e137) e139 rfl ?_
      refine xe_iconst (n := 0) (by decide +kernel) rfl ?_
      refine xe_isr (ins := .istore_n 2) (len := 1) (i := 2) (by decide +kernel) rfl rfl rfl (by decide) (xk_k (show ¬ (0 : Nat) = 2 by decide) (Or.inl (show ¬ (0 + 1 : Nat) = 2 by decide)) (xk_k (show ¬ (1 : Nat) = 2 by decide) (Or.inr (xI_cat _)) (xk_d rfl xk_n))) rfl ?_
      refine xW_lv rfl (l := [(0, xR_ (x0)), (2, xI (0))]) (xsb_of ⟨rfl, rfl, trivial⟩ (show [2, 0, 1].Nodup by decide)) ?_
      exact k284_115   (show xin (0) by decide) h
    · rw [if_neg c133] at h
      refine xe_alr (ins := .aload_n 0) (len := 1) (i := 0) (by decide +kernel) rfl rfl rfl rfl rfl ?_
      refine xe_iconst (n := 1) (by decide +kernel) rfl ?_
      obtain ⟨M140, e141, h⟩ := xbnd h
      refine xs_p (i := 498) (c := 15) (k := 43) (by decide +kernel) (by decide +kernel) (by decide +kernel) e141 rfl ?_
      cases h
      exact xe_ret_v (by decide +kernel) rfl ⟨rfl, rfl⟩
  · rw [if_neg c118] at h
    refine xe_alr (ins := .aload_n 0) (len := 1) (i := 0) (by decide +kernel) rfl rfl rfl rfl rfl ?_
    obtain ⟨v142, e143, h⟩ := xbnd h
    refine xs_gr (i := 565) (c := 15) (k := 45) (by decide +kernel) (by decide) (by decide +kernel) e143 rfl ?_
    refine xe_ldn (ins := .iload_n 2) (len := 1) (by decide +kernel) rfl rfl rfl rfl ?_
    obtain ⟨v144, e145, h⟩ := xbnd h
    refine xs_iald rfl (by decide +kernel) hx2 e145 rfl ?_
    refine xe_ldn (ins := .iload_n 1) (len := 1) (by decide +kernel) rfl rfl rfl rfl ?_
    refine xe_icmpne (off := 31) (t := 63) (by decide +kernel) (by decide) rfl (xq_ai_in e145) hx1 (fun c146 => ?_) (fun c146 => ?_)
    · rw [if_pos c146] at h
      refine xW_lv rfl (l := [(0, xR_ (x0)), (1, xI (x1)), (2, xI (x2))]) (xsb_of ⟨rfl, rfl, rfl, trivial⟩ (show [0, 1, 2].Nodup by decide)) ?_
      exact k284_63  hr17 hx1 hx2 h
    · rw [if_neg c146] at h
      refine xe_alr (ins := .aload_n 0) (len := 1) (i := 0) (by decide +kernel) rfl rfl rfl rfl rfl ?_
      obtain ⟨v147, e148, h⟩ := xbnd h
      refine xs_gr (i := 568) (c := 15) (k := 46) (by decide +kernel) (by decide) (by decide +kernel) e148 rfl ?_
      refine xe_iconst (n := 4) (by decide +kernel) rfl ?_
      refine xe_ldn (ins := .iload_n 2) (len := 1) (by decide +kernel) rfl rfl rfl rfl ?_
      refine xe_imul (by decide +kernel) rfl ?_
      refine xe_alr (ins := .aload_n 0) (len := 1) (i := 0) (by decide +kernel) rfl rfl rfl rfl rfl ?_
      obtain ⟨v149, e150, h⟩ := xbnd h
      refine xs_gr (i := 539) (c := 15) (k := 44) (by decide +kernel) (by decide) (by decide +kernel) e150 rfl ?_
      refine xe_iconst (n := 0) (by decide +kernel) rfl ?_
      refine xe_alr (ins := .aload_n 0) (len := 1) (i := 0) (by decide +kernel) rfl rfl rfl rfl rfl ?_
      obtain ⟨v151, e152, h⟩ := xbnd h
      refine xs_gr (i := 439) (c := 15) (k := 29) (by decide +kernel) (by decide) (by decide +kernel) e152 rfl ?_
      obtain ⟨v153, e154, h⟩ := xbnd h
      refine xs_gr (i := 180) (c := 14) (k := 1) (by decide +kernel) (by decide) (by decide +kernel) e154 rfl ?_
      refine xe_ldn (ins := .iload_n 1) (len := 1) (by decide +kernel) rfl rfl rfl rfl ?_
      obtain ⟨v155, e156, h⟩ := xbnd h
      refine xs_iald rfl (by decide +kernel) hx1 e156 rfl ?_
      obtain ⟨R158, e157, h⟩ := xbnd h
      refine xs_cs (kd := 2) (by decide) (i := 442) (j := 262) (ar := [xI (v155), xI (0), xR_ (v149), xI (xwr ((4) * (x2))), xR_ (v147)]) (rest := []) (r2 := xr_262) (by decide +kernel) (by decide +kernel) (by decide +kernel) xr_262_e rfl (by decide) ?_
      refine xc_i (k262 (d := d + 1)  (xin_wr _) (show xin (0) by decide) (xq_ai_in e156) e157) rfl (fun hi159 => ?_)
      refine xe_ifne (off := 4) (t := 63) (by decide +kernel) (by decide) rfl hi159 (fun c160 => ?_) (fun c160 => ?_)
      · rw [if_pos c160] at h
        refine xW_lv rfl (l := [(0, xR_ (x0)), (1, xI (x1)), (2, xI (x2))]) (xsb_of ⟨rfl, rfl, rfl, trivial⟩ (show [0, 1, 2].Nodup by decide)) ?_
        exact k284_63  hr17 hx1 hx2 h
      · rw [if_neg c160] at h
        cases h
        exact xe_ret_v (by decide +kernel) rfl ⟨rfl, rfl⟩
def f284_17   (f : Nat) : Nat → Nat → Int → Int → xj_M → Option (xj_M)
  | 0, _, _, _, _ => none
  | n + 1, x0, x1, x2, M => f284_17b   (f284_17   f n) f x0 x1 x2 M
theorem k284_17 {d f : Nat}     : ∀ {n : Nat} {x0 : Nat} {x1 : Int} {x2 : Int} {M : xj_M} {R : xj_M}, xin x1 → xin x2 → f284_17   f n x0 x1 x2 M = some R → xW (d + 2) (none, d + 2, none) xr_284 (17, [(0, xR_ x0), (1, xI x1), (2, xI x2)], [], M) (xQv R) := by
  intro n
  induction n with
  | zero => intros; rename_i h; cases h
  | succ n ih => intros; rename_i h; exact k284_17b   ih (by assumption) (by assumption) h
def f284  (f : Nat) (a0 : Nat) (a1 : Int) (M : xj_M) : Option (xj_M) := ((xq_gr 15 44 (a0) M).bind fun v161 => ((xq_is 15 (a0) M).bind fun _ => ((f263  f (a0) (a1) (v161) (0) M).bind fun R165 => (if (R165.1) = (-1) then f284_17   f f (a0) (a1) (0) R165.2 else (some R165.2)))))
theorem k284 {d f : Nat}   {a0 : Nat} {a1 : Int} {M : xj_M} {R : xj_M} (ha1 : xin a1) (h : f284  f a0 a1 M = some R) : xT (d + 3) 284 [xR_ a0, xI a1] M (xQv R) := by
  refine xT_m xr_284_e (X := (none, d + 2, none)) rfl (xa_1 (xR_cat _) (xa_1 (xI_cat _) xa_n)) (by decide) ?_
  unfold f284 at h
  refine xe_alr (ins := .aload_n 0) (len := 1) (i := 0) (by decide +kernel) rfl rfl rfl rfl rfl ?_
  refine xe_ldn (ins := .iload_n 1) (len := 1) (by decide +kernel) rfl rfl rfl rfl ?_
  refine xe_alr (ins := .aload_n 0) (len := 1) (i := 0) (by decide +kernel) rfl rfl rfl rfl rfl ?_
  obtain ⟨v161, e162, h⟩ := xbnd h
  refine xs_gr (i := 539) (c := 15) (k := 44) (by decide +kernel) (by decide) (by decide +kernel) e162 rfl ?_
  refine xe_iconst (n := 0) (by decide +kernel) rfl ?_
  obtain ⟨_, e164, h⟩ := xbnd h
  obtain ⟨R165, e163, h⟩ := xbnd h
  refine xs_cv (i := 446) (j := 263) (ar := [xI (0), xR_ (v161), xI (a1)]) (rest := []) (r2 := xr_263) (by decide +kernel) (by decide +kernel) (by decide +kernel) xr_263_e rfl (by decide) (by decide) e164 ?_
  refine xc_i (k263 (d := d + 0)  ha1 (show xin (0) by decide) e163) rfl (fun hi166 => ?_)
  refine xe_iconst (n := -1) (by decide +kernel) rfl ?_
  refine xe_icmpeq (off := 4) (t := 15) (by decide +kernel) (by decide) rfl hi166 (show xin (-1) by decide) (fun c167 => ?_) (fun c167 => ?_)
  · rw [if_pos c167] at h
    refine xe_iconst (n := 0) (by decide +kernel) rfl ?_
    refine xe_isr (ins := .istore_n 2) (len := 1) (i := 2) (by decide +kernel) rfl rfl rfl (by decide) (xk_k (show ¬ (0 : Nat) = 2 by decide) (Or.inl (show ¬ (0 + 1 : Nat) = 2 by decide)) (xk_k (show ¬ (1 : Nat) = 2 by decide) (Or.inr (xI_cat _)) xk_n)) rfl ?_
    refine xW_lv rfl (l := [(0, xR_ (a0)), (1, xI (a1)), (2, xI (0))]) (xsb_of ⟨rfl, rfl, rfl, trivial⟩ (show [2, 0, 1].Nodup by decide)) ?_
    exact k284_17   ha1 (show xin (0) by decide) h
  · rw [if_neg c167] at h
    cases h
    exact xe_ret_v (by decide +kernel) rfl ⟨rfl, rfl⟩
-- ChangeHouseModel.answer
def xr_285 : xj_mR := (15, yX15_answer, cX15_answer, 3, (Option.none : Option Jvm.ClassFile.FieldType), 0, false, (10, 0), (1, 12))
set_option maxRecDepth 20000 in
theorem xr_285_e : xj_row 285 = some xr_285 := rfl
def f285_62b  (r31 : Nat → Int → xj_M → Option (xj_M)) (r62 : Nat → Int → Int → xj_M → Option (xj_M)) (f : Nat) (x0 : Nat) (x1 : Int) (x2 : Int) (M : xj_M) : Option (xj_M) := (if (8) ≤ (x2) then r31 (x0) (xwr ((x1) + (-1))) M else ((xq_gr 15 49 (x0) M).bind fun v102 => ((xq_gr 15 49 (x0) M).bind fun v104 => ((xq_al (v104) (xwr ((xwr ((8) * (xwr ((x1) - (1))))) + (x2))) M).bind fun v106 => ((xq_sl (v102) (xwr ((xwr ((8) * (x1))) + (x2))) (v106) M).bind fun M108 => r62 (x0) (x1) (xwr ((x2) + (1))) M108)))))
theorem k285_62b {d f : Nat}  {r31 : Nat → Int → xj_M → Option (xj_M)} {r62 : Nat → Int → Int → xj_M → Option (xj_M)}  (hr31 : ∀ {x0 : Nat} {x1 : Int} {M : xj_M} {R : xj_M}, xin x1 → r31 x0 x1 M = some R → xW (d + 1) (none, d + 1, none) xr_285 (31, [(0, xR_ x0), (1, xI x1)], [], M) (xQv R)) (hr62 : ∀ {x0 : Nat} {x1 : Int} {x2 : Int} {M : xj_M} {R : xj_M}, xin x1 → xin x2 → r62 x0 x1 x2 M = some R → xW (d + 1) (none, d + 1, none) xr_285 (62, [(0, xR_ x0), (1, xI x1), (2, xI x2)], [], M) (xQv R)) {x0 : Nat} {x1 : Int} {x2 : Int} {M : xj_M} {R : xj_M} (hx1 : xin x1) (hx2 : xin x2) (h : f285_62b  r31 r62 f x0 x1 x2 M = some R) : xW (d + 1) (none, d + 1, none) xr_285 (62, [(0, xR_ x0), (1, xI x1), (2, xI x2)], [], M) (xQv R) := by
  unfold f285_62b at h
  refine xe_ldn (ins := .iload_n 2) (len := 1) (by decide +kernel) rfl rfl rfl rfl ?_
  refine xe_bipush (n := 8) (by decide +kernel) (by decide) rfl ?_
  refine xe_icmpge (off := 33) (t := 98) (by decide +kernel) (by decide) rfl hx2 (show xin (8) by decide) (fun c101 => ?_) (fun c101 => ?_)
  · rw [if_pos c101] at h
    refine xe_iincr (i := 1) (n := -1) (by decide +kernel) (by decide) rfl (xk_k (show ¬ (0 : Nat) = 1 by decide) (Or.inr (xR_cat _)) (xk_d rfl (xk_k (show ¬ (2 : Nat) = 1 by decide) (Or.inl (show ¬ (2 + 1 : Nat) = 1 by decide)) xk_n))) rfl ?_
    refine xe_goto (off := -70) (nx := 31) (by decide +kernel) (by decide) ?_
    refine xW_lv rfl (l := [(0, xR_ (x0)), (1, xI (xwr ((x1) + (-1))))]) (xsb_of ⟨rfl, rfl, trivial⟩ (show [1, 0, 2].Nodup by decide)) ?_
    exact hr31 (xin_wr _) h
  · rw [if_neg c101] at h
    refine xe_alr (ins := .aload_n 0) (len := 1) (i := 0) (by decide +kernel) rfl rfl rfl rfl rfl ?_
    obtain ⟨v102, e103, h⟩ := xbnd h
    refine xs_gr (i := 577) (c := 15) (k := 49) (by decide +kernel) (by decide) (by decide +kernel) e103 rfl ?_
    refine xe_bipush (n := 8) (by decide +kernel) (by decide) rfl ?_
    refine xe_ldn (ins := .iload_n 1) (len := 1) (by decide +kernel) rfl rfl rfl rfl ?_
    refine xe_imul (by decide +kernel) rfl ?_
    refine xe_ldn (ins := .iload_n 2) (len := 1) (by decide +kernel) rfl rfl rfl rfl ?_
    refine xe_iadd (by decide +kernel) rfl ?_
    refine xe_alr (ins := .aload_n 0) (len := 1) (i := 0) (by decide +kernel) rfl rfl rfl rfl rfl ?_
    obtain ⟨v104, e105, h⟩ := xbnd h
    refine xs_gr (i := 577) (c := 15) (k := 49) (by decide +kernel) (by decide) (by decide +kernel) e105 rfl ?_
    refine xe_bipush (n := 8) (by decide +kernel) (by decide) rfl ?_
    refine xe_ldn (ins := .iload_n 1) (len := 1) (by decide +kernel) rfl rfl rfl rfl ?_
    refine xe_iconst (n := 1) (by decide +kernel) rfl ?_
    refine xe_isub (by decide +kernel) rfl ?_
    refine xe_imul (by decide +kernel) rfl ?_
    refine xe_ldn (ins := .iload_n 2) (len := 1) (by decide +kernel) rfl rfl rfl rfl ?_
    refine xe_iadd (by decide +kernel) rfl ?_
    obtain ⟨v106, e107, h⟩ := xbnd h
    refine xs_lald (by decide +kernel) (xin_wr _) e107 rfl ?_
    obtain ⟨M108, e109, h⟩ := xbnd h
    refine xs_last (by decide +kernel) (xin_wr _) e109 rfl ?_
    refine xe_iincr (i := 2) (n := 1) (by decide +kernel) (by decide) rfl (xk_k (show ¬ (0 : Nat) = 2 by decide) (Or.inl (show ¬ (0 + 1 : Nat) = 2 by decide)) (xk_k (show ¬ (1 : Nat) = 2 by decide) (Or.inr (xI_cat _)) (xk_d rfl xk_n))) rfl ?_
    refine xe_goto (off := -33) (nx := 62) (by decide +kernel) (by decide) ?_
    refine xW_lv rfl (l := [(0, xR_ (x0)), (1, xI (x1)), (2, xI (xwr ((x2) + (1))))]) (xsb_of ⟨rfl, rfl, rfl, trivial⟩ (show [2, 0, 1].Nodup by decide)) ?_
    exact hr62 hx1 (xin_wr _) h
def f285_62  (r31 : Nat → Int → xj_M → Option (xj_M)) (f : Nat) : Nat → Nat → Int → Int → xj_M → Option (xj_M)
  | 0, _, _, _, _ => none
  | n + 1, x0, x1, x2, M => f285_62b  r31 (f285_62  r31 f n) f x0 x1 x2 M
theorem k285_62 {d f : Nat}  {r31 : Nat → Int → xj_M → Option (xj_M)}  (hr31 : ∀ {x0 : Nat} {x1 : Int} {M : xj_M} {R : xj_M}, xin x1 → r31 x0 x1 M = some R → xW (d + 1) (none, d + 1, none) xr_285 (31, [(0, xR_ x0), (1, xI x1)], [], M) (xQv R)) : ∀ {n : Nat} {x0 : Nat} {x1 : Int} {x2 : Int} {M : xj_M} {R : xj_M}, xin x1 → xin x2 → f285_62  r31 f n x0 x1 x2 M = some R → xW (d + 1) (none, d + 1, none) xr_285 (62, [(0, xR_ x0), (1, xI x1), (2, xI x2)], [], M) (xQv R) := by
  intro n
  induction n with
  | zero => intros; rename_i h; cases h
  | succ n ih => intros; rename_i h; exact k285_62b  hr31 ih (by assumption) (by assumption) h
def f285_106b  (r106 : Nat → Int → Int → xj_M → Option (xj_M)) (f : Nat) (x0 : Nat) (x1 : Int) (x2 : Int) (M : xj_M) : Option (xj_M) := (if (8) ≤ (x2) then ((xq_gi 15 52 (x0) M).bind fun v111 => ((xq_pi 15 52 (x0) (xwr ((v111) + (1))) M).bind fun M113 => (some M113))) else ((xq_gr 15 49 (x0) M).bind fun v115 => ((xq_gr 15 35 (x0) M).bind fun v117 => ((xq_al (v117) (x2) M).bind fun v119 => ((xq_sl (v115) (xwr ((xwr ((8) * (x1))) + (x2))) (v119) M).bind fun M121 => r106 (x0) (x1) (xwr ((x2) + (1))) M121)))))
theorem k285_106b {d f : Nat}  {r106 : Nat → Int → Int → xj_M → Option (xj_M)}  (hr106 : ∀ {x0 : Nat} {x1 : Int} {x2 : Int} {M : xj_M} {R : xj_M}, xin x1 → xin x2 → r106 x0 x1 x2 M = some R → xW (d + 1) (none, d + 1, none) xr_285 (106, [(0, xR_ x0), (1, xI x1), (2, xI x2)], [], M) (xQv R)) {x0 : Nat} {x1 : Int} {x2 : Int} {M : xj_M} {R : xj_M} (hx1 : xin x1) (hx2 : xin x2) (h : f285_106b  r106 f x0 x1 x2 M = some R) : xW (d + 1) (none, d + 1, none) xr_285 (106, [(0, xR_ x0), (1, xI x1), (2, xI x2)], [], M) (xQv R) := by
  unfold f285_106b at h
  refine xe_ldn (ins := .iload_n 2) (len := 1) (by decide +kernel) rfl rfl rfl rfl ?_
  refine xe_bipush (n := 8) (by decide +kernel) (by decide) rfl ?_
  refine xe_icmpge (off := 26) (t := 135) (by decide +kernel) (by decide) rfl hx2 (show xin (8) by decide) (fun c110 => ?_) (fun c110 => ?_)
  · rw [if_pos c110] at h
    refine xe_alr (ins := .aload_n 0) (len := 1) (i := 0) (by decide +kernel) rfl rfl rfl rfl rfl ?_
    refine xe_dupr (by decide +kernel) rfl ?_
    obtain ⟨v111, e112, h⟩ := xbnd h
    refine xs_gi (i := 574) (c := 15) (k := 52) (by decide +kernel) (by decide) (by decide +kernel) e112 rfl ?_
    refine xe_iconst (n := 1) (by decide +kernel) rfl ?_
    refine xe_iadd (by decide +kernel) rfl ?_
    obtain ⟨M113, e114, h⟩ := xbnd h
    refine xs_p (i := 574) (c := 15) (k := 52) (by decide +kernel) (by decide +kernel) (by decide +kernel) e114 rfl ?_
    cases h
    exact xe_ret_v (by decide +kernel) rfl ⟨rfl, rfl⟩
  · rw [if_neg c110] at h
    refine xe_alr (ins := .aload_n 0) (len := 1) (i := 0) (by decide +kernel) rfl rfl rfl rfl rfl ?_
    obtain ⟨v115, e116, h⟩ := xbnd h
    refine xs_gr (i := 577) (c := 15) (k := 49) (by decide +kernel) (by decide) (by decide +kernel) e116 rfl ?_
    refine xe_bipush (n := 8) (by decide +kernel) (by decide) rfl ?_
    refine xe_ldn (ins := .iload_n 1) (len := 1) (by decide +kernel) rfl rfl rfl rfl ?_
    refine xe_imul (by decide +kernel) rfl ?_
    refine xe_ldn (ins := .iload_n 2) (len := 1) (by decide +kernel) rfl rfl rfl rfl ?_
    refine xe_iadd (by decide +kernel) rfl ?_
    refine xe_alr (ins := .aload_n 0) (len := 1) (i := 0) (by decide +kernel) rfl rfl rfl rfl rfl ?_
    obtain ⟨v117, e118, h⟩ := xbnd h
    refine xs_gr (i := 459) (c := 15) (k := 35) (by decide +kernel) (by decide) (by decide +kernel) e118 rfl ?_
    refine xe_ldn (ins := .iload_n 2) (len := 1) (by decide +kernel) rfl rfl rfl rfl ?_
    obtain ⟨v119, e120, h⟩ := xbnd h
    refine xs_lald (by decide +kernel) hx2 e120 rfl ?_
    obtain ⟨M121, e122, h⟩ := xbnd h
    refine xs_last (by decide +kernel) (xin_wr _) e122 rfl ?_
    refine xe_iincr (i := 2) (n := 1) (by decide +kernel) (by decide) rfl (xk_k (show ¬ (0 : Nat) = 2 by decide) (Or.inl (show ¬ (0 + 1 : Nat) = 2 by decide)) (xk_k (show ¬ (1 : Nat) = 2 by decide) (Or.inr (xI_cat _)) (xk_d rfl xk_n))) rfl ?_
    refine xe_goto (off := -26) (nx := 106) (by decide +kernel) (by decide) ?_
    refine xW_lv rfl (l := [(0, xR_ (x0)), (1, xI (x1)), (2, xI (xwr ((x2) + (1))))]) (xsb_of ⟨rfl, rfl, rfl, trivial⟩ (show [2, 0, 1].Nodup by decide)) ?_
    exact hr106 hx1 (xin_wr _) h
def f285_106   (f : Nat) : Nat → Nat → Int → Int → xj_M → Option (xj_M)
  | 0, _, _, _, _ => none
  | n + 1, x0, x1, x2, M => f285_106b   (f285_106   f n) f x0 x1 x2 M
theorem k285_106 {d f : Nat}     : ∀ {n : Nat} {x0 : Nat} {x1 : Int} {x2 : Int} {M : xj_M} {R : xj_M}, xin x1 → xin x2 → f285_106   f n x0 x1 x2 M = some R → xW (d + 1) (none, d + 1, none) xr_285 (106, [(0, xR_ x0), (1, xI x1), (2, xI x2)], [], M) (xQv R) := by
  intro n
  induction n with
  | zero => intros; rename_i h; cases h
  | succ n ih => intros; rename_i h; exact k285_106b   ih (by assumption) (by assumption) h
def f285_104   (f : Nat) (x0 : Nat) (x1 : Int) (M : xj_M) : Option (xj_M) := f285_106   f f (x0) (x1) (0) M
theorem k285_104 {d f : Nat}     {x0 : Nat} {x1 : Int} {M : xj_M} {R : xj_M} (hx1 : xin x1) (h : f285_104   f x0 x1 M = some R) : xW (d + 1) (none, d + 1, none) xr_285 (104, [(0, xR_ x0), (1, xI x1)], [], M) (xQv R) := by
  unfold f285_104 at h
  refine xe_iconst (n := 0) (by decide +kernel) rfl ?_
  refine xe_isr (ins := .istore_n 2) (len := 1) (i := 2) (by decide +kernel) rfl rfl rfl (by decide) (xk_k (show ¬ (0 : Nat) = 2 by decide) (Or.inl (show ¬ (0 + 1 : Nat) = 2 by decide)) (xk_k (show ¬ (1 : Nat) = 2 by decide) (Or.inr (xI_cat _)) xk_n)) rfl ?_
  refine xW_lv rfl (l := [(0, xR_ (x0)), (1, xI (x1)), (2, xI (0))]) (xsb_of ⟨rfl, rfl, rfl, trivial⟩ (show [2, 0, 1].Nodup by decide)) ?_
  exact k285_106   hx1 (show xin (0) by decide) h
def f285_31b  (r31 : Nat → Int → xj_M → Option (xj_M)) (f : Nat) (x0 : Nat) (x1 : Int) (M : xj_M) : Option (xj_M) := (if (x1) ≤ 0 then f285_104   f (x0) (x1) M else ((xq_gr 15 49 (x0) M).bind fun v124 => ((xq_gr 15 35 (x0) M).bind fun v126 => ((xq_gi 15 53 (x0) M).bind fun v128 => ((f262  f (v124) (xwr ((8) * (xwr ((x1) - (1))))) (v126) (0) (v128) M).bind fun R131 => (if (R131.1) ≤ 0 then f285_104   f (x0) (x1) R131.2 else f285_62  r31 f f (x0) (x1) (0) R131.2))))))
theorem k285_31b {d f : Nat}  {r31 : Nat → Int → xj_M → Option (xj_M)}  (hr31 : ∀ {x0 : Nat} {x1 : Int} {M : xj_M} {R : xj_M}, xin x1 → r31 x0 x1 M = some R → xW (d + 1) (none, d + 1, none) xr_285 (31, [(0, xR_ x0), (1, xI x1)], [], M) (xQv R)) {x0 : Nat} {x1 : Int} {M : xj_M} {R : xj_M} (hx1 : xin x1) (h : f285_31b  r31 f x0 x1 M = some R) : xW (d + 1) (none, d + 1, none) xr_285 (31, [(0, xR_ x0), (1, xI x1)], [], M) (xQv R) := by
  unfold f285_31b at h
  refine xe_ldn (ins := .iload_n 1) (len := 1) (by decide +kernel) rfl rfl rfl rfl ?_
  refine xe_ifle (off := 72) (t := 104) (by decide +kernel) (by decide) rfl hx1 (fun c123 => ?_) (fun c123 => ?_)
  · rw [if_pos c123] at h
    refine xW_lv rfl (l := [(0, xR_ (x0)), (1, xI (x1))]) (xsb_of ⟨rfl, rfl, trivial⟩ (show [0, 1].Nodup by decide)) ?_
    exact k285_104   hx1 h
  · rw [if_neg c123] at h
    refine xe_alr (ins := .aload_n 0) (len := 1) (i := 0) (by decide +kernel) rfl rfl rfl rfl rfl ?_
    obtain ⟨v124, e125, h⟩ := xbnd h
    refine xs_gr (i := 577) (c := 15) (k := 49) (by decide +kernel) (by decide) (by decide +kernel) e125 rfl ?_
    refine xe_bipush (n := 8) (by decide +kernel) (by decide) rfl ?_
    refine xe_ldn (ins := .iload_n 1) (len := 1) (by decide +kernel) rfl rfl rfl rfl ?_
    refine xe_iconst (n := 1) (by decide +kernel) rfl ?_
    refine xe_isub (by decide +kernel) rfl ?_
    refine xe_imul (by decide +kernel) rfl ?_
    refine xe_alr (ins := .aload_n 0) (len := 1) (i := 0) (by decide +kernel) rfl rfl rfl rfl rfl ?_
    obtain ⟨v126, e127, h⟩ := xbnd h
    refine xs_gr (i := 459) (c := 15) (k := 35) (by decide +kernel) (by decide) (by decide +kernel) e127 rfl ?_
    refine xe_iconst (n := 0) (by decide +kernel) rfl ?_
    refine xe_alr (ins := .aload_n 0) (len := 1) (i := 0) (by decide +kernel) rfl rfl rfl rfl rfl ?_
    obtain ⟨v128, e129, h⟩ := xbnd h
    refine xs_gi (i := 580) (c := 15) (k := 53) (by decide +kernel) (by decide) (by decide +kernel) e129 rfl ?_
    obtain ⟨R131, e130, h⟩ := xbnd h
    refine xs_cs (kd := 2) (by decide) (i := 442) (j := 262) (ar := [xI (v128), xI (0), xR_ (v126), xI (xwr ((8) * (xwr ((x1) - (1))))), xR_ (v124)]) (rest := []) (r2 := xr_262) (by decide +kernel) (by decide +kernel) (by decide +kernel) xr_262_e rfl (by decide) ?_
    refine xc_i (k262 (d := d + 0)  (xin_wr _) (show xin (0) by decide) (xq_gi_in e129) e130) rfl (fun hi132 => ?_)
    refine xe_ifle (off := 47) (t := 104) (by decide +kernel) (by decide) rfl hi132 (fun c133 => ?_) (fun c133 => ?_)
    · rw [if_pos c133] at h
      refine xW_lv rfl (l := [(0, xR_ (x0)), (1, xI (x1))]) (xsb_of ⟨rfl, rfl, trivial⟩ (show [0, 1].Nodup by decide)) ?_
      exact k285_104   hx1 h
    · rw [if_neg c133] at h
      refine xe_iconst (n := 0) (by decide +kernel) rfl ?_
      refine xe_isr (ins := .istore_n 2) (len := 1) (i := 2) (by decide +kernel) rfl rfl rfl (by decide) (xk_k (show ¬ (0 : Nat) = 2 by decide) (Or.inl (show ¬ (0 + 1 : Nat) = 2 by decide)) (xk_k (show ¬ (1 : Nat) = 2 by decide) (Or.inr (xI_cat _)) xk_n)) rfl ?_
      refine xW_lv rfl (l := [(0, xR_ (x0)), (1, xI (x1)), (2, xI (0))]) (xsb_of ⟨rfl, rfl, rfl, trivial⟩ (show [2, 0, 1].Nodup by decide)) ?_
      exact k285_62  hr31 hx1 (show xin (0) by decide) h
def f285_31   (f : Nat) : Nat → Nat → Int → xj_M → Option (xj_M)
  | 0, _, _, _ => none
  | n + 1, x0, x1, M => f285_31b   (f285_31   f n) f x0 x1 M
theorem k285_31 {d f : Nat}     : ∀ {n : Nat} {x0 : Nat} {x1 : Int} {M : xj_M} {R : xj_M}, xin x1 → f285_31   f n x0 x1 M = some R → xW (d + 1) (none, d + 1, none) xr_285 (31, [(0, xR_ x0), (1, xI x1)], [], M) (xQv R) := by
  intro n
  induction n with
  | zero => intros; rename_i h; cases h
  | succ n ih => intros; rename_i h; exact k285_31b   ih (by assumption) h
def f285  (f : Nat) (a0 : Nat) (M : xj_M) : Option (xj_M) := ((xq_gi 15 52 (a0) M).bind fun v134 => (if ¬ (v134) = (500) then ((xq_gi 15 52 (a0) M).bind fun v137 => f285_31   f f (a0) (v137) M) else ((xq_pi 15 43 (a0) (1) M).bind fun M139 => ((xq_gi 15 52 (a0) M139).bind fun v141 => ((xq_pi 15 52 (a0) (xwr ((v141) + (1))) M139).bind fun M143 => (some M143))))))
theorem k285 {d f : Nat}   {a0 : Nat} {M : xj_M} {R : xj_M}  (h : f285  f a0 M = some R) : xT (d + 2) 285 [xR_ a0] M (xQv R) := by
  refine xT_m xr_285_e (X := (none, d + 1, none)) rfl (xa_1 (xR_cat _) xa_n) (by decide) ?_
  unfold f285 at h
  refine xe_alr (ins := .aload_n 0) (len := 1) (i := 0) (by decide +kernel) rfl rfl rfl rfl rfl ?_
  obtain ⟨v134, e135, h⟩ := xbnd h
  refine xs_gi (i := 574) (c := 15) (k := 52) (by decide +kernel) (by decide) (by decide +kernel) e135 rfl ?_
  refine xe_sipush (n := 500) (by decide +kernel) (by decide) rfl ?_
  refine xe_icmpne (off := 19) (t := 26) (by decide +kernel) (by decide) rfl (xq_gi_in e135) (show xin (500) by decide) (fun c136 => ?_) (fun c136 => ?_)
  · rw [if_pos c136] at h
    refine xe_alr (ins := .aload_n 0) (len := 1) (i := 0) (by decide +kernel) rfl rfl rfl rfl rfl ?_
    obtain ⟨v137, e138, h⟩ := xbnd h
    refine xs_gi (i := 574) (c := 15) (k := 52) (by decide +kernel) (by decide) (by decide +kernel) e138 rfl ?_
    refine xe_isr (ins := .istore_n 1) (len := 1) (i := 1) (by decide +kernel) rfl rfl rfl (by decide) (xk_k (show ¬ (0 : Nat) = 1 by decide) (Or.inr (xR_cat _)) xk_n) rfl ?_
    refine xW_lv rfl (l := [(0, xR_ (a0)), (1, xI (v137))]) (xsb_of ⟨rfl, rfl, trivial⟩ (show [1, 0].Nodup by decide)) ?_
    exact k285_31   (xq_gi_in e138) h
  · rw [if_neg c136] at h
    refine xe_alr (ins := .aload_n 0) (len := 1) (i := 0) (by decide +kernel) rfl rfl rfl rfl rfl ?_
    refine xe_iconst (n := 1) (by decide +kernel) rfl ?_
    obtain ⟨M139, e140, h⟩ := xbnd h
    refine xs_p (i := 498) (c := 15) (k := 43) (by decide +kernel) (by decide +kernel) (by decide +kernel) e140 rfl ?_
    refine xe_alr (ins := .aload_n 0) (len := 1) (i := 0) (by decide +kernel) rfl rfl rfl rfl rfl ?_
    refine xe_dupr (by decide +kernel) rfl ?_
    obtain ⟨v141, e142, h⟩ := xbnd h
    refine xs_gi (i := 574) (c := 15) (k := 52) (by decide +kernel) (by decide) (by decide +kernel) e142 rfl ?_
    refine xe_iconst (n := 1) (by decide +kernel) rfl ?_
    refine xe_iadd (by decide +kernel) rfl ?_
    obtain ⟨M143, e144, h⟩ := xbnd h
    refine xs_p (i := 574) (c := 15) (k := 52) (by decide +kernel) (by decide +kernel) (by decide +kernel) e144 rfl ?_
    cases h
    exact xe_ret_v (by decide +kernel) rfl ⟨rfl, rfl⟩
-- ChangeHouseModel.reasonWay
def xr_286 : xj_mR := (15, yX15_reasonWay, cX15_reasonWay, 3, (Option.none : Option Jvm.ClassFile.FieldType), 0, false, (10, 4), (1, 12))
set_option maxRecDepth 20000 in
theorem xr_286_e : xj_row 286 = some xr_286 := rfl
def f286_45b  (r45 : Nat → Int → Int → xj_M → Option (xj_M)) (f : Nat) (x0 : Nat) (x1 : Int) (x2 : Int) (M : xj_M) : Option (xj_M) := (if (x1) ≤ (x2) then (some M) else ((xq_gr 15 50 (x0) M).bind fun v102 => ((xq_gr 15 35 (x0) M).bind fun v104 => ((xq_al (v104) (x2) M).bind fun v106 => ((xq_sl (v102) (x2) (v106) M).bind fun M108 => r45 (x0) (x1) (xwr ((x2) + (1))) M108)))))
theorem k286_45b {d f : Nat}  {r45 : Nat → Int → Int → xj_M → Option (xj_M)}  (hr45 : ∀ {x0 : Nat} {x1 : Int} {x2 : Int} {M : xj_M} {R : xj_M}, xin x1 → xin x2 → r45 x0 x1 x2 M = some R → xW (d + 1) (none, d + 1, none) xr_286 (45, [(0, xR_ x0), (1, xI x1), (2, xI x2)], [], M) (xQv R)) {x0 : Nat} {x1 : Int} {x2 : Int} {M : xj_M} {R : xj_M} (hx1 : xin x1) (hx2 : xin x2) (h : f286_45b  r45 f x0 x1 x2 M = some R) : xW (d + 1) (none, d + 1, none) xr_286 (45, [(0, xR_ x0), (1, xI x1), (2, xI x2)], [], M) (xQv R) := by
  unfold f286_45b at h
  refine xe_ldn (ins := .iload_n 2) (len := 1) (by decide +kernel) rfl rfl rfl rfl ?_
  refine xe_ldn (ins := .iload_n 1) (len := 1) (by decide +kernel) rfl rfl rfl rfl ?_
  refine xe_icmpge (off := 21) (t := 68) (by decide +kernel) (by decide) rfl hx2 hx1 (fun c101 => ?_) (fun c101 => ?_)
  · rw [if_pos c101] at h
    cases h
    exact xe_ret_v (by decide +kernel) rfl ⟨rfl, rfl⟩
  · rw [if_neg c101] at h
    refine xe_alr (ins := .aload_n 0) (len := 1) (i := 0) (by decide +kernel) rfl rfl rfl rfl rfl ?_
    obtain ⟨v102, e103, h⟩ := xbnd h
    refine xs_gr (i := 586) (c := 15) (k := 50) (by decide +kernel) (by decide) (by decide +kernel) e103 rfl ?_
    refine xe_ldn (ins := .iload_n 2) (len := 1) (by decide +kernel) rfl rfl rfl rfl ?_
    refine xe_alr (ins := .aload_n 0) (len := 1) (i := 0) (by decide +kernel) rfl rfl rfl rfl rfl ?_
    obtain ⟨v104, e105, h⟩ := xbnd h
    refine xs_gr (i := 459) (c := 15) (k := 35) (by decide +kernel) (by decide) (by decide +kernel) e105 rfl ?_
    refine xe_ldn (ins := .iload_n 2) (len := 1) (by decide +kernel) rfl rfl rfl rfl ?_
    obtain ⟨v106, e107, h⟩ := xbnd h
    refine xs_lald (by decide +kernel) hx2 e107 rfl ?_
    obtain ⟨M108, e109, h⟩ := xbnd h
    refine xs_last (by decide +kernel) hx2 e109 rfl ?_
    refine xe_iincr (i := 2) (n := 1) (by decide +kernel) (by decide) rfl (xk_k (show ¬ (0 : Nat) = 2 by decide) (Or.inl (show ¬ (0 + 1 : Nat) = 2 by decide)) (xk_k (show ¬ (1 : Nat) = 2 by decide) (Or.inr (xI_cat _)) (xk_d rfl xk_n))) rfl ?_
    refine xe_goto (off := -20) (nx := 45) (by decide +kernel) (by decide) ?_
    refine xW_lv rfl (l := [(0, xR_ (x0)), (1, xI (x1)), (2, xI (xwr ((x2) + (1))))]) (xsb_of ⟨rfl, rfl, rfl, trivial⟩ (show [2, 0, 1].Nodup by decide)) ?_
    exact hr45 hx1 (xin_wr _) h
def f286_45   (f : Nat) : Nat → Nat → Int → Int → xj_M → Option (xj_M)
  | 0, _, _, _, _ => none
  | n + 1, x0, x1, x2, M => f286_45b   (f286_45   f n) f x0 x1 x2 M
theorem k286_45 {d f : Nat}     : ∀ {n : Nat} {x0 : Nat} {x1 : Int} {x2 : Int} {M : xj_M} {R : xj_M}, xin x1 → xin x2 → f286_45   f n x0 x1 x2 M = some R → xW (d + 1) (none, d + 1, none) xr_286 (45, [(0, xR_ x0), (1, xI x1), (2, xI x2)], [], M) (xQv R) := by
  intro n
  induction n with
  | zero => intros; rename_i h; cases h
  | succ n ih => intros; rename_i h; exact k286_45b   ih (by assumption) (by assumption) h
def f286_38   (f : Nat) (x0 : Nat) (x1 : Int) (M : xj_M) : Option (xj_M) := ((xq_pi 15 54 (x0) (1) M).bind fun M110 => f286_45   f f (x0) (x1) (0) M110)
theorem k286_38 {d f : Nat}     {x0 : Nat} {x1 : Int} {M : xj_M} {R : xj_M} (hx1 : xin x1) (h : f286_38   f x0 x1 M = some R) : xW (d + 1) (none, d + 1, none) xr_286 (38, [(0, xR_ x0), (1, xI x1)], [], M) (xQv R) := by
  unfold f286_38 at h
  refine xe_alr (ins := .aload_n 0) (len := 1) (i := 0) (by decide +kernel) rfl rfl rfl rfl rfl ?_
  refine xe_iconst (n := 1) (by decide +kernel) rfl ?_
  obtain ⟨M110, e111, h⟩ := xbnd h
  refine xs_p (i := 583) (c := 15) (k := 54) (by decide +kernel) (by decide +kernel) (by decide +kernel) e111 rfl ?_
  refine xe_iconst (n := 0) (by decide +kernel) rfl ?_
  refine xe_isr (ins := .istore_n 2) (len := 1) (i := 2) (by decide +kernel) rfl rfl rfl (by decide) (xk_k (show ¬ (0 : Nat) = 2 by decide) (Or.inl (show ¬ (0 + 1 : Nat) = 2 by decide)) (xk_k (show ¬ (1 : Nat) = 2 by decide) (Or.inr (xI_cat _)) xk_n)) rfl ?_
  refine xW_lv rfl (l := [(0, xR_ (x0)), (1, xI (x1)), (2, xI (0))]) (xsb_of ⟨rfl, rfl, rfl, trivial⟩ (show [2, 0, 1].Nodup by decide)) ?_
  exact k286_45   hx1 (show xin (0) by decide) h
def f286  (f : Nat) (a0 : Nat) (M : xj_M) : Option (xj_M) := ((xq_gr 15 29 (a0) M).bind fun v112 => ((xq_gr 14 22 (v112) M).bind fun v114 => ((xq_gi 15 39 (a0) M).bind fun v116 => ((xq_ai 3 (v114) (v116) M).bind fun v118 => ((xq_gi 15 54 (a0) M).bind fun v120 => (if (v120) = 0 then f286_38   f (a0) (v118) M else ((xq_gr 15 50 (a0) M).bind fun v123 => ((xq_gr 15 35 (a0) M).bind fun v125 => ((f262  f (v123) (0) (v125) (0) (v118) M).bind fun R128 => (if 0 < (R128.1) then f286_38   f (a0) (v118) R128.2 else (some R128.2)))))))))))
theorem k286 {d f : Nat}   {a0 : Nat} {M : xj_M} {R : xj_M}  (h : f286  f a0 M = some R) : xT (d + 2) 286 [xR_ a0] M (xQv R) := by
  refine xT_m xr_286_e (X := (none, d + 1, none)) rfl (xa_1 (xR_cat _) xa_n) (by decide) ?_
  unfold f286 at h
  refine xe_alr (ins := .aload_n 0) (len := 1) (i := 0) (by decide +kernel) rfl rfl rfl rfl rfl ?_
  obtain ⟨v112, e113, h⟩ := xbnd h
  refine xs_gr (i := 439) (c := 15) (k := 29) (by decide +kernel) (by decide) (by decide +kernel) e113 rfl ?_
  obtain ⟨v114, e115, h⟩ := xbnd h
  refine xs_gr (i := 271) (c := 14) (k := 22) (by decide +kernel) (by decide) (by decide +kernel) e115 rfl ?_
  refine xe_alr (ins := .aload_n 0) (len := 1) (i := 0) (by decide +kernel) rfl rfl rfl rfl rfl ?_
  obtain ⟨v116, e117, h⟩ := xbnd h
  refine xs_gi (i := 501) (c := 15) (k := 39) (by decide +kernel) (by decide) (by decide +kernel) e117 rfl ?_
  obtain ⟨v118, e119, h⟩ := xbnd h
  refine xs_iald rfl (by decide +kernel) (xq_gi_in e117) e119 rfl ?_
  refine xe_isr (ins := .istore_n 1) (len := 1) (i := 1) (by decide +kernel) rfl rfl rfl (by decide) (xk_k (show ¬ (0 : Nat) = 1 by decide) (Or.inr (xR_cat _)) xk_n) rfl ?_
  refine xe_alr (ins := .aload_n 0) (len := 1) (i := 0) (by decide +kernel) rfl rfl rfl rfl rfl ?_
  obtain ⟨v120, e121, h⟩ := xbnd h
  refine xs_gi (i := 583) (c := 15) (k := 54) (by decide +kernel) (by decide) (by decide +kernel) e121 rfl ?_
  refine xe_ifeq (off := 21) (t := 38) (by decide +kernel) (by decide) rfl (xq_gi_in e121) (fun c122 => ?_) (fun c122 => ?_)
  · rw [if_pos c122] at h
    refine xW_lv rfl (l := [(0, xR_ (a0)), (1, xI (v118))]) (xsb_of ⟨rfl, rfl, trivial⟩ (show [1, 0].Nodup by decide)) ?_
    exact k286_38   (xq_ai_in e119) h
  · rw [if_neg c122] at h
    refine xe_alr (ins := .aload_n 0) (len := 1) (i := 0) (by decide +kernel) rfl rfl rfl rfl rfl ?_
    obtain ⟨v123, e124, h⟩ := xbnd h
    refine xs_gr (i := 586) (c := 15) (k := 50) (by decide +kernel) (by decide) (by decide +kernel) e124 rfl ?_
    refine xe_iconst (n := 0) (by decide +kernel) rfl ?_
    refine xe_alr (ins := .aload_n 0) (len := 1) (i := 0) (by decide +kernel) rfl rfl rfl rfl rfl ?_
    obtain ⟨v125, e126, h⟩ := xbnd h
    refine xs_gr (i := 459) (c := 15) (k := 35) (by decide +kernel) (by decide) (by decide +kernel) e126 rfl ?_
    refine xe_iconst (n := 0) (by decide +kernel) rfl ?_
    refine xe_ldn (ins := .iload_n 1) (len := 1) (by decide +kernel) rfl rfl rfl rfl ?_
    obtain ⟨R128, e127, h⟩ := xbnd h
    refine xs_cs (kd := 2) (by decide) (i := 442) (j := 262) (ar := [xI (v118), xI (0), xR_ (v125), xI (0), xR_ (v123)]) (rest := []) (r2 := xr_262) (by decide +kernel) (by decide +kernel) (by decide +kernel) xr_262_e rfl (by decide) ?_
    refine xc_i (k262 (d := d + 0)  (show xin (0) by decide) (show xin (0) by decide) (xq_ai_in e119) e127) rfl (fun hi129 => ?_)
    refine xe_ifgt (off := 4) (t := 38) (by decide +kernel) (by decide) rfl hi129 (fun c130 => ?_) (fun c130 => ?_)
    · rw [if_pos c130] at h
      refine xW_lv rfl (l := [(0, xR_ (a0)), (1, xI (v118))]) (xsb_of ⟨rfl, rfl, trivial⟩ (show [1, 0].Nodup by decide)) ?_
      exact k286_38   (xq_ai_in e119) h
    · rw [if_neg c130] at h
      cases h
      exact xe_ret_v (by decide +kernel) rfl ⟨rfl, rfl⟩
-- ChangeHouseModel.gather
def xr_287 : xj_mR := (15, yX15_gather, cX15_gather, 8, (Option.none : Option Jvm.ClassFile.FieldType), 0, false, (9, 235), (1, 12))
set_option maxRecDepth 20000 in
theorem xr_287_e : xj_row 287 = some xr_287 := rfl
def f287_232   (f : Nat) (y0 : Int) (y1 : Int) (y2 : Nat) (M : xj_M) : Option (xj_M) := ((xq_sl (y2) (y1) (y0) M).bind fun M101 => (some M101))
theorem k287_232 {d f : Nat}     {y0 : Int} {y1 : Int} {y2 : Nat} {M : xj_M} {R : xj_M} (hy0 : xiN y0) (hy1 : xin y1) (h : f287_232   f y0 y1 y2 M = some R) : xW (d + 1) (none, d + 1, none) xr_287 (232, [], [xZ y0, xI y1, xR_ y2], M) (xQv R) := by
  unfold f287_232 at h
  obtain ⟨M101, e102, h⟩ := xbnd h
  refine xs_last (by decide +kernel) hy1 e102 rfl ?_
  cases h
  exact xe_ret_v (by decide +kernel) rfl ⟨rfl, rfl⟩
def f287_205   (f : Nat) (x2 : Int) (x6 : Int) (y0 : Int) (y1 : Nat) (M : xj_M) : Option (xj_M) := f287_232   f (xwl ((x6) + (x2))) (y0) (y1) M
theorem k287_205 {d f : Nat}     {x2 : Int} {x6 : Int} {y0 : Int} {y1 : Nat} {M : xj_M} {R : xj_M} (hx2 : xiN x2) (hx6 : xiN x6) (hy0 : xin y0) (h : f287_205   f x2 x6 y0 y1 M = some R) : xW (d + 1) (none, d + 1, none) xr_287 (205, [(2, xZ x2), (6, xZ x6)], [xI y0, xR_ y1], M) (xQv R) := by
  unfold f287_205 at h
  refine xe_ldn (ins := .lload 6) (len := 2) (by decide +kernel) rfl rfl rfl rfl ?_
  refine xe_ldn (ins := .lload_n 2) (len := 1) (by decide +kernel) rfl rfl rfl rfl ?_
  refine xe_ladd (by decide +kernel) rfl ?_
  refine xe_goto (off := 23) (nx := 232) (by decide +kernel) (by decide) ?_
  refine xW_lv rfl (l := []) (xsb_of trivial (show [2, 6].Nodup by decide)) ?_
  exact k287_232   (xiN_wl _) hy0 h
def f287_264b  (r254 : Nat → Int → Int → Int → Int → xj_M → Option (xj_M)) (r264 : Nat → Int → Int → Int → Int → Int → xj_M → Option (xj_M)) (f : Nat) (x0 : Nat) (x2 : Int) (x4 : Int) (x5 : Int) (x6 : Int) (x7 : Int) (M : xj_M) : Option (xj_M) := (if (4) ≤ (x7) then ((xq_gr 15 56 (x0) M).bind fun v104 => ((xq_gr 15 56 (x0) M).bind fun v106 => ((xq_al (v106) (xwr ((x6) - (1))) M).bind fun v108 => ((xq_sl (v104) (x6) (v108) M).bind fun M110 => r254 (x0) (x2) (x4) (x5) (xwr ((x6) + (-1))) M110)))) else ((xq_gr 15 55 (x0) M).bind fun v112 => ((xq_gr 15 55 (x0) M).bind fun v114 => ((xq_al (v114) (xwr ((xwr ((4) * (xwr ((x6) - (1))))) + (x7))) M).bind fun v116 => ((xq_sl (v112) (xwr ((xwr ((4) * (x6))) + (x7))) (v116) M).bind fun M118 => r264 (x0) (x2) (x4) (x5) (x6) (xwr ((x7) + (1))) M118)))))
theorem k287_264b {d f : Nat}  {r254 : Nat → Int → Int → Int → Int → xj_M → Option (xj_M)} {r264 : Nat → Int → Int → Int → Int → Int → xj_M → Option (xj_M)}  (hr254 : ∀ {x0 : Nat} {x2 : Int} {x4 : Int} {x5 : Int} {x6 : Int} {M : xj_M} {R : xj_M}, xiN x2 → xin x4 → xin x5 → xin x6 → r254 x0 x2 x4 x5 x6 M = some R → xW (d + 1) (none, d + 1, none) xr_287 (254, [(0, xR_ x0), (2, xZ x2), (4, xI x4), (5, xI x5), (6, xI x6)], [], M) (xQv R)) (hr264 : ∀ {x0 : Nat} {x2 : Int} {x4 : Int} {x5 : Int} {x6 : Int} {x7 : Int} {M : xj_M} {R : xj_M}, xiN x2 → xin x4 → xin x5 → xin x6 → xin x7 → r264 x0 x2 x4 x5 x6 x7 M = some R → xW (d + 1) (none, d + 1, none) xr_287 (264, [(0, xR_ x0), (2, xZ x2), (4, xI x4), (5, xI x5), (6, xI x6), (7, xI x7)], [], M) (xQv R)) {x0 : Nat} {x2 : Int} {x4 : Int} {x5 : Int} {x6 : Int} {x7 : Int} {M : xj_M} {R : xj_M} (hx2 : xiN x2) (hx4 : xin x4) (hx5 : xin x5) (hx6 : xin x6) (hx7 : xin x7) (h : f287_264b  r254 r264 f x0 x2 x4 x5 x6 x7 M = some R) : xW (d + 1) (none, d + 1, none) xr_287 (264, [(0, xR_ x0), (2, xZ x2), (4, xI x4), (5, xI x5), (6, xI x6), (7, xI x7)], [], M) (xQv R) := by
  unfold f287_264b at h
  refine xe_ldn (ins := .iload 7) (len := 2) (by decide +kernel) rfl rfl rfl rfl ?_
  refine xe_iconst (n := 4) (by decide +kernel) rfl ?_
  refine xe_icmpge (off := 35) (t := 302) (by decide +kernel) (by decide) rfl hx7 (show xin (4) by decide) (fun c103 => ?_) (fun c103 => ?_)
  · rw [if_pos c103] at h
    refine xe_alr (ins := .aload_n 0) (len := 1) (i := 0) (by decide +kernel) rfl rfl rfl rfl rfl ?_
    obtain ⟨v104, e105, h⟩ := xbnd h
    refine xs_gr (i := 601) (c := 15) (k := 56) (by decide +kernel) (by decide) (by decide +kernel) e105 rfl ?_
    refine xe_ldn (ins := .iload 6) (len := 2) (by decide +kernel) rfl rfl rfl rfl ?_
    refine xe_alr (ins := .aload_n 0) (len := 1) (i := 0) (by decide +kernel) rfl rfl rfl rfl rfl ?_
    obtain ⟨v106, e107, h⟩ := xbnd h
    refine xs_gr (i := 601) (c := 15) (k := 56) (by decide +kernel) (by decide) (by decide +kernel) e107 rfl ?_
    refine xe_ldn (ins := .iload 6) (len := 2) (by decide +kernel) rfl rfl rfl rfl ?_
    refine xe_iconst (n := 1) (by decide +kernel) rfl ?_
    refine xe_isub (by decide +kernel) rfl ?_
    obtain ⟨v108, e109, h⟩ := xbnd h
    refine xs_lald (by decide +kernel) (xin_wr _) e109 rfl ?_
    obtain ⟨M110, e111, h⟩ := xbnd h
    refine xs_last (by decide +kernel) hx6 e111 rfl ?_
    refine xe_iincr (i := 6) (n := -1) (by decide +kernel) (by decide) rfl (xk_k (show ¬ (0 : Nat) = 6 by decide) (Or.inl (show ¬ (0 + 1 : Nat) = 6 by decide)) (xk_k (show ¬ (2 : Nat) = 6 by decide) (Or.inl (show ¬ (2 + 1 : Nat) = 6 by decide)) (xk_k (show ¬ (4 : Nat) = 6 by decide) (Or.inl (show ¬ (4 + 1 : Nat) = 6 by decide)) (xk_k (show ¬ (5 : Nat) = 6 by decide) (Or.inr (xI_cat _)) (xk_d rfl (xk_k (show ¬ (7 : Nat) = 6 by decide) (Or.inl (show ¬ (7 + 1 : Nat) = 6 by decide)) xk_n)))))) rfl ?_
    refine xe_goto (off := -67) (nx := 254) (by decide +kernel) (by decide) ?_
    refine xW_lv rfl (l := [(0, xR_ (x0)), (2, xZ (x2)), (4, xI (x4)), (5, xI (x5)), (6, xI (xwr ((x6) + (-1))))]) (xsb_of ⟨rfl, rfl, rfl, rfl, rfl, trivial⟩ (show [6, 0, 2, 4, 5, 7].Nodup by decide)) ?_
    exact hr254 hx2 hx4 hx5 (xin_wr _) h
  · rw [if_neg c103] at h
    refine xe_alr (ins := .aload_n 0) (len := 1) (i := 0) (by decide +kernel) rfl rfl rfl rfl rfl ?_
    obtain ⟨v112, e113, h⟩ := xbnd h
    refine xs_gr (i := 598) (c := 15) (k := 55) (by decide +kernel) (by decide) (by decide +kernel) e113 rfl ?_
    refine xe_iconst (n := 4) (by decide +kernel) rfl ?_
    refine xe_ldn (ins := .iload 6) (len := 2) (by decide +kernel) rfl rfl rfl rfl ?_
    refine xe_imul (by decide +kernel) rfl ?_
    refine xe_ldn (ins := .iload 7) (len := 2) (by decide +kernel) rfl rfl rfl rfl ?_
    refine xe_iadd (by decide +kernel) rfl ?_
    refine xe_alr (ins := .aload_n 0) (len := 1) (i := 0) (by decide +kernel) rfl rfl rfl rfl rfl ?_
    obtain ⟨v114, e115, h⟩ := xbnd h
    refine xs_gr (i := 598) (c := 15) (k := 55) (by decide +kernel) (by decide) (by decide +kernel) e115 rfl ?_
    refine xe_iconst (n := 4) (by decide +kernel) rfl ?_
    refine xe_ldn (ins := .iload 6) (len := 2) (by decide +kernel) rfl rfl rfl rfl ?_
    refine xe_iconst (n := 1) (by decide +kernel) rfl ?_
    refine xe_isub (by decide +kernel) rfl ?_
    refine xe_imul (by decide +kernel) rfl ?_
    refine xe_ldn (ins := .iload 7) (len := 2) (by decide +kernel) rfl rfl rfl rfl ?_
    refine xe_iadd (by decide +kernel) rfl ?_
    obtain ⟨v116, e117, h⟩ := xbnd h
    refine xs_lald (by decide +kernel) (xin_wr _) e117 rfl ?_
    obtain ⟨M118, e119, h⟩ := xbnd h
    refine xs_last (by decide +kernel) (xin_wr _) e119 rfl ?_
    refine xe_iincr (i := 7) (n := 1) (by decide +kernel) (by decide) rfl (xk_k (show ¬ (0 : Nat) = 7 by decide) (Or.inl (show ¬ (0 + 1 : Nat) = 7 by decide)) (xk_k (show ¬ (2 : Nat) = 7 by decide) (Or.inl (show ¬ (2 + 1 : Nat) = 7 by decide)) (xk_k (show ¬ (4 : Nat) = 7 by decide) (Or.inl (show ¬ (4 + 1 : Nat) = 7 by decide)) (xk_k (show ¬ (5 : Nat) = 7 by decide) (Or.inl (show ¬ (5 + 1 : Nat) = 7 by decide)) (xk_k (show ¬ (6 : Nat) = 7 by decide) (Or.inr (xI_cat _)) (xk_d rfl xk_n)))))) rfl ?_
    refine xe_goto (off := -35) (nx := 264) (by decide +kernel) (by decide) ?_
    refine xW_lv rfl (l := [(0, xR_ (x0)), (2, xZ (x2)), (4, xI (x4)), (5, xI (x5)), (6, xI (x6)), (7, xI (xwr ((x7) + (1))))]) (xsb_of ⟨rfl, rfl, rfl, rfl, rfl, rfl, trivial⟩ (show [7, 0, 2, 4, 5, 6].Nodup by decide)) ?_
    exact hr264 hx2 hx4 hx5 hx6 (xin_wr _) h
def f287_264  (r254 : Nat → Int → Int → Int → Int → xj_M → Option (xj_M)) (f : Nat) : Nat → Nat → Int → Int → Int → Int → Int → xj_M → Option (xj_M)
  | 0, _, _, _, _, _, _, _ => none
  | n + 1, x0, x2, x4, x5, x6, x7, M => f287_264b  r254 (f287_264  r254 f n) f x0 x2 x4 x5 x6 x7 M
theorem k287_264 {d f : Nat}  {r254 : Nat → Int → Int → Int → Int → xj_M → Option (xj_M)}  (hr254 : ∀ {x0 : Nat} {x2 : Int} {x4 : Int} {x5 : Int} {x6 : Int} {M : xj_M} {R : xj_M}, xiN x2 → xin x4 → xin x5 → xin x6 → r254 x0 x2 x4 x5 x6 M = some R → xW (d + 1) (none, d + 1, none) xr_287 (254, [(0, xR_ x0), (2, xZ x2), (4, xI x4), (5, xI x5), (6, xI x6)], [], M) (xQv R)) : ∀ {n : Nat} {x0 : Nat} {x2 : Int} {x4 : Int} {x5 : Int} {x6 : Int} {x7 : Int} {M : xj_M} {R : xj_M}, xiN x2 → xin x4 → xin x5 → xin x6 → xin x7 → f287_264  r254 f n x0 x2 x4 x5 x6 x7 M = some R → xW (d + 1) (none, d + 1, none) xr_287 (264, [(0, xR_ x0), (2, xZ x2), (4, xI x4), (5, xI x5), (6, xI x6), (7, xI x7)], [], M) (xQv R) := by
  intro n
  induction n with
  | zero => intros; rename_i h; cases h
  | succ n ih => intros; rename_i h; exact k287_264b  hr254 ih (by assumption) (by assumption) (by assumption) (by assumption) (by assumption) h
def f287_362  (r327 : Nat → Int → Int → Int → Int → xj_M → Option (xj_M)) (f : Nat) (x0 : Nat) (x2 : Int) (x4 : Int) (x5 : Int) (x6 : Int) (y0 : Int) (y1 : Int) (y2 : Nat) (M : xj_M) : Option (xj_M) := ((xq_sl (y2) (y1) (y0) M).bind fun M120 => r327 (x0) (x2) (x4) (x5) (xwr ((x6) + (1))) M120)
theorem k287_362 {d f : Nat}  {r327 : Nat → Int → Int → Int → Int → xj_M → Option (xj_M)}  (hr327 : ∀ {x0 : Nat} {x2 : Int} {x4 : Int} {x5 : Int} {x6 : Int} {M : xj_M} {R : xj_M}, xiN x2 → xin x4 → xin x5 → xin x6 → r327 x0 x2 x4 x5 x6 M = some R → xW (d + 1) (none, d + 1, none) xr_287 (327, [(0, xR_ x0), (2, xZ x2), (4, xI x4), (5, xI x5), (6, xI x6)], [], M) (xQv R)) {x0 : Nat} {x2 : Int} {x4 : Int} {x5 : Int} {x6 : Int} {y0 : Int} {y1 : Int} {y2 : Nat} {M : xj_M} {R : xj_M} (hx2 : xiN x2) (hx4 : xin x4) (hx5 : xin x5) (hx6 : xin x6) (hy0 : xiN y0) (hy1 : xin y1) (h : f287_362  r327 f x0 x2 x4 x5 x6 y0 y1 y2 M = some R) : xW (d + 1) (none, d + 1, none) xr_287 (362, [(0, xR_ x0), (2, xZ x2), (4, xI x4), (5, xI x5), (6, xI x6)], [xZ y0, xI y1, xR_ y2], M) (xQv R) := by
  unfold f287_362 at h
  obtain ⟨M120, e121, h⟩ := xbnd h
  refine xs_last (by decide +kernel) hy1 e121 rfl ?_
  refine xe_iincr (i := 6) (n := 1) (by decide +kernel) (by decide) rfl (xk_k (show ¬ (0 : Nat) = 6 by decide) (Or.inl (show ¬ (0 + 1 : Nat) = 6 by decide)) (xk_k (show ¬ (2 : Nat) = 6 by decide) (Or.inl (show ¬ (2 + 1 : Nat) = 6 by decide)) (xk_k (show ¬ (4 : Nat) = 6 by decide) (Or.inl (show ¬ (4 + 1 : Nat) = 6 by decide)) (xk_k (show ¬ (5 : Nat) = 6 by decide) (Or.inr (xI_cat _)) (xk_d rfl xk_n))))) rfl ?_
  refine xe_goto (off := -39) (nx := 327) (by decide +kernel) (by decide) ?_
  refine xW_lv rfl (l := [(0, xR_ (x0)), (2, xZ (x2)), (4, xI (x4)), (5, xI (x5)), (6, xI (xwr ((x6) + (1))))]) (xsb_of ⟨rfl, rfl, rfl, rfl, rfl, trivial⟩ (show [6, 0, 2, 4, 5].Nodup by decide)) ?_
  exact hr327 hx2 hx4 hx5 (xin_wr _) h
def f287_409   (f : Nat)  (M : xj_M) : Option (xj_M) := (some M)
theorem k287_409 {d f : Nat}      {M : xj_M} {R : xj_M}  (h : f287_409   f  M = some R) : xW (d + 1) (none, d + 1, none) xr_287 (409, [], [], M) (xQv R) := by
  unfold f287_409 at h
  cases h
  exact xe_ret_v (by decide +kernel) rfl ⟨rfl, rfl⟩
def f287_327b  (r327 : Nat → Int → Int → Int → Int → xj_M → Option (xj_M)) (f : Nat) (x0 : Nat) (x2 : Int) (x4 : Int) (x5 : Int) (x6 : Int) (M : xj_M) : Option (xj_M) := (if (4) ≤ (x6) then ((xq_gr 15 56 (x0) M).bind fun v123 => ((xq_sl (v123) (x5) (x2) M).bind fun M125 => ((xq_gi 15 58 (x0) M125).bind fun v127 => ((xq_pi 15 58 (x0) (xwr ((v127) + (1))) M125).bind fun M129 => ((xq_gi 15 58 (x0) M129).bind fun v131 => (if (v131) ≤ (1024) then f287_409   f  M129 else ((xq_pi 15 58 (x0) (1024) M129).bind fun M134 => ((xq_pi 15 60 (x0) (1) M134).bind fun M136 => f287_409   f  M136)))))))) else ((xq_gr 15 55 (x0) M).bind fun v138 => (if (x4) ≤ (x6) then f287_362  r327 f (x0) (x2) (x4) (x5) (x6) (0) (xwr ((xwr ((4) * (x5))) + (x6))) (v138) M else ((xq_gr 15 44 (x0) M).bind fun v141 => ((xq_al (v141) (x6) M).bind fun v143 => f287_362  r327 f (x0) (x2) (x4) (x5) (x6) (v143) (xwr ((xwr ((4) * (x5))) + (x6))) (v138) M)))))
theorem k287_327b {d f : Nat}  {r327 : Nat → Int → Int → Int → Int → xj_M → Option (xj_M)}  (hr327 : ∀ {x0 : Nat} {x2 : Int} {x4 : Int} {x5 : Int} {x6 : Int} {M : xj_M} {R : xj_M}, xiN x2 → xin x4 → xin x5 → xin x6 → r327 x0 x2 x4 x5 x6 M = some R → xW (d + 1) (none, d + 1, none) xr_287 (327, [(0, xR_ x0), (2, xZ x2), (4, xI x4), (5, xI x5), (6, xI x6)], [], M) (xQv R)) {x0 : Nat} {x2 : Int} {x4 : Int} {x5 : Int} {x6 : Int} {M : xj_M} {R : xj_M} (hx2 : xiN x2) (hx4 : xin x4) (hx5 : xin x5) (hx6 : xin x6) (h : f287_327b  r327 f x0 x2 x4 x5 x6 M = some R) : xW (d + 1) (none, d + 1, none) xr_287 (327, [(0, xR_ x0), (2, xZ x2), (4, xI x4), (5, xI x5), (6, xI x6)], [], M) (xQv R) := by
  unfold f287_327b at h
  refine xe_ldn (ins := .iload 6) (len := 2) (by decide +kernel) rfl rfl rfl rfl ?_
  refine xe_iconst (n := 4) (by decide +kernel) rfl ?_
  refine xe_icmpge (off := 39) (t := 369) (by decide +kernel) (by decide) rfl hx6 (show xin (4) by decide) (fun c122 => ?_) (fun c122 => ?_)
  · rw [if_pos c122] at h
    refine xe_alr (ins := .aload_n 0) (len := 1) (i := 0) (by decide +kernel) rfl rfl rfl rfl rfl ?_
    obtain ⟨v123, e124, h⟩ := xbnd h
    refine xs_gr (i := 601) (c := 15) (k := 56) (by decide +kernel) (by decide) (by decide +kernel) e124 rfl ?_
    refine xe_ldn (ins := .iload 5) (len := 2) (by decide +kernel) rfl rfl rfl rfl ?_
    refine xe_ldn (ins := .lload_n 2) (len := 1) (by decide +kernel) rfl rfl rfl rfl ?_
    obtain ⟨M125, e126, h⟩ := xbnd h
    refine xs_last (by decide +kernel) hx5 e126 rfl ?_
    refine xe_alr (ins := .aload_n 0) (len := 1) (i := 0) (by decide +kernel) rfl rfl rfl rfl rfl ?_
    refine xe_dupr (by decide +kernel) rfl ?_
    obtain ⟨v127, e128, h⟩ := xbnd h
    refine xs_gi (i := 595) (c := 15) (k := 58) (by decide +kernel) (by decide) (by decide +kernel) e128 rfl ?_
    refine xe_iconst (n := 1) (by decide +kernel) rfl ?_
    refine xe_iadd (by decide +kernel) rfl ?_
    obtain ⟨M129, e130, h⟩ := xbnd h
    refine xs_p (i := 595) (c := 15) (k := 58) (by decide +kernel) (by decide +kernel) (by decide +kernel) e130 rfl ?_
    refine xe_alr (ins := .aload_n 0) (len := 1) (i := 0) (by decide +kernel) rfl rfl rfl rfl rfl ?_
    obtain ⟨v131, e132, h⟩ := xbnd h
    refine xs_gi (i := 595) (c := 15) (k := 58) (by decide +kernel) (by decide) (by decide +kernel) e132 rfl ?_
    refine xe_sipush (n := 1024) (by decide +kernel) (by decide) rfl ?_
    refine xe_icmple (off := 15) (t := 409) (by decide +kernel) (by decide) rfl (xq_gi_in e132) (show xin (1024) by decide) (fun c133 => ?_) (fun c133 => ?_)
    · rw [if_pos c133] at h
      refine xW_lv rfl (l := []) (xsb_of trivial (show [0, 2, 4, 5, 6].Nodup by decide)) ?_
      exact k287_409    h
    · rw [if_neg c133] at h
      refine xe_alr (ins := .aload_n 0) (len := 1) (i := 0) (by decide +kernel) rfl rfl rfl rfl rfl ?_
      refine xe_sipush (n := 1024) (by decide +kernel) (by decide) rfl ?_
      obtain ⟨M134, e135, h⟩ := xbnd h
      refine xs_p (i := 595) (c := 15) (k := 58) (by decide +kernel) (by decide +kernel) (by decide +kernel) e135 rfl ?_
      refine xe_alr (ins := .aload_n 0) (len := 1) (i := 0) (by decide +kernel) rfl rfl rfl rfl rfl ?_
      refine xe_iconst (n := 1) (by decide +kernel) rfl ?_
      obtain ⟨M136, e137, h⟩ := xbnd h
      refine xs_p (i := 607) (c := 15) (k := 60) (by decide +kernel) (by decide +kernel) (by decide +kernel) e137 rfl ?_
      refine xW_lv rfl (l := []) (xsb_of trivial (show [0, 2, 4, 5, 6].Nodup by decide)) ?_
      exact k287_409    h
  · rw [if_neg c122] at h
    refine xe_alr (ins := .aload_n 0) (len := 1) (i := 0) (by decide +kernel) rfl rfl rfl rfl rfl ?_
    obtain ⟨v138, e139, h⟩ := xbnd h
    refine xs_gr (i := 598) (c := 15) (k := 55) (by decide +kernel) (by decide) (by decide +kernel) e139 rfl ?_
    refine xe_iconst (n := 4) (by decide +kernel) rfl ?_
    refine xe_ldn (ins := .iload 5) (len := 2) (by decide +kernel) rfl rfl rfl rfl ?_
    refine xe_imul (by decide +kernel) rfl ?_
    refine xe_ldn (ins := .iload 6) (len := 2) (by decide +kernel) rfl rfl rfl rfl ?_
    refine xe_iadd (by decide +kernel) rfl ?_
    refine xe_ldn (ins := .iload 6) (len := 2) (by decide +kernel) rfl rfl rfl rfl ?_
    refine xe_ldn (ins := .iload 4) (len := 2) (by decide +kernel) rfl rfl rfl rfl ?_
    refine xe_icmpge (off := 13) (t := 361) (by decide +kernel) (by decide) rfl hx6 hx4 (fun c140 => ?_) (fun c140 => ?_)
    · rw [if_pos c140] at h
      refine xe_lconst (n := 0) (z := 0) (by decide +kernel) rfl rfl ?_
      refine xW_lv rfl (l := [(0, xR_ (x0)), (2, xZ (x2)), (4, xI (x4)), (5, xI (x5)), (6, xI (x6))]) (xsb_of ⟨rfl, rfl, rfl, rfl, rfl, trivial⟩ (show [0, 2, 4, 5, 6].Nodup by decide)) ?_
      exact k287_362  hr327 hx2 hx4 hx5 hx6 (show xiN (0) by decide) (xin_wr _) h
    · rw [if_neg c140] at h
      refine xe_alr (ins := .aload_n 0) (len := 1) (i := 0) (by decide +kernel) rfl rfl rfl rfl rfl ?_
      obtain ⟨v141, e142, h⟩ := xbnd h
      refine xs_gr (i := 539) (c := 15) (k := 44) (by decide +kernel) (by decide) (by decide +kernel) e142 rfl ?_
      refine xe_ldn (ins := .iload 6) (len := 2) (by decide +kernel) rfl rfl rfl rfl ?_
      obtain ⟨v143, e144, h⟩ := xbnd h
      refine xs_lald (by decide +kernel) hx6 e144 rfl ?_
      refine xe_goto (off := 4) (nx := 362) (by decide +kernel) (by decide) ?_
      refine xW_lv rfl (l := [(0, xR_ (x0)), (2, xZ (x2)), (4, xI (x4)), (5, xI (x5)), (6, xI (x6))]) (xsb_of ⟨rfl, rfl, rfl, rfl, rfl, trivial⟩ (show [0, 2, 4, 5, 6].Nodup by decide)) ?_
      exact k287_362  hr327 hx2 hx4 hx5 hx6 (xq_al_in e144) (xin_wr _) h
def f287_327   (f : Nat) : Nat → Nat → Int → Int → Int → Int → xj_M → Option (xj_M)
  | 0, _, _, _, _, _, _ => none
  | n + 1, x0, x2, x4, x5, x6, M => f287_327b   (f287_327   f n) f x0 x2 x4 x5 x6 M
theorem k287_327 {d f : Nat}     : ∀ {n : Nat} {x0 : Nat} {x2 : Int} {x4 : Int} {x5 : Int} {x6 : Int} {M : xj_M} {R : xj_M}, xiN x2 → xin x4 → xin x5 → xin x6 → f287_327   f n x0 x2 x4 x5 x6 M = some R → xW (d + 1) (none, d + 1, none) xr_287 (327, [(0, xR_ x0), (2, xZ x2), (4, xI x4), (5, xI x5), (6, xI x6)], [], M) (xQv R) := by
  intro n
  induction n with
  | zero => intros; rename_i h; cases h
  | succ n ih => intros; rename_i h; exact k287_327b   ih (by assumption) (by assumption) (by assumption) (by assumption) h
def f287_254b  (r254 : Nat → Int → Int → Int → Int → xj_M → Option (xj_M)) (f : Nat) (x0 : Nat) (x2 : Int) (x4 : Int) (x5 : Int) (x6 : Int) (M : xj_M) : Option (xj_M) := (if (x6) ≤ (x5) then f287_327   f f (x0) (x2) (x4) (x5) (0) M else f287_264  r254 f f (x0) (x2) (x4) (x5) (x6) (0) M)
theorem k287_254b {d f : Nat}  {r254 : Nat → Int → Int → Int → Int → xj_M → Option (xj_M)}  (hr254 : ∀ {x0 : Nat} {x2 : Int} {x4 : Int} {x5 : Int} {x6 : Int} {M : xj_M} {R : xj_M}, xiN x2 → xin x4 → xin x5 → xin x6 → r254 x0 x2 x4 x5 x6 M = some R → xW (d + 1) (none, d + 1, none) xr_287 (254, [(0, xR_ x0), (2, xZ x2), (4, xI x4), (5, xI x5), (6, xI x6)], [], M) (xQv R)) {x0 : Nat} {x2 : Int} {x4 : Int} {x5 : Int} {x6 : Int} {M : xj_M} {R : xj_M} (hx2 : xiN x2) (hx4 : xin x4) (hx5 : xin x5) (hx6 : xin x6) (h : f287_254b  r254 f x0 x2 x4 x5 x6 M = some R) : xW (d + 1) (none, d + 1, none) xr_287 (254, [(0, xR_ x0), (2, xZ x2), (4, xI x4), (5, xI x5), (6, xI x6)], [], M) (xQv R) := by
  unfold f287_254b at h
  refine xe_ldn (ins := .iload 6) (len := 2) (by decide +kernel) rfl rfl rfl rfl ?_
  refine xe_ldn (ins := .iload 5) (len := 2) (by decide +kernel) rfl rfl rfl rfl ?_
  refine xe_icmple (off := 66) (t := 324) (by decide +kernel) (by decide) rfl hx6 hx5 (fun c145 => ?_) (fun c145 => ?_)
  · rw [if_pos c145] at h
    refine xe_iconst (n := 0) (by decide +kernel) rfl ?_
    refine xe_isr (ins := .istore 6) (len := 2) (i := 6) (by decide +kernel) rfl rfl rfl (by decide) (xk_k (show ¬ (0 : Nat) = 6 by decide) (Or.inl (show ¬ (0 + 1 : Nat) = 6 by decide)) (xk_k (show ¬ (2 : Nat) = 6 by decide) (Or.inl (show ¬ (2 + 1 : Nat) = 6 by decide)) (xk_k (show ¬ (4 : Nat) = 6 by decide) (Or.inl (show ¬ (4 + 1 : Nat) = 6 by decide)) (xk_k (show ¬ (5 : Nat) = 6 by decide) (Or.inr (xI_cat _)) (xk_d rfl xk_n))))) rfl ?_
    refine xW_lv rfl (l := [(0, xR_ (x0)), (2, xZ (x2)), (4, xI (x4)), (5, xI (x5)), (6, xI (0))]) (xsb_of ⟨rfl, rfl, rfl, rfl, rfl, trivial⟩ (show [6, 0, 2, 4, 5].Nodup by decide)) ?_
    exact k287_327   hx2 hx4 hx5 (show xin (0) by decide) h
  · rw [if_neg c145] at h
    refine xe_iconst (n := 0) (by decide +kernel) rfl ?_
    refine xe_isr (ins := .istore 7) (len := 2) (i := 7) (by decide +kernel) rfl rfl rfl (by decide) (xk_k (show ¬ (0 : Nat) = 7 by decide) (Or.inl (show ¬ (0 + 1 : Nat) = 7 by decide)) (xk_k (show ¬ (2 : Nat) = 7 by decide) (Or.inl (show ¬ (2 + 1 : Nat) = 7 by decide)) (xk_k (show ¬ (4 : Nat) = 7 by decide) (Or.inl (show ¬ (4 + 1 : Nat) = 7 by decide)) (xk_k (show ¬ (5 : Nat) = 7 by decide) (Or.inl (show ¬ (5 + 1 : Nat) = 7 by decide)) (xk_k (show ¬ (6 : Nat) = 7 by decide) (Or.inr (xI_cat _)) xk_n))))) rfl ?_
    refine xW_lv rfl (l := [(0, xR_ (x0)), (2, xZ (x2)), (4, xI (x4)), (5, xI (x5)), (6, xI (x6)), (7, xI (0))]) (xsb_of ⟨rfl, rfl, rfl, rfl, rfl, rfl, trivial⟩ (show [7, 0, 2, 4, 5, 6].Nodup by decide)) ?_
    exact k287_264  hr254 hx2 hx4 hx5 hx6 (show xin (0) by decide) h
def f287_254   (f : Nat) : Nat → Nat → Int → Int → Int → Int → xj_M → Option (xj_M)
  | 0, _, _, _, _, _, _ => none
  | n + 1, x0, x2, x4, x5, x6, M => f287_254b   (f287_254   f n) f x0 x2 x4 x5 x6 M
theorem k287_254 {d f : Nat}     : ∀ {n : Nat} {x0 : Nat} {x2 : Int} {x4 : Int} {x5 : Int} {x6 : Int} {M : xj_M} {R : xj_M}, xiN x2 → xin x4 → xin x5 → xin x6 → f287_254   f n x0 x2 x4 x5 x6 M = some R → xW (d + 1) (none, d + 1, none) xr_287 (254, [(0, xR_ x0), (2, xZ x2), (4, xI x4), (5, xI x5), (6, xI x6)], [], M) (xQv R) := by
  intro n
  induction n with
  | zero => intros; rename_i h; cases h
  | succ n ih => intros; rename_i h; exact k287_254b   ih (by assumption) (by assumption) (by assumption) (by assumption) h
def f287_234   (f : Nat) (x0 : Nat) (x2 : Int) (x4 : Int) (x5 : Int) (M : xj_M) : Option (xj_M) := (if ¬ (x5) = (1024) then ((xq_gi 15 58 (x0) M).bind fun v147 => f287_254   f f (x0) (x2) (x4) (x5) (v147) M) else ((xq_pi 15 60 (x0) (1) M).bind fun M149 => (some M149)))
theorem k287_234 {d f : Nat}     {x0 : Nat} {x2 : Int} {x4 : Int} {x5 : Int} {M : xj_M} {R : xj_M} (hx2 : xiN x2) (hx4 : xin x4) (hx5 : xin x5) (h : f287_234   f x0 x2 x4 x5 M = some R) : xW (d + 1) (none, d + 1, none) xr_287 (234, [(0, xR_ x0), (2, xZ x2), (4, xI x4), (5, xI x5)], [], M) (xQv R) := by
  unfold f287_234 at h
  refine xe_ldn (ins := .iload 5) (len := 2) (by decide +kernel) rfl rfl rfl rfl ?_
  refine xe_sipush (n := 1024) (by decide +kernel) (by decide) rfl ?_
  refine xe_icmpne (off := 9) (t := 248) (by decide +kernel) (by decide) rfl hx5 (show xin (1024) by decide) (fun c146 => ?_) (fun c146 => ?_)
  · rw [if_pos c146] at h
    refine xe_alr (ins := .aload_n 0) (len := 1) (i := 0) (by decide +kernel) rfl rfl rfl rfl rfl ?_
    obtain ⟨v147, e148, h⟩ := xbnd h
    refine xs_gi (i := 595) (c := 15) (k := 58) (by decide +kernel) (by decide) (by decide +kernel) e148 rfl ?_
    refine xe_isr (ins := .istore 6) (len := 2) (i := 6) (by decide +kernel) rfl rfl rfl (by decide) (xk_k (show ¬ (0 : Nat) = 6 by decide) (Or.inl (show ¬ (0 + 1 : Nat) = 6 by decide)) (xk_k (show ¬ (2 : Nat) = 6 by decide) (Or.inl (show ¬ (2 + 1 : Nat) = 6 by decide)) (xk_k (show ¬ (4 : Nat) = 6 by decide) (Or.inl (show ¬ (4 + 1 : Nat) = 6 by decide)) (xk_k (show ¬ (5 : Nat) = 6 by decide) (Or.inr (xI_cat _)) xk_n)))) rfl ?_
    refine xW_lv rfl (l := [(0, xR_ (x0)), (2, xZ (x2)), (4, xI (x4)), (5, xI (x5)), (6, xI (v147))]) (xsb_of ⟨rfl, rfl, rfl, rfl, rfl, trivial⟩ (show [6, 0, 2, 4, 5].Nodup by decide)) ?_
    exact k287_254   hx2 hx4 hx5 (xq_gi_in e148) h
  · rw [if_neg c146] at h
    refine xe_alr (ins := .aload_n 0) (len := 1) (i := 0) (by decide +kernel) rfl rfl rfl rfl rfl ?_
    refine xe_iconst (n := 1) (by decide +kernel) rfl ?_
    obtain ⟨M149, e150, h⟩ := xbnd h
    refine xs_p (i := 607) (c := 15) (k := 60) (by decide +kernel) (by decide +kernel) (by decide +kernel) e150 rfl ?_
    cases h
    exact xe_ret_v (by decide +kernel) rfl ⟨rfl, rfl⟩
def f287_150   (f : Nat) (x0 : Nat) (x1 : Int) (x2 : Int) (x4 : Int) (x5 : Int) (M : xj_M) : Option (xj_M) := ((xq_gi 15 58 (x0) M).bind fun v151 => (if (v151) ≤ (x5) then f287_234   f (x0) (x2) (x4) (x5) M else ((xq_gr 15 55 (x0) M).bind fun v154 => ((xq_gr 15 44 (x0) M).bind fun v156 => ((f262  f (v154) (xwr ((4) * (x5))) (v156) (0) (x4) M).bind fun R159 => (if ¬ (R159.1) = 0 then f287_234   f (x0) (x2) (x4) (x5) R159.2 else ((xq_gr 15 56 (x0) R159.2).bind fun v162 => ((xq_al (v162) (x5) R159.2).bind fun v164 => ((xq_gr 15 56 (x0) R159.2).bind fun v166 => (if (x1) = (1) then f287_205   f (x2) (v164) (x5) (v166) R159.2 else (if ¬ (x1) = (2) then (if ¬ (x1) = (3) then f287_232   f (xmax (v164) (x2)) (x5) (v166) R159.2 else f287_232   f (xmin (v164) (x2)) (x5) (v166) R159.2) else f287_205   f (x2) (v164) (x5) (v166) R159.2)))))))))))
theorem k287_150 {d f : Nat}     {x0 : Nat} {x1 : Int} {x2 : Int} {x4 : Int} {x5 : Int} {M : xj_M} {R : xj_M} (hx1 : xin x1) (hx2 : xiN x2) (hx4 : xin x4) (hx5 : xin x5) (h : f287_150   f x0 x1 x2 x4 x5 M = some R) : xW (d + 1) (none, d + 1, none) xr_287 (150, [(0, xR_ x0), (1, xI x1), (2, xZ x2), (4, xI x4), (5, xI x5)], [], M) (xQv R) := by
  unfold f287_150 at h
  refine xe_ldn (ins := .iload 5) (len := 2) (by decide +kernel) rfl rfl rfl rfl ?_
  refine xe_alr (ins := .aload_n 0) (len := 1) (i := 0) (by decide +kernel) rfl rfl rfl rfl rfl ?_
  obtain ⟨v151, e152, h⟩ := xbnd h
  refine xs_gi (i := 595) (c := 15) (k := 58) (by decide +kernel) (by decide) (by decide +kernel) e152 rfl ?_
  refine xe_icmpge (off := 78) (t := 234) (by decide +kernel) (by decide) rfl hx5 (xq_gi_in e152) (fun c153 => ?_) (fun c153 => ?_)
  · rw [if_pos c153] at h
    refine xW_lv rfl (l := [(0, xR_ (x0)), (2, xZ (x2)), (4, xI (x4)), (5, xI (x5))]) (xsb_of ⟨rfl, rfl, rfl, rfl, trivial⟩ (show [0, 1, 2, 4, 5].Nodup by decide)) ?_
    exact k287_234   hx2 hx4 hx5 h
  · rw [if_neg c153] at h
    refine xe_alr (ins := .aload_n 0) (len := 1) (i := 0) (by decide +kernel) rfl rfl rfl rfl rfl ?_
    obtain ⟨v154, e155, h⟩ := xbnd h
    refine xs_gr (i := 598) (c := 15) (k := 55) (by decide +kernel) (by decide) (by decide +kernel) e155 rfl ?_
    refine xe_iconst (n := 4) (by decide +kernel) rfl ?_
    refine xe_ldn (ins := .iload 5) (len := 2) (by decide +kernel) rfl rfl rfl rfl ?_
    refine xe_imul (by decide +kernel) rfl ?_
    refine xe_alr (ins := .aload_n 0) (len := 1) (i := 0) (by decide +kernel) rfl rfl rfl rfl rfl ?_
    obtain ⟨v156, e157, h⟩ := xbnd h
    refine xs_gr (i := 539) (c := 15) (k := 44) (by decide +kernel) (by decide) (by decide +kernel) e157 rfl ?_
    refine xe_iconst (n := 0) (by decide +kernel) rfl ?_
    refine xe_ldn (ins := .iload 4) (len := 2) (by decide +kernel) rfl rfl rfl rfl ?_
    obtain ⟨R159, e158, h⟩ := xbnd h
    refine xs_cs (kd := 2) (by decide) (i := 442) (j := 262) (ar := [xI (x4), xI (0), xR_ (v156), xI (xwr ((4) * (x5))), xR_ (v154)]) (rest := []) (r2 := xr_262) (by decide +kernel) (by decide +kernel) (by decide +kernel) xr_262_e rfl (by decide) ?_
    refine xc_i (k262 (d := d + 0)  (xin_wr _) (show xin (0) by decide) hx4 e158) rfl (fun hi160 => ?_)
    refine xe_ifne (off := 57) (t := 234) (by decide +kernel) (by decide) rfl hi160 (fun c161 => ?_) (fun c161 => ?_)
    · rw [if_pos c161] at h
      refine xW_lv rfl (l := [(0, xR_ (x0)), (2, xZ (x2)), (4, xI (x4)), (5, xI (x5))]) (xsb_of ⟨rfl, rfl, rfl, rfl, trivial⟩ (show [0, 1, 2, 4, 5].Nodup by decide)) ?_
      exact k287_234   hx2 hx4 hx5 h
    · rw [if_neg c161] at h
      refine xe_alr (ins := .aload_n 0) (len := 1) (i := 0) (by decide +kernel) rfl rfl rfl rfl rfl ?_
      obtain ⟨v162, e163, h⟩ := xbnd h
      refine xs_gr (i := 601) (c := 15) (k := 56) (by decide +kernel) (by decide) (by decide +kernel) e163 rfl ?_
      refine xe_ldn (ins := .iload 5) (len := 2) (by decide +kernel) rfl rfl rfl rfl ?_
      obtain ⟨v164, e165, h⟩ := xbnd h
      refine xs_lald (by decide +kernel) hx5 e165 rfl ?_
      refine xe_lsr (ins := .lstore 6) (len := 2) (i := 6) (by decide +kernel) rfl rfl rfl (by decide) (xk2_k (show ¬ (0 : Nat) = 6 by decide) (show ¬ (0 : Nat) = 6 + 1 by decide) (Or.inl (show ¬ (0 + 1 : Nat) = 6 by decide)) (xk2_k (show ¬ (1 : Nat) = 6 by decide) (show ¬ (1 : Nat) = 6 + 1 by decide) (Or.inl (show ¬ (1 + 1 : Nat) = 6 by decide)) (xk2_k (show ¬ (2 : Nat) = 6 by decide) (show ¬ (2 : Nat) = 6 + 1 by decide) (Or.inl (show ¬ (2 + 1 : Nat) = 6 by decide)) (xk2_k (show ¬ (4 : Nat) = 6 by decide) (show ¬ (4 : Nat) = 6 + 1 by decide) (Or.inl (show ¬ (4 + 1 : Nat) = 6 by decide)) (xk2_k (show ¬ (5 : Nat) = 6 by decide) (show ¬ (5 : Nat) = 6 + 1 by decide) (Or.inr (xI_cat _)) xk2_n))))) rfl ?_
      refine xe_alr (ins := .aload_n 0) (len := 1) (i := 0) (by decide +kernel) rfl rfl rfl rfl rfl ?_
      obtain ⟨v166, e167, h⟩ := xbnd h
      refine xs_gr (i := 601) (c := 15) (k := 56) (by decide +kernel) (by decide) (by decide +kernel) e167 rfl ?_
      refine xe_ldn (ins := .iload 5) (len := 2) (by decide +kernel) rfl rfl rfl rfl ?_
      refine xe_ldn (ins := .iload_n 1) (len := 1) (by decide +kernel) rfl rfl rfl rfl ?_
      refine xe_iconst (n := 1) (by decide +kernel) rfl ?_
      refine xe_icmpeq (off := 8) (t := 205) (by decide +kernel) (by decide) rfl hx1 (show xin (1) by decide) (fun c168 => ?_) (fun c168 => ?_)
      · rw [if_pos c168] at h
        refine xW_lv rfl (l := [(2, xZ (x2)), (6, xZ (v164))]) (xsb_of ⟨rfl, rfl, trivial⟩ (show [6, 0, 1, 2, 4, 5].Nodup by decide)) ?_
        exact k287_205   hx2 (xq_al_in e165) hx5 h
      · rw [if_neg c168] at h
        refine xe_ldn (ins := .iload_n 1) (len := 1) (by decide +kernel) rfl rfl rfl rfl ?_
        refine xe_iconst (n := 2) (by decide +kernel) rfl ?_
        refine xe_icmpne (off := 10) (t := 212) (by decide +kernel) (by decide) rfl hx1 (show xin (2) by decide) (fun c169 => ?_) (fun c169 => ?_)
        · rw [if_pos c169] at h
          refine xe_ldn (ins := .iload_n 1) (len := 1) (by decide +kernel) rfl rfl rfl rfl ?_
          refine xe_iconst (n := 3) (by decide +kernel) rfl ?_
          refine xe_icmpne (off := 12) (t := 226) (by decide +kernel) (by decide) rfl hx1 (show xin (3) by decide) (fun c170 => ?_) (fun c170 => ?_)
          · rw [if_pos c170] at h
            refine xe_ldn (ins := .lload 6) (len := 2) (by decide +kernel) rfl rfl rfl rfl ?_
            refine xe_ldn (ins := .lload_n 2) (len := 1) (by decide +kernel) rfl rfl rfl rfl ?_
            refine xe_xmxl (i := 604) (by decide +kernel) (by decide +kernel) (by decide +kernel) (by unfold xj_small; simp only [List.map_cons, List.map_nil, List.sum_cons, List.sum_nil, xR_cat, xI_cat, xZ_cat]; decide) rfl (xq_al_in e165) hx2 ?_
            refine xW_lv rfl (l := []) (xsb_of trivial (show [6, 0, 1, 2, 4, 5].Nodup by decide)) ?_
            exact k287_232   (xmax_iN (xq_al_in e165) hx2) hx5 h
          · rw [if_neg c170] at h
            refine xe_ldn (ins := .lload 6) (len := 2) (by decide +kernel) rfl rfl rfl rfl ?_
            refine xe_ldn (ins := .lload_n 2) (len := 1) (by decide +kernel) rfl rfl rfl rfl ?_
            refine xe_xmnl (i := 97) (by decide +kernel) (by decide +kernel) (by decide +kernel) (by unfold xj_small; simp only [List.map_cons, List.map_nil, List.sum_cons, List.sum_nil, xR_cat, xI_cat, xZ_cat]; decide) rfl (xq_al_in e165) hx2 ?_
            refine xe_goto (off := 9) (nx := 232) (by decide +kernel) (by decide) ?_
            refine xW_lv rfl (l := []) (xsb_of trivial (show [6, 0, 1, 2, 4, 5].Nodup by decide)) ?_
            exact k287_232   (xmin_iN (xq_al_in e165) hx2) hx5 h
        · rw [if_neg c169] at h
          refine xW_lv rfl (l := [(2, xZ (x2)), (6, xZ (v164))]) (xsb_of ⟨rfl, rfl, trivial⟩ (show [6, 0, 1, 2, 4, 5].Nodup by decide)) ?_
          exact k287_205   hx2 (xq_al_in e165) hx5 h
def f287_114b  (r114 : Nat → Int → Int → Int → Int → xj_M → Option (xj_M)) (f : Nat) (x0 : Nat) (x1 : Int) (x2 : Int) (x4 : Int) (x5 : Int) (M : xj_M) : Option (xj_M) := ((xq_gi 15 58 (x0) M).bind fun v171 => (if (v171) ≤ (x5) then f287_150   f (x0) (x1) (x2) (x4) (x5) M else ((xq_gr 15 55 (x0) M).bind fun v174 => ((xq_gr 15 44 (x0) M).bind fun v176 => ((f262  f (v174) (xwr ((4) * (x5))) (v176) (0) (x4) M).bind fun R179 => (if 0 ≤ (R179.1) then f287_150   f (x0) (x1) (x2) (x4) (x5) R179.2 else r114 (x0) (x1) (x2) (x4) (xwr ((x5) + (1))) R179.2))))))
theorem k287_114b {d f : Nat}  {r114 : Nat → Int → Int → Int → Int → xj_M → Option (xj_M)}  (hr114 : ∀ {x0 : Nat} {x1 : Int} {x2 : Int} {x4 : Int} {x5 : Int} {M : xj_M} {R : xj_M}, xin x1 → xiN x2 → xin x4 → xin x5 → r114 x0 x1 x2 x4 x5 M = some R → xW (d + 1) (none, d + 1, none) xr_287 (114, [(0, xR_ x0), (1, xI x1), (2, xZ x2), (4, xI x4), (5, xI x5)], [], M) (xQv R)) {x0 : Nat} {x1 : Int} {x2 : Int} {x4 : Int} {x5 : Int} {M : xj_M} {R : xj_M} (hx1 : xin x1) (hx2 : xiN x2) (hx4 : xin x4) (hx5 : xin x5) (h : f287_114b  r114 f x0 x1 x2 x4 x5 M = some R) : xW (d + 1) (none, d + 1, none) xr_287 (114, [(0, xR_ x0), (1, xI x1), (2, xZ x2), (4, xI x4), (5, xI x5)], [], M) (xQv R) := by
  unfold f287_114b at h
  refine xe_ldn (ins := .iload 5) (len := 2) (by decide +kernel) rfl rfl rfl rfl ?_
  refine xe_alr (ins := .aload_n 0) (len := 1) (i := 0) (by decide +kernel) rfl rfl rfl rfl rfl ?_
  obtain ⟨v171, e172, h⟩ := xbnd h
  refine xs_gi (i := 595) (c := 15) (k := 58) (by decide +kernel) (by decide) (by decide +kernel) e172 rfl ?_
  refine xe_icmpge (off := 30) (t := 150) (by decide +kernel) (by decide) rfl hx5 (xq_gi_in e172) (fun c173 => ?_) (fun c173 => ?_)
  · rw [if_pos c173] at h
    refine xW_lv rfl (l := [(0, xR_ (x0)), (1, xI (x1)), (2, xZ (x2)), (4, xI (x4)), (5, xI (x5))]) (xsb_of ⟨rfl, rfl, rfl, rfl, rfl, trivial⟩ (show [0, 1, 2, 4, 5].Nodup by decide)) ?_
    exact k287_150   hx1 hx2 hx4 hx5 h
  · rw [if_neg c173] at h
    refine xe_alr (ins := .aload_n 0) (len := 1) (i := 0) (by decide +kernel) rfl rfl rfl rfl rfl ?_
    obtain ⟨v174, e175, h⟩ := xbnd h
    refine xs_gr (i := 598) (c := 15) (k := 55) (by decide +kernel) (by decide) (by decide +kernel) e175 rfl ?_
    refine xe_iconst (n := 4) (by decide +kernel) rfl ?_
    refine xe_ldn (ins := .iload 5) (len := 2) (by decide +kernel) rfl rfl rfl rfl ?_
    refine xe_imul (by decide +kernel) rfl ?_
    refine xe_alr (ins := .aload_n 0) (len := 1) (i := 0) (by decide +kernel) rfl rfl rfl rfl rfl ?_
    obtain ⟨v176, e177, h⟩ := xbnd h
    refine xs_gr (i := 539) (c := 15) (k := 44) (by decide +kernel) (by decide) (by decide +kernel) e177 rfl ?_
    refine xe_iconst (n := 0) (by decide +kernel) rfl ?_
    refine xe_ldn (ins := .iload 4) (len := 2) (by decide +kernel) rfl rfl rfl rfl ?_
    obtain ⟨R179, e178, h⟩ := xbnd h
    refine xs_cs (kd := 2) (by decide) (i := 442) (j := 262) (ar := [xI (x4), xI (0), xR_ (v176), xI (xwr ((4) * (x5))), xR_ (v174)]) (rest := []) (r2 := xr_262) (by decide +kernel) (by decide +kernel) (by decide +kernel) xr_262_e rfl (by decide) ?_
    refine xc_i (k262 (d := d + 0)  (xin_wr _) (show xin (0) by decide) hx4 e178) rfl (fun hi180 => ?_)
    refine xe_ifge (off := 9) (t := 150) (by decide +kernel) (by decide) rfl hi180 (fun c181 => ?_) (fun c181 => ?_)
    · rw [if_pos c181] at h
      refine xW_lv rfl (l := [(0, xR_ (x0)), (1, xI (x1)), (2, xZ (x2)), (4, xI (x4)), (5, xI (x5))]) (xsb_of ⟨rfl, rfl, rfl, rfl, rfl, trivial⟩ (show [0, 1, 2, 4, 5].Nodup by decide)) ?_
      exact k287_150   hx1 hx2 hx4 hx5 h
    · rw [if_neg c181] at h
      refine xe_iincr (i := 5) (n := 1) (by decide +kernel) (by decide) rfl (xk_k (show ¬ (0 : Nat) = 5 by decide) (Or.inl (show ¬ (0 + 1 : Nat) = 5 by decide)) (xk_k (show ¬ (1 : Nat) = 5 by decide) (Or.inl (show ¬ (1 + 1 : Nat) = 5 by decide)) (xk_k (show ¬ (2 : Nat) = 5 by decide) (Or.inl (show ¬ (2 + 1 : Nat) = 5 by decide)) (xk_k (show ¬ (4 : Nat) = 5 by decide) (Or.inr (xI_cat _)) (xk_d rfl xk_n))))) rfl ?_
      refine xe_goto (off := -33) (nx := 114) (by decide +kernel) (by decide) ?_
      refine xW_lv rfl (l := [(0, xR_ (x0)), (1, xI (x1)), (2, xZ (x2)), (4, xI (x4)), (5, xI (xwr ((x5) + (1))))]) (xsb_of ⟨rfl, rfl, rfl, rfl, rfl, trivial⟩ (show [5, 0, 1, 2, 4].Nodup by decide)) ?_
      exact hr114 hx1 hx2 hx4 (xin_wr _) h
def f287_114   (f : Nat) : Nat → Nat → Int → Int → Int → Int → xj_M → Option (xj_M)
  | 0, _, _, _, _, _, _ => none
  | n + 1, x0, x1, x2, x4, x5, M => f287_114b   (f287_114   f n) f x0 x1 x2 x4 x5 M
theorem k287_114 {d f : Nat}     : ∀ {n : Nat} {x0 : Nat} {x1 : Int} {x2 : Int} {x4 : Int} {x5 : Int} {M : xj_M} {R : xj_M}, xin x1 → xiN x2 → xin x4 → xin x5 → f287_114   f n x0 x1 x2 x4 x5 M = some R → xW (d + 1) (none, d + 1, none) xr_287 (114, [(0, xR_ x0), (1, xI x1), (2, xZ x2), (4, xI x4), (5, xI x5)], [], M) (xQv R) := by
  intro n
  induction n with
  | zero => intros; rename_i h; cases h
  | succ n ih => intros; rename_i h; exact k287_114b   ih (by assumption) (by assumption) (by assumption) (by assumption) h
def f287_111   (f : Nat) (x0 : Nat) (x1 : Int) (x2 : Int) (x4 : Int) (M : xj_M) : Option (xj_M) := f287_114   f f (x0) (x1) (x2) (x4) (0) M
theorem k287_111 {d f : Nat}     {x0 : Nat} {x1 : Int} {x2 : Int} {x4 : Int} {M : xj_M} {R : xj_M} (hx1 : xin x1) (hx2 : xiN x2) (hx4 : xin x4) (h : f287_111   f x0 x1 x2 x4 M = some R) : xW (d + 1) (none, d + 1, none) xr_287 (111, [(0, xR_ x0), (1, xI x1), (2, xZ x2), (4, xI x4)], [], M) (xQv R) := by
  unfold f287_111 at h
  refine xe_iconst (n := 0) (by decide +kernel) rfl ?_
  refine xe_isr (ins := .istore 5) (len := 2) (i := 5) (by decide +kernel) rfl rfl rfl (by decide) (xk_k (show ¬ (0 : Nat) = 5 by decide) (Or.inl (show ¬ (0 + 1 : Nat) = 5 by decide)) (xk_k (show ¬ (1 : Nat) = 5 by decide) (Or.inl (show ¬ (1 + 1 : Nat) = 5 by decide)) (xk_k (show ¬ (2 : Nat) = 5 by decide) (Or.inl (show ¬ (2 + 1 : Nat) = 5 by decide)) (xk_k (show ¬ (4 : Nat) = 5 by decide) (Or.inr (xI_cat _)) xk_n)))) rfl ?_
  refine xW_lv rfl (l := [(0, xR_ (x0)), (1, xI (x1)), (2, xZ (x2)), (4, xI (x4)), (5, xI (0))]) (xsb_of ⟨rfl, rfl, rfl, rfl, rfl, trivial⟩ (show [5, 0, 1, 2, 4].Nodup by decide)) ?_
  exact k287_114   hx1 hx2 hx4 (show xin (0) by decide) h
def f287_53   (f : Nat) (x0 : Nat) (x1 : Int) (x2 : Int) (M : xj_M) : Option (xj_M) := ((xq_gr 15 44 (x0) M).bind fun v182 => ((xq_gr 15 29 (x0) M).bind fun v184 => ((xq_gr 14 19 (v184) M).bind fun v186 => ((xq_gi 15 39 (x0) M).bind fun v188 => ((xq_ai 3 (v186) (v188) M).bind fun v190 => ((xq_sl (v182) (v190) (0) M).bind fun M192 => ((xq_gr 15 29 (x0) M192).bind fun v194 => ((xq_gr 14 17 (v194) M192).bind fun v196 => ((xq_gi 15 39 (x0) M192).bind fun v198 => ((xq_ai 3 (v196) (v198) M192).bind fun v200 => ((xq_gi 15 59 (x0) M192).bind fun v202 => (if (v202) = 0 then f287_111   f (x0) (x1) (x2) (v200) M192 else ((xq_gr 15 44 (x0) M192).bind fun v205 => ((xq_gr 15 57 (x0) M192).bind fun v207 => ((f262  f (v205) (0) (v207) (0) (v200) M192).bind fun R210 => (if 0 < (R210.1) then f287_111   f (x0) (x1) (x2) (v200) R210.2 else (some R210.2)))))))))))))))))
theorem k287_53 {d f : Nat}     {x0 : Nat} {x1 : Int} {x2 : Int} {M : xj_M} {R : xj_M} (hx1 : xin x1) (hx2 : xiN x2) (h : f287_53   f x0 x1 x2 M = some R) : xW (d + 1) (none, d + 1, none) xr_287 (53, [(0, xR_ x0), (1, xI x1), (2, xZ x2)], [], M) (xQv R) := by
  unfold f287_53 at h
  refine xe_alr (ins := .aload_n 0) (len := 1) (i := 0) (by decide +kernel) rfl rfl rfl rfl rfl ?_
  obtain ⟨v182, e183, h⟩ := xbnd h
  refine xs_gr (i := 539) (c := 15) (k := 44) (by decide +kernel) (by decide) (by decide +kernel) e183 rfl ?_
  refine xe_alr (ins := .aload_n 0) (len := 1) (i := 0) (by decide +kernel) rfl rfl rfl rfl rfl ?_
  obtain ⟨v184, e185, h⟩ := xbnd h
  refine xs_gr (i := 439) (c := 15) (k := 29) (by decide +kernel) (by decide) (by decide +kernel) e185 rfl ?_
  obtain ⟨v186, e187, h⟩ := xbnd h
  refine xs_gr (i := 280) (c := 14) (k := 19) (by decide +kernel) (by decide) (by decide +kernel) e187 rfl ?_
  refine xe_alr (ins := .aload_n 0) (len := 1) (i := 0) (by decide +kernel) rfl rfl rfl rfl rfl ?_
  obtain ⟨v188, e189, h⟩ := xbnd h
  refine xs_gi (i := 501) (c := 15) (k := 39) (by decide +kernel) (by decide) (by decide +kernel) e189 rfl ?_
  obtain ⟨v190, e191, h⟩ := xbnd h
  refine xs_iald rfl (by decide +kernel) (xq_gi_in e189) e191 rfl ?_
  refine xe_lconst (n := 0) (z := 0) (by decide +kernel) rfl rfl ?_
  obtain ⟨M192, e193, h⟩ := xbnd h
  refine xs_last (by decide +kernel) (xq_ai_in e191) e193 rfl ?_
  refine xe_alr (ins := .aload_n 0) (len := 1) (i := 0) (by decide +kernel) rfl rfl rfl rfl rfl ?_
  obtain ⟨v194, e195, h⟩ := xbnd h
  refine xs_gr (i := 439) (c := 15) (k := 29) (by decide +kernel) (by decide) (by decide +kernel) e195 rfl ?_
  obtain ⟨v196, e197, h⟩ := xbnd h
  refine xs_gr (i := 274) (c := 14) (k := 17) (by decide +kernel) (by decide) (by decide +kernel) e197 rfl ?_
  refine xe_alr (ins := .aload_n 0) (len := 1) (i := 0) (by decide +kernel) rfl rfl rfl rfl rfl ?_
  obtain ⟨v198, e199, h⟩ := xbnd h
  refine xs_gi (i := 501) (c := 15) (k := 39) (by decide +kernel) (by decide) (by decide +kernel) e199 rfl ?_
  obtain ⟨v200, e201, h⟩ := xbnd h
  refine xs_iald rfl (by decide +kernel) (xq_gi_in e199) e201 rfl ?_
  refine xe_isr (ins := .istore 4) (len := 2) (i := 4) (by decide +kernel) rfl rfl rfl (by decide) (xk_k (show ¬ (0 : Nat) = 4 by decide) (Or.inl (show ¬ (0 + 1 : Nat) = 4 by decide)) (xk_k (show ¬ (1 : Nat) = 4 by decide) (Or.inl (show ¬ (1 + 1 : Nat) = 4 by decide)) (xk_k (show ¬ (2 : Nat) = 4 by decide) (Or.inl (show ¬ (2 + 1 : Nat) = 4 by decide)) xk_n))) rfl ?_
  refine xe_alr (ins := .aload_n 0) (len := 1) (i := 0) (by decide +kernel) rfl rfl rfl rfl rfl ?_
  obtain ⟨v202, e203, h⟩ := xbnd h
  refine xs_gi (i := 589) (c := 15) (k := 59) (by decide +kernel) (by decide) (by decide +kernel) e203 rfl ?_
  refine xe_ifeq (off := 22) (t := 111) (by decide +kernel) (by decide) rfl (xq_gi_in e203) (fun c204 => ?_) (fun c204 => ?_)
  · rw [if_pos c204] at h
    refine xW_lv rfl (l := [(0, xR_ (x0)), (1, xI (x1)), (2, xZ (x2)), (4, xI (v200))]) (xsb_of ⟨rfl, rfl, rfl, rfl, trivial⟩ (show [4, 0, 1, 2].Nodup by decide)) ?_
    exact k287_111   hx1 hx2 (xq_ai_in e201) h
  · rw [if_neg c204] at h
    refine xe_alr (ins := .aload_n 0) (len := 1) (i := 0) (by decide +kernel) rfl rfl rfl rfl rfl ?_
    obtain ⟨v205, e206, h⟩ := xbnd h
    refine xs_gr (i := 539) (c := 15) (k := 44) (by decide +kernel) (by decide) (by decide +kernel) e206 rfl ?_
    refine xe_iconst (n := 0) (by decide +kernel) rfl ?_
    refine xe_alr (ins := .aload_n 0) (len := 1) (i := 0) (by decide +kernel) rfl rfl rfl rfl rfl ?_
    obtain ⟨v207, e208, h⟩ := xbnd h
    refine xs_gr (i := 592) (c := 15) (k := 57) (by decide +kernel) (by decide) (by decide +kernel) e208 rfl ?_
    refine xe_iconst (n := 0) (by decide +kernel) rfl ?_
    refine xe_ldn (ins := .iload 4) (len := 2) (by decide +kernel) rfl rfl rfl rfl ?_
    obtain ⟨R210, e209, h⟩ := xbnd h
    refine xs_cs (kd := 2) (by decide) (i := 442) (j := 262) (ar := [xI (v200), xI (0), xR_ (v207), xI (0), xR_ (v205)]) (rest := []) (r2 := xr_262) (by decide +kernel) (by decide +kernel) (by decide +kernel) xr_262_e rfl (by decide) ?_
    refine xc_i (k262 (d := d + 0)  (show xin (0) by decide) (show xin (0) by decide) (xq_ai_in e201) e209) rfl (fun hi211 => ?_)
    refine xe_ifgt (off := 4) (t := 111) (by decide +kernel) (by decide) rfl hi211 (fun c212 => ?_) (fun c212 => ?_)
    · rw [if_pos c212] at h
      refine xW_lv rfl (l := [(0, xR_ (x0)), (1, xI (x1)), (2, xZ (x2)), (4, xI (v200))]) (xsb_of ⟨rfl, rfl, rfl, rfl, trivial⟩ (show [4, 0, 1, 2].Nodup by decide)) ?_
      exact k287_111   hx1 hx2 (xq_ai_in e201) h
    · rw [if_neg c212] at h
      cases h
      exact xe_ret_v (by decide +kernel) rfl ⟨rfl, rfl⟩
def f287_39   (f : Nat) (x0 : Nat) (x1 : Int) (y0 : Int) (M : xj_M) : Option (xj_M) := (if ¬ (x1) = (2) then f287_53   f (x0) (x1) (y0) M else ((f267  f (y0) M).bind fun R215 => (if (R215.1) = 0 then f287_53   f (x0) (x1) (y0) R215.2 else (some R215.2))))
theorem k287_39 {d f : Nat}     {x0 : Nat} {x1 : Int} {y0 : Int} {M : xj_M} {R : xj_M} (hx1 : xin x1) (hy0 : xiN y0) (h : f287_39   f x0 x1 y0 M = some R) : xW (d + 1) (none, d + 1, none) xr_287 (39, [(0, xR_ x0), (1, xI x1)], [xZ y0], M) (xQv R) := by
  unfold f287_39 at h
  refine xe_lsr (ins := .lstore_n 2) (len := 1) (i := 2) (by decide +kernel) rfl rfl rfl (by decide) (xk2_k (show ¬ (0 : Nat) = 2 by decide) (show ¬ (0 : Nat) = 2 + 1 by decide) (Or.inl (show ¬ (0 + 1 : Nat) = 2 by decide)) (xk2_k (show ¬ (1 : Nat) = 2 by decide) (show ¬ (1 : Nat) = 2 + 1 by decide) (Or.inr (xI_cat _)) xk2_n)) rfl ?_
  refine xe_ldn (ins := .iload_n 1) (len := 1) (by decide +kernel) rfl rfl rfl rfl ?_
  refine xe_iconst (n := 2) (by decide +kernel) rfl ?_
  refine xe_icmpne (off := 11) (t := 53) (by decide +kernel) (by decide) rfl hx1 (show xin (2) by decide) (fun c213 => ?_) (fun c213 => ?_)
  · rw [if_pos c213] at h
    refine xW_lv rfl (l := [(0, xR_ (x0)), (1, xI (x1)), (2, xZ (y0))]) (xsb_of ⟨rfl, rfl, rfl, trivial⟩ (show [2, 0, 1].Nodup by decide)) ?_
    exact k287_53   hx1 hy0 h
  · rw [if_neg c213] at h
    refine xe_ldn (ins := .lload_n 2) (len := 1) (by decide +kernel) rfl rfl rfl rfl ?_
    obtain ⟨R215, e214, h⟩ := xbnd h
    refine xs_cs (kd := 2) (by decide) (i := 466) (j := 267) (ar := [xZ (y0)]) (rest := []) (r2 := xr_267) (by decide +kernel) (by decide +kernel) (by decide +kernel) xr_267_e rfl (by decide) ?_
    refine xc_i (k267 (d := d + 0)  hy0 e214) rfl (fun hi216 => ?_)
    refine xe_ifeq (off := 4) (t := 53) (by decide +kernel) (by decide) rfl hi216 (fun c217 => ?_) (fun c217 => ?_)
    · rw [if_pos c217] at h
      refine xW_lv rfl (l := [(0, xR_ (x0)), (1, xI (x1)), (2, xZ (y0))]) (xsb_of ⟨rfl, rfl, rfl, trivial⟩ (show [2, 0, 1].Nodup by decide)) ?_
      exact k287_53   hx1 hy0 h
    · rw [if_neg c217] at h
      cases h
      exact xe_ret_v (by decide +kernel) rfl ⟨rfl, rfl⟩
def f287  (f : Nat) (a0 : Nat) (M : xj_M) : Option (xj_M) := ((xq_gr 15 29 (a0) M).bind fun v218 => ((xq_gr 14 18 (v218) M).bind fun v220 => ((xq_gi 15 39 (a0) M).bind fun v222 => ((xq_ai 3 (v220) (v222) M).bind fun v224 => (if ¬ (v224) = (1) then ((xq_gr 15 35 (a0) M).bind fun v227 => ((xq_gr 15 29 (a0) M).bind fun v229 => ((xq_gr 14 20 (v229) M).bind fun v231 => ((xq_gi 15 39 (a0) M).bind fun v233 => ((xq_ai 3 (v231) (v233) M).bind fun v235 => ((xq_al (v227) (v235) M).bind fun v237 => f287_39   f (a0) (v224) (v237) M)))))) else f287_39   f (a0) (v224) (1) M)))))
theorem k287 {d f : Nat}   {a0 : Nat} {M : xj_M} {R : xj_M}  (h : f287  f a0 M = some R) : xT (d + 2) 287 [xR_ a0] M (xQv R) := by
  refine xT_m xr_287_e (X := (none, d + 1, none)) rfl (xa_1 (xR_cat _) xa_n) (by decide) ?_
  unfold f287 at h
  refine xe_alr (ins := .aload_n 0) (len := 1) (i := 0) (by decide +kernel) rfl rfl rfl rfl rfl ?_
  obtain ⟨v218, e219, h⟩ := xbnd h
  refine xs_gr (i := 439) (c := 15) (k := 29) (by decide +kernel) (by decide) (by decide +kernel) e219 rfl ?_
  obtain ⟨v220, e221, h⟩ := xbnd h
  refine xs_gr (i := 277) (c := 14) (k := 18) (by decide +kernel) (by decide) (by decide +kernel) e221 rfl ?_
  refine xe_alr (ins := .aload_n 0) (len := 1) (i := 0) (by decide +kernel) rfl rfl rfl rfl rfl ?_
  obtain ⟨v222, e223, h⟩ := xbnd h
  refine xs_gi (i := 501) (c := 15) (k := 39) (by decide +kernel) (by decide) (by decide +kernel) e223 rfl ?_
  obtain ⟨v224, e225, h⟩ := xbnd h
  refine xs_iald rfl (by decide +kernel) (xq_gi_in e223) e225 rfl ?_
  refine xe_isr (ins := .istore_n 1) (len := 1) (i := 1) (by decide +kernel) rfl rfl rfl (by decide) (xk_k (show ¬ (0 : Nat) = 1 by decide) (Or.inr (xR_cat _)) xk_n) rfl ?_
  refine xe_ldn (ins := .iload_n 1) (len := 1) (by decide +kernel) rfl rfl rfl rfl ?_
  refine xe_iconst (n := 1) (by decide +kernel) rfl ?_
  refine xe_icmpne (off := 7) (t := 22) (by decide +kernel) (by decide) rfl (xq_ai_in e225) (show xin (1) by decide) (fun c226 => ?_) (fun c226 => ?_)
  · rw [if_pos c226] at h
    refine xe_alr (ins := .aload_n 0) (len := 1) (i := 0) (by decide +kernel) rfl rfl rfl rfl rfl ?_
    obtain ⟨v227, e228, h⟩ := xbnd h
    refine xs_gr (i := 459) (c := 15) (k := 35) (by decide +kernel) (by decide) (by decide +kernel) e228 rfl ?_
    refine xe_alr (ins := .aload_n 0) (len := 1) (i := 0) (by decide +kernel) rfl rfl rfl rfl rfl ?_
    obtain ⟨v229, e230, h⟩ := xbnd h
    refine xs_gr (i := 439) (c := 15) (k := 29) (by decide +kernel) (by decide) (by decide +kernel) e230 rfl ?_
    obtain ⟨v231, e232, h⟩ := xbnd h
    refine xs_gr (i := 283) (c := 14) (k := 20) (by decide +kernel) (by decide) (by decide +kernel) e232 rfl ?_
    refine xe_alr (ins := .aload_n 0) (len := 1) (i := 0) (by decide +kernel) rfl rfl rfl rfl rfl ?_
    obtain ⟨v233, e234, h⟩ := xbnd h
    refine xs_gi (i := 501) (c := 15) (k := 39) (by decide +kernel) (by decide) (by decide +kernel) e234 rfl ?_
    obtain ⟨v235, e236, h⟩ := xbnd h
    refine xs_iald rfl (by decide +kernel) (xq_gi_in e234) e236 rfl ?_
    obtain ⟨v237, e238, h⟩ := xbnd h
    refine xs_lald (by decide +kernel) (xq_ai_in e236) e238 rfl ?_
    refine xW_lv rfl (l := [(0, xR_ (a0)), (1, xI (v224))]) (xsb_of ⟨rfl, rfl, trivial⟩ (show [1, 0].Nodup by decide)) ?_
    exact k287_39   (xq_ai_in e225) (xq_al_in e238) h
  · rw [if_neg c226] at h
    refine xe_lconst (n := 1) (z := 1) (by decide +kernel) rfl rfl ?_
    refine xe_goto (off := 20) (nx := 39) (by decide +kernel) (by decide) ?_
    refine xW_lv rfl (l := [(0, xR_ (a0)), (1, xI (v224))]) (xsb_of ⟨rfl, rfl, trivial⟩ (show [1, 0].Nodup by decide)) ?_
    exact k287_39   (xq_ai_in e225) (show xiN (1) by decide) h
-- ChangeHouseModel.gives
def xr_289 : xj_mR := (15, yX15_gives, cX15_gives, 7, (Option.some Jvm.ClassFile.FieldType.boolean), 2, false, (10, 20), (1, 12))
set_option maxRecDepth 20000 in
theorem xr_289_e : xj_row 289 = some xr_289 := rfl
def f289_55   (f : Nat)  (M : xj_M) : Option (Int × xj_M) := (some (0, M))
theorem k289_55 {d f : Nat}      {M : xj_M} {R : Int × xj_M}  (h : f289_55   f  M = some R) : xW (d + 3) (none, d + 3, none) xr_289 (55, [], [], M) (xQi R) := by
  unfold f289_55 at h
  refine xe_iconst (n := 0) (by decide +kernel) rfl ?_
  cases h
  exact xe_ret_i (ty := .boolean) (by decide +kernel) rfl (by decide) ⟨rfl, rfl, (show xin (0) by decide)⟩
def f289_135   (f : Nat) (y0 : Int) (M : xj_M) : Option (Int × xj_M) := (if (y0) = 0 ∨ (y0) = 1 then some (y0, M) else none)
theorem k289_135 {d f : Nat}     {y0 : Int} {M : xj_M} {R : Int × xj_M} (hy0 : xin y0) (h : f289_135   f y0 M = some R) : xW (d + 3) (none, d + 3, none) xr_289 (135, [], [xI y0], M) (xQi R) := by
  unfold f289_135 at h
  by_cases c101 : (y0) = 0 ∨ (y0) = 1
  · rw [if_pos c101] at h; cases h; exact xe_ret_i (ty := .boolean) (by decide +kernel) rfl (xbool c101) ⟨rfl, rfl, hy0⟩
  · rw [if_neg c101] at h; cases h
def f289_60b  (r60 : Nat → Int → Int → Int → Int → Int → xj_M → Option (Int × xj_M)) (f : Nat) (x0 : Nat) (x1 : Int) (x2 : Int) (x3 : Int) (x4 : Int) (x6 : Int) (M : xj_M) : Option (Int × xj_M) := (if (x3) ≤ (x6) then ((xq_gr 15 44 (x0) M).bind fun v103 => ((xq_gr 15 29 (x0) M).bind fun v105 => ((xq_gr 14 19 (v105) M).bind fun v107 => ((xq_gi 15 39 (x0) M).bind fun v109 => ((xq_ai 3 (v107) (v109) M).bind fun v111 => ((xq_sl (v103) (v111) (x4) M).bind fun M113 => (if (x2) = 0 then ((xq_gr 15 29 (x0) M113).bind fun v116 => ((xq_gr 14 15 (v116) M113).bind fun v118 => ((xq_gi 15 39 (x0) M113).bind fun v120 => ((xq_ai 3 (v118) (v120) M113).bind fun v122 => ((xq_is 15 (x0) M113).bind fun _ => ((f284  f (x0) (v122) M113).bind fun M126 => (some (0, M126)))))))) else ((xq_gr 15 44 (x0) M113).bind fun v128 => ((xq_gr 15 51 (x0) M113).bind fun v130 => ((f262  f (v128) (0) (v130) (0) (x3) M113).bind fun R133 => (if ¬ (R133.1) = 0 then f289_135   f (0) R133.2 else f289_135   f (1) R133.2))))))))))) else ((xq_gr 15 44 (x0) M).bind fun v136 => ((xq_gr 15 55 (x0) M).bind fun v138 => ((xq_al (v138) (xwr ((xwr ((4) * (x1))) + (x6))) M).bind fun v140 => ((xq_sl (v136) (x6) (v140) M).bind fun M142 => r60 (x0) (x1) (x2) (x3) (x4) (xwr ((x6) + (1))) M142)))))
theorem k289_60b {d f : Nat}  {r60 : Nat → Int → Int → Int → Int → Int → xj_M → Option (Int × xj_M)}  (hr60 : ∀ {x0 : Nat} {x1 : Int} {x2 : Int} {x3 : Int} {x4 : Int} {x6 : Int} {M : xj_M} {R : Int × xj_M}, xin x1 → xin x2 → xin x3 → xiN x4 → xin x6 → r60 x0 x1 x2 x3 x4 x6 M = some R → xW (d + 3) (none, d + 3, none) xr_289 (60, [(0, xR_ x0), (1, xI x1), (2, xI x2), (3, xI x3), (4, xZ x4), (6, xI x6)], [], M) (xQi R)) {x0 : Nat} {x1 : Int} {x2 : Int} {x3 : Int} {x4 : Int} {x6 : Int} {M : xj_M} {R : Int × xj_M} (hx1 : xin x1) (hx2 : xin x2) (hx3 : xin x3) (hx4 : xiN x4) (hx6 : xin x6) (h : f289_60b  r60 f x0 x1 x2 x3 x4 x6 M = some R) : xW (d + 3) (none, d + 3, none) xr_289 (60, [(0, xR_ x0), (1, xI x1), (2, xI x2), (3, xI x3), (4, xZ x4), (6, xI x6)], [], M) (xQi R) := by
  unfold f289_60b at h
  refine xe_ldn (ins := .iload 6) (len := 2) (by decide +kernel) rfl rfl rfl rfl ?_
  refine xe_ldn (ins := .iload_n 3) (len := 1) (by decide +kernel) rfl rfl rfl rfl ?_
  refine xe_icmpge (off := 27) (t := 90) (by decide +kernel) (by decide) rfl hx6 hx3 (fun c102 => ?_) (fun c102 => ?_)
  · rw [if_pos c102] at h
    refine xe_alr (ins := .aload_n 0) (len := 1) (i := 0) (by decide +kernel) rfl rfl rfl rfl rfl ?_
    obtain ⟨v103, e104, h⟩ := xbnd h
    refine xs_gr (i := 539) (c := 15) (k := 44) (by decide +kernel) (by decide) (by decide +kernel) e104 rfl ?_
    refine xe_alr (ins := .aload_n 0) (len := 1) (i := 0) (by decide +kernel) rfl rfl rfl rfl rfl ?_
    obtain ⟨v105, e106, h⟩ := xbnd h
    refine xs_gr (i := 439) (c := 15) (k := 29) (by decide +kernel) (by decide) (by decide +kernel) e106 rfl ?_
    obtain ⟨v107, e108, h⟩ := xbnd h
    refine xs_gr (i := 280) (c := 14) (k := 19) (by decide +kernel) (by decide) (by decide +kernel) e108 rfl ?_
    refine xe_alr (ins := .aload_n 0) (len := 1) (i := 0) (by decide +kernel) rfl rfl rfl rfl rfl ?_
    obtain ⟨v109, e110, h⟩ := xbnd h
    refine xs_gi (i := 501) (c := 15) (k := 39) (by decide +kernel) (by decide) (by decide +kernel) e110 rfl ?_
    obtain ⟨v111, e112, h⟩ := xbnd h
    refine xs_iald rfl (by decide +kernel) (xq_gi_in e110) e112 rfl ?_
    refine xe_ldn (ins := .lload 4) (len := 2) (by decide +kernel) rfl rfl rfl rfl ?_
    obtain ⟨M113, e114, h⟩ := xbnd h
    refine xs_last (by decide +kernel) (xq_ai_in e112) e114 rfl ?_
    refine xe_ldn (ins := .iload_n 2) (len := 1) (by decide +kernel) rfl rfl rfl rfl ?_
    refine xe_ifeq (off := 26) (t := 136) (by decide +kernel) (by decide) rfl hx2 (fun c115 => ?_) (fun c115 => ?_)
    · rw [if_pos c115] at h
      refine xe_alr (ins := .aload_n 0) (len := 1) (i := 0) (by decide +kernel) rfl rfl rfl rfl rfl ?_
      refine xe_alr (ins := .aload_n 0) (len := 1) (i := 0) (by decide +kernel) rfl rfl rfl rfl rfl ?_
      obtain ⟨v116, e117, h⟩ := xbnd h
      refine xs_gr (i := 439) (c := 15) (k := 29) (by decide +kernel) (by decide) (by decide +kernel) e117 rfl ?_
      obtain ⟨v118, e119, h⟩ := xbnd h
      refine xs_gr (i := 292) (c := 14) (k := 15) (by decide +kernel) (by decide) (by decide +kernel) e119 rfl ?_
      refine xe_alr (ins := .aload_n 0) (len := 1) (i := 0) (by decide +kernel) rfl rfl rfl rfl rfl ?_
      obtain ⟨v120, e121, h⟩ := xbnd h
      refine xs_gi (i := 501) (c := 15) (k := 39) (by decide +kernel) (by decide) (by decide +kernel) e121 rfl ?_
      obtain ⟨v122, e123, h⟩ := xbnd h
      refine xs_iald rfl (by decide +kernel) (xq_gi_in e121) e123 rfl ?_
      obtain ⟨_, e125, h⟩ := xbnd h
      obtain ⟨M126, e124, h⟩ := xbnd h
      refine xs_cv (i := 548) (j := 284) (ar := [xI (v122)]) (rest := []) (r2 := xr_284) (by decide +kernel) (by decide +kernel) (by decide +kernel) xr_284_e rfl (by decide) (by decide) e125 ?_
      refine xc_v (k284 (d := d + 0)  (xq_ai_in e123) e124) rfl ?_
      refine xe_iconst (n := 0) (by decide +kernel) rfl ?_
      cases h
      exact xe_ret_i (ty := .boolean) (by decide +kernel) rfl (by decide) ⟨rfl, rfl, (show xin (0) by decide)⟩
    · rw [if_neg c115] at h
      refine xe_alr (ins := .aload_n 0) (len := 1) (i := 0) (by decide +kernel) rfl rfl rfl rfl rfl ?_
      obtain ⟨v128, e129, h⟩ := xbnd h
      refine xs_gr (i := 539) (c := 15) (k := 44) (by decide +kernel) (by decide) (by decide +kernel) e129 rfl ?_
      refine xe_iconst (n := 0) (by decide +kernel) rfl ?_
      refine xe_alr (ins := .aload_n 0) (len := 1) (i := 0) (by decide +kernel) rfl rfl rfl rfl rfl ?_
      obtain ⟨v130, e131, h⟩ := xbnd h
      refine xs_gr (i := 556) (c := 15) (k := 51) (by decide +kernel) (by decide) (by decide +kernel) e131 rfl ?_
      refine xe_iconst (n := 0) (by decide +kernel) rfl ?_
      refine xe_ldn (ins := .iload_n 3) (len := 1) (by decide +kernel) rfl rfl rfl rfl ?_
      obtain ⟨R133, e132, h⟩ := xbnd h
      refine xs_cs (kd := 2) (by decide) (i := 442) (j := 262) (ar := [xI (x3), xI (0), xR_ (v130), xI (0), xR_ (v128)]) (rest := []) (r2 := xr_262) (by decide +kernel) (by decide +kernel) (by decide +kernel) xr_262_e rfl (by decide) ?_
      refine xc_i (k262 (d := d + 2)  (show xin (0) by decide) (show xin (0) by decide) hx3 e132) rfl (fun hi134 => ?_)
      refine xe_ifne (off := 7) (t := 134) (by decide +kernel) (by decide) rfl hi134 (fun c135 => ?_) (fun c135 => ?_)
      · rw [if_pos c135] at h
        refine xe_iconst (n := 0) (by decide +kernel) rfl ?_
        refine xW_lv rfl (l := []) (xsb_of trivial (show [0, 1, 2, 3, 4, 6].Nodup by decide)) ?_
        exact k289_135   (show xin (0) by decide) h
      · rw [if_neg c135] at h
        refine xe_iconst (n := 1) (by decide +kernel) rfl ?_
        refine xe_goto (off := 4) (nx := 135) (by decide +kernel) (by decide) ?_
        refine xW_lv rfl (l := []) (xsb_of trivial (show [0, 1, 2, 3, 4, 6].Nodup by decide)) ?_
        exact k289_135   (show xin (1) by decide) h
  · rw [if_neg c102] at h
    refine xe_alr (ins := .aload_n 0) (len := 1) (i := 0) (by decide +kernel) rfl rfl rfl rfl rfl ?_
    obtain ⟨v136, e137, h⟩ := xbnd h
    refine xs_gr (i := 539) (c := 15) (k := 44) (by decide +kernel) (by decide) (by decide +kernel) e137 rfl ?_
    refine xe_ldn (ins := .iload 6) (len := 2) (by decide +kernel) rfl rfl rfl rfl ?_
    refine xe_alr (ins := .aload_n 0) (len := 1) (i := 0) (by decide +kernel) rfl rfl rfl rfl rfl ?_
    obtain ⟨v138, e139, h⟩ := xbnd h
    refine xs_gr (i := 598) (c := 15) (k := 55) (by decide +kernel) (by decide) (by decide +kernel) e139 rfl ?_
    refine xe_iconst (n := 4) (by decide +kernel) rfl ?_
    refine xe_ldn (ins := .iload_n 1) (len := 1) (by decide +kernel) rfl rfl rfl rfl ?_
    refine xe_imul (by decide +kernel) rfl ?_
    refine xe_ldn (ins := .iload 6) (len := 2) (by decide +kernel) rfl rfl rfl rfl ?_
    refine xe_iadd (by decide +kernel) rfl ?_
    obtain ⟨v140, e141, h⟩ := xbnd h
    refine xs_lald (by decide +kernel) (xin_wr _) e141 rfl ?_
    obtain ⟨M142, e143, h⟩ := xbnd h
    refine xs_last (by decide +kernel) hx6 e143 rfl ?_
    refine xe_iincr (i := 6) (n := 1) (by decide +kernel) (by decide) rfl (xk_k (show ¬ (0 : Nat) = 6 by decide) (Or.inl (show ¬ (0 + 1 : Nat) = 6 by decide)) (xk_k (show ¬ (1 : Nat) = 6 by decide) (Or.inl (show ¬ (1 + 1 : Nat) = 6 by decide)) (xk_k (show ¬ (2 : Nat) = 6 by decide) (Or.inl (show ¬ (2 + 1 : Nat) = 6 by decide)) (xk_k (show ¬ (3 : Nat) = 6 by decide) (Or.inl (show ¬ (3 + 1 : Nat) = 6 by decide)) (xk_k (show ¬ (4 : Nat) = 6 by decide) (Or.inl (show ¬ (4 + 1 : Nat) = 6 by decide)) (xk_d rfl xk_n)))))) rfl ?_
    refine xe_goto (off := -27) (nx := 60) (by decide +kernel) (by decide) ?_
    refine xW_lv rfl (l := [(0, xR_ (x0)), (1, xI (x1)), (2, xI (x2)), (3, xI (x3)), (4, xZ (x4)), (6, xI (xwr ((x6) + (1))))]) (xsb_of ⟨rfl, rfl, rfl, rfl, rfl, rfl, trivial⟩ (show [6, 0, 1, 2, 3, 4].Nodup by decide)) ?_
    exact hr60 hx1 hx2 hx3 hx4 (xin_wr _) h
def f289_60   (f : Nat) : Nat → Nat → Int → Int → Int → Int → Int → xj_M → Option (Int × xj_M)
  | 0, _, _, _, _, _, _, _ => none
  | n + 1, x0, x1, x2, x3, x4, x6, M => f289_60b   (f289_60   f n) f x0 x1 x2 x3 x4 x6 M
theorem k289_60 {d f : Nat}     : ∀ {n : Nat} {x0 : Nat} {x1 : Int} {x2 : Int} {x3 : Int} {x4 : Int} {x6 : Int} {M : xj_M} {R : Int × xj_M}, xin x1 → xin x2 → xin x3 → xiN x4 → xin x6 → f289_60   f n x0 x1 x2 x3 x4 x6 M = some R → xW (d + 3) (none, d + 3, none) xr_289 (60, [(0, xR_ x0), (1, xI x1), (2, xI x2), (3, xI x3), (4, xZ x4), (6, xI x6)], [], M) (xQi R) := by
  intro n
  induction n with
  | zero => intros; rename_i h; cases h
  | succ n ih => intros; rename_i h; exact k289_60b   ih (by assumption) (by assumption) (by assumption) (by assumption) (by assumption) h
def f289_57   (f : Nat) (x0 : Nat) (x1 : Int) (x2 : Int) (x3 : Int) (x4 : Int) (M : xj_M) : Option (Int × xj_M) := f289_60   f f (x0) (x1) (x2) (x3) (x4) (0) M
theorem k289_57 {d f : Nat}     {x0 : Nat} {x1 : Int} {x2 : Int} {x3 : Int} {x4 : Int} {M : xj_M} {R : Int × xj_M} (hx1 : xin x1) (hx2 : xin x2) (hx3 : xin x3) (hx4 : xiN x4) (h : f289_57   f x0 x1 x2 x3 x4 M = some R) : xW (d + 3) (none, d + 3, none) xr_289 (57, [(0, xR_ x0), (1, xI x1), (2, xI x2), (3, xI x3), (4, xZ x4)], [], M) (xQi R) := by
  unfold f289_57 at h
  refine xe_iconst (n := 0) (by decide +kernel) rfl ?_
  refine xe_isr (ins := .istore 6) (len := 2) (i := 6) (by decide +kernel) rfl rfl rfl (by decide) (xk_k (show ¬ (0 : Nat) = 6 by decide) (Or.inl (show ¬ (0 + 1 : Nat) = 6 by decide)) (xk_k (show ¬ (1 : Nat) = 6 by decide) (Or.inl (show ¬ (1 + 1 : Nat) = 6 by decide)) (xk_k (show ¬ (2 : Nat) = 6 by decide) (Or.inl (show ¬ (2 + 1 : Nat) = 6 by decide)) (xk_k (show ¬ (3 : Nat) = 6 by decide) (Or.inl (show ¬ (3 + 1 : Nat) = 6 by decide)) (xk_k (show ¬ (4 : Nat) = 6 by decide) (Or.inl (show ¬ (4 + 1 : Nat) = 6 by decide)) xk_n))))) rfl ?_
  refine xW_lv rfl (l := [(0, xR_ (x0)), (1, xI (x1)), (2, xI (x2)), (3, xI (x3)), (4, xZ (x4)), (6, xI (0))]) (xsb_of ⟨rfl, rfl, rfl, rfl, rfl, rfl, trivial⟩ (show [6, 0, 1, 2, 3, 4].Nodup by decide)) ?_
  exact k289_60   hx1 hx2 hx3 hx4 (show xin (0) by decide) h
def f289  (f : Nat) (a0 : Nat) (a1 : Int) (a2 : Int) (M : xj_M) : Option (Int × xj_M) := ((xq_gr 15 29 (a0) M).bind fun v144 => ((xq_gr 14 17 (v144) M).bind fun v146 => ((xq_gi 15 39 (a0) M).bind fun v148 => ((xq_ai 3 (v146) (v148) M).bind fun v150 => ((xq_gr 15 56 (a0) M).bind fun v152 => ((xq_al (v152) (a1) M).bind fun v154 => ((xq_gr 15 29 (a0) M).bind fun v156 => ((xq_gr 14 18 (v156) M).bind fun v158 => ((xq_gi 15 39 (a0) M).bind fun v160 => ((xq_ai 3 (v158) (v160) M).bind fun v162 => (if ¬ (v162) = (2) then f289_57   f (a0) (a1) (a2) (v150) (v154) M else (if (1000000000000) < (v154) then f289_55   f  M else (if (-1000000000000) ≤ (v154) then f289_57   f (a0) (a1) (a2) (v150) (v154) M else f289_55   f  M)))))))))))))
theorem k289 {d f : Nat}   {a0 : Nat} {a1 : Int} {a2 : Int} {M : xj_M} {R : Int × xj_M} (ha1 : xin a1) (ha2 : xin a2) (h : f289  f a0 a1 a2 M = some R) : xT (d + 4) 289 [xR_ a0, xI a1, xI a2] M (xQi R) := by
  refine xT_m xr_289_e (X := (none, d + 3, none)) rfl (xa_1 (xR_cat _) (xa_1 (xI_cat _) (xa_1 (xI_cat _) xa_n))) (by decide) ?_
  unfold f289 at h
  refine xe_alr (ins := .aload_n 0) (len := 1) (i := 0) (by decide +kernel) rfl rfl rfl rfl rfl ?_
  obtain ⟨v144, e145, h⟩ := xbnd h
  refine xs_gr (i := 439) (c := 15) (k := 29) (by decide +kernel) (by decide) (by decide +kernel) e145 rfl ?_
  obtain ⟨v146, e147, h⟩ := xbnd h
  refine xs_gr (i := 274) (c := 14) (k := 17) (by decide +kernel) (by decide) (by decide +kernel) e147 rfl ?_
  refine xe_alr (ins := .aload_n 0) (len := 1) (i := 0) (by decide +kernel) rfl rfl rfl rfl rfl ?_
  obtain ⟨v148, e149, h⟩ := xbnd h
  refine xs_gi (i := 501) (c := 15) (k := 39) (by decide +kernel) (by decide) (by decide +kernel) e149 rfl ?_
  obtain ⟨v150, e151, h⟩ := xbnd h
  refine xs_iald rfl (by decide +kernel) (xq_gi_in e149) e151 rfl ?_
  refine xe_isr (ins := .istore_n 3) (len := 1) (i := 3) (by decide +kernel) rfl rfl rfl (by decide) (xk_k (show ¬ (0 : Nat) = 3 by decide) (Or.inl (show ¬ (0 + 1 : Nat) = 3 by decide)) (xk_k (show ¬ (1 : Nat) = 3 by decide) (Or.inl (show ¬ (1 + 1 : Nat) = 3 by decide)) (xk_k (show ¬ (2 : Nat) = 3 by decide) (Or.inr (xI_cat _)) xk_n))) rfl ?_
  refine xe_alr (ins := .aload_n 0) (len := 1) (i := 0) (by decide +kernel) rfl rfl rfl rfl rfl ?_
  obtain ⟨v152, e153, h⟩ := xbnd h
  refine xs_gr (i := 601) (c := 15) (k := 56) (by decide +kernel) (by decide) (by decide +kernel) e153 rfl ?_
  refine xe_ldn (ins := .iload_n 1) (len := 1) (by decide +kernel) rfl rfl rfl rfl ?_
  obtain ⟨v154, e155, h⟩ := xbnd h
  refine xs_lald (by decide +kernel) ha1 e155 rfl ?_
  refine xe_lsr (ins := .lstore 4) (len := 2) (i := 4) (by decide +kernel) rfl rfl rfl (by decide) (xk2_k (show ¬ (3 : Nat) = 4 by decide) (show ¬ (3 : Nat) = 4 + 1 by decide) (Or.inr (xI_cat _)) (xk2_k (show ¬ (0 : Nat) = 4 by decide) (show ¬ (0 : Nat) = 4 + 1 by decide) (Or.inl (show ¬ (0 + 1 : Nat) = 4 by decide)) (xk2_k (show ¬ (1 : Nat) = 4 by decide) (show ¬ (1 : Nat) = 4 + 1 by decide) (Or.inl (show ¬ (1 + 1 : Nat) = 4 by decide)) (xk2_k (show ¬ (2 : Nat) = 4 by decide) (show ¬ (2 : Nat) = 4 + 1 by decide) (Or.inl (show ¬ (2 + 1 : Nat) = 4 by decide)) xk2_n)))) rfl ?_
  refine xe_alr (ins := .aload_n 0) (len := 1) (i := 0) (by decide +kernel) rfl rfl rfl rfl rfl ?_
  obtain ⟨v156, e157, h⟩ := xbnd h
  refine xs_gr (i := 439) (c := 15) (k := 29) (by decide +kernel) (by decide) (by decide +kernel) e157 rfl ?_
  obtain ⟨v158, e159, h⟩ := xbnd h
  refine xs_gr (i := 277) (c := 14) (k := 18) (by decide +kernel) (by decide) (by decide +kernel) e159 rfl ?_
  refine xe_alr (ins := .aload_n 0) (len := 1) (i := 0) (by decide +kernel) rfl rfl rfl rfl rfl ?_
  obtain ⟨v160, e161, h⟩ := xbnd h
  refine xs_gi (i := 501) (c := 15) (k := 39) (by decide +kernel) (by decide) (by decide +kernel) e161 rfl ?_
  obtain ⟨v162, e163, h⟩ := xbnd h
  refine xs_iald rfl (by decide +kernel) (xq_gi_in e161) e163 rfl ?_
  refine xe_iconst (n := 2) (by decide +kernel) rfl ?_
  refine xe_icmpne (off := 23) (t := 57) (by decide +kernel) (by decide) rfl (xq_ai_in e163) (show xin (2) by decide) (fun c164 => ?_) (fun c164 => ?_)
  · rw [if_pos c164] at h
    refine xW_lv rfl (l := [(0, xR_ (a0)), (1, xI (a1)), (2, xI (a2)), (3, xI (v150)), (4, xZ (v154))]) (xsb_of ⟨rfl, rfl, rfl, rfl, rfl, trivial⟩ (show [4, 3, 0, 1, 2].Nodup by decide)) ?_
    exact k289_57   ha1 ha2 (xq_ai_in e151) (xq_al_in e155) h
  · rw [if_neg c164] at h
    refine xe_ldn (ins := .lload 4) (len := 2) (by decide +kernel) rfl rfl rfl rfl ?_
    refine xe_ldc2 (i := 103) (n := 1000000000000) (by decide +kernel) (by decide +kernel) rfl ?_
    refine xe_lcmp (by decide +kernel) rfl (xq_al_in e155) (show xiN (1000000000000) by decide) ?_
    refine xe_ifgt (off := 12) (t := 55) (by decide +kernel) (by decide) rfl (xin_cmp8 _ _) (fun c165 => ?_) (fun c165 => ?_)
    · have c165 := xcmp8_gt.mp c165; rw [if_pos c165] at h
      refine xW_lv rfl (l := []) (xsb_of trivial (show [4, 3, 0, 1, 2].Nodup by decide)) ?_
      exact k289_55    h
    · have c165 := (not_congr xcmp8_gt).mp c165; rw [if_neg c165] at h
      refine xe_ldn (ins := .lload 4) (len := 2) (by decide +kernel) rfl rfl rfl rfl ?_
      refine xe_ldc2 (i := 473) (n := -1000000000000) (by decide +kernel) (by decide +kernel) rfl ?_
      refine xe_lcmp (by decide +kernel) rfl (xq_al_in e155) (show xiN (-1000000000000) by decide) ?_
      refine xe_ifge (off := 5) (t := 57) (by decide +kernel) (by decide) rfl (xin_cmp8 _ _) (fun c166 => ?_) (fun c166 => ?_)
      · have c166 := xcmp8_ge.mp c166; rw [if_pos c166] at h
        refine xW_lv rfl (l := [(0, xR_ (a0)), (1, xI (a1)), (2, xI (a2)), (3, xI (v150)), (4, xZ (v154))]) (xsb_of ⟨rfl, rfl, rfl, rfl, rfl, trivial⟩ (show [4, 3, 0, 1, 2].Nodup by decide)) ?_
        exact k289_57   ha1 ha2 (xq_ai_in e151) (xq_al_in e155) h
      · have c166 := (not_congr xcmp8_ge).mp c166; rw [if_neg c166] at h
        refine xW_lv rfl (l := []) (xsb_of trivial (show [4, 3, 0, 1, 2].Nodup by decide)) ?_
        exact k289_55    h
-- ChangeHouseModel.readsOf
def xr_292 : xj_mR := (15, yX15_readsOf, cX15_readsOf, 5, (Option.some Jvm.ClassFile.FieldType.int), 1, false, (9, 159), (1, 12))
set_option maxRecDepth 20000 in
theorem xr_292_e : xj_row 292 = some xr_292 := rfl
def f292_56  (r7 : Nat → Int → Int → Int → Int → xj_M → Option (Int × xj_M)) (f : Nat) (x0 : Nat) (x1 : Int) (x2 : Int) (x3 : Int) (x4 : Int) (M : xj_M) : Option (Int × xj_M) := r7 (x0) (x1) (x2) (x3) (xwr ((x4) + (1))) M
theorem k292_56 {d f : Nat}  {r7 : Nat → Int → Int → Int → Int → xj_M → Option (Int × xj_M)}  (hr7 : ∀ {x0 : Nat} {x1 : Int} {x2 : Int} {x3 : Int} {x4 : Int} {M : xj_M} {R : Int × xj_M}, xin x1 → xin x2 → xin x3 → xin x4 → r7 x0 x1 x2 x3 x4 M = some R → xW (d + 0) (none, d + 0, none) xr_292 (7, [(0, xR_ x0), (1, xI x1), (2, xI x2), (3, xI x3), (4, xI x4)], [], M) (xQi R)) {x0 : Nat} {x1 : Int} {x2 : Int} {x3 : Int} {x4 : Int} {M : xj_M} {R : Int × xj_M} (hx1 : xin x1) (hx2 : xin x2) (hx3 : xin x3) (hx4 : xin x4) (h : f292_56  r7 f x0 x1 x2 x3 x4 M = some R) : xW (d + 0) (none, d + 0, none) xr_292 (56, [(0, xR_ x0), (1, xI x1), (2, xI x2), (3, xI x3), (4, xI x4)], [], M) (xQi R) := by
  unfold f292_56 at h
  refine xe_iincr (i := 4) (n := 1) (by decide +kernel) (by decide) rfl (xk_k (show ¬ (0 : Nat) = 4 by decide) (Or.inl (show ¬ (0 + 1 : Nat) = 4 by decide)) (xk_k (show ¬ (1 : Nat) = 4 by decide) (Or.inl (show ¬ (1 + 1 : Nat) = 4 by decide)) (xk_k (show ¬ (2 : Nat) = 4 by decide) (Or.inl (show ¬ (2 + 1 : Nat) = 4 by decide)) (xk_k (show ¬ (3 : Nat) = 4 by decide) (Or.inr (xI_cat _)) (xk_d rfl xk_n))))) rfl ?_
  refine xe_goto (off := -52) (nx := 7) (by decide +kernel) (by decide) ?_
  refine xW_lv rfl (l := [(0, xR_ (x0)), (1, xI (x1)), (2, xI (x2)), (3, xI (x3)), (4, xI (xwr ((x4) + (1))))]) (xsb_of ⟨rfl, rfl, rfl, rfl, rfl, trivial⟩ (show [4, 0, 1, 2, 3].Nodup by decide)) ?_
  exact hr7 hx1 hx2 hx3 (xin_wr _) h
def f292_7b  (r7 : Nat → Int → Int → Int → Int → xj_M → Option (Int × xj_M)) (f : Nat) (x0 : Nat) (x1 : Int) (x2 : Int) (x3 : Int) (x4 : Int) (M : xj_M) : Option (Int × xj_M) := ((xq_gr 15 29 (x0) M).bind fun v101 => ((xq_gi 14 8 (v101) M).bind fun v103 => (if (v103) ≤ (x4) then (some (xand (x2) (xxor (x3) (-1)), M)) else ((xq_gr 15 29 (x0) M).bind fun v106 => ((xq_gr 14 4 (v106) M).bind fun v108 => ((xq_ai 3 (v108) (x4) M).bind fun v110 => (if (v110) = (x1) then ((xq_gr 15 29 (x0) M).bind fun v113 => ((xq_gr 14 3 (v113) M).bind fun v115 => ((xq_ai 3 (v115) (x4) M).bind fun v117 => f292_56  r7 f (x0) (x1) (xor_ (x2) (v117)) (xor_ (x3) (xshl (1) (x4))) (x4) M))) else f292_56  r7 f (x0) (x1) (x2) (x3) (x4) M)))))))
theorem k292_7b {d f : Nat}  {r7 : Nat → Int → Int → Int → Int → xj_M → Option (Int × xj_M)}  (hr7 : ∀ {x0 : Nat} {x1 : Int} {x2 : Int} {x3 : Int} {x4 : Int} {M : xj_M} {R : Int × xj_M}, xin x1 → xin x2 → xin x3 → xin x4 → r7 x0 x1 x2 x3 x4 M = some R → xW (d + 0) (none, d + 0, none) xr_292 (7, [(0, xR_ x0), (1, xI x1), (2, xI x2), (3, xI x3), (4, xI x4)], [], M) (xQi R)) {x0 : Nat} {x1 : Int} {x2 : Int} {x3 : Int} {x4 : Int} {M : xj_M} {R : Int × xj_M} (hx1 : xin x1) (hx2 : xin x2) (hx3 : xin x3) (hx4 : xin x4) (h : f292_7b  r7 f x0 x1 x2 x3 x4 M = some R) : xW (d + 0) (none, d + 0, none) xr_292 (7, [(0, xR_ x0), (1, xI x1), (2, xI x2), (3, xI x3), (4, xI x4)], [], M) (xQi R) := by
  unfold f292_7b at h
  refine xe_ldn (ins := .iload 4) (len := 2) (by decide +kernel) rfl rfl rfl rfl ?_
  refine xe_alr (ins := .aload_n 0) (len := 1) (i := 0) (by decide +kernel) rfl rfl rfl rfl rfl ?_
  obtain ⟨v101, e102, h⟩ := xbnd h
  refine xs_gr (i := 439) (c := 15) (k := 29) (by decide +kernel) (by decide) (by decide +kernel) e102 rfl ?_
  obtain ⟨v103, e104, h⟩ := xbnd h
  refine xs_gi (i := 166) (c := 14) (k := 8) (by decide +kernel) (by decide) (by decide +kernel) e104 rfl ?_
  refine xe_icmpge (off := 46) (t := 62) (by decide +kernel) (by decide) rfl hx4 (xq_gi_in e104) (fun c105 => ?_) (fun c105 => ?_)
  · rw [if_pos c105] at h
    refine xe_ldn (ins := .iload_n 2) (len := 1) (by decide +kernel) rfl rfl rfl rfl ?_
    refine xe_ldn (ins := .iload_n 3) (len := 1) (by decide +kernel) rfl rfl rfl rfl ?_
    refine xe_iconst (n := -1) (by decide +kernel) rfl ?_
    refine xe_ixor (by decide +kernel) rfl ?_
    refine xe_iand (by decide +kernel) rfl ?_
    cases h
    exact xe_ret_i (ty := .int) (by decide +kernel) rfl rfl ⟨rfl, rfl, (xin_of _)⟩
  · rw [if_neg c105] at h
    refine xe_alr (ins := .aload_n 0) (len := 1) (i := 0) (by decide +kernel) rfl rfl rfl rfl rfl ?_
    obtain ⟨v106, e107, h⟩ := xbnd h
    refine xs_gr (i := 439) (c := 15) (k := 29) (by decide +kernel) (by decide) (by decide +kernel) e107 rfl ?_
    obtain ⟨v108, e109, h⟩ := xbnd h
    refine xs_gr (i := 427) (c := 14) (k := 4) (by decide +kernel) (by decide) (by decide +kernel) e109 rfl ?_
    refine xe_ldn (ins := .iload 4) (len := 2) (by decide +kernel) rfl rfl rfl rfl ?_
    obtain ⟨v110, e111, h⟩ := xbnd h
    refine xs_iald rfl (by decide +kernel) hx4 e111 rfl ?_
    refine xe_ldn (ins := .iload_n 1) (len := 1) (by decide +kernel) rfl rfl rfl rfl ?_
    refine xe_icmpeq (off := 6) (t := 36) (by decide +kernel) (by decide) rfl (xq_ai_in e111) hx1 (fun c112 => ?_) (fun c112 => ?_)
    · rw [if_pos c112] at h
      refine xe_ldn (ins := .iload_n 3) (len := 1) (by decide +kernel) rfl rfl rfl rfl ?_
      refine xe_iconst (n := 1) (by decide +kernel) rfl ?_
      refine xe_ldn (ins := .iload 4) (len := 2) (by decide +kernel) rfl rfl rfl rfl ?_
      refine xe_ishl (by decide +kernel) rfl ?_
      refine xe_ior (by decide +kernel) rfl ?_
      refine xe_isr (ins := .istore_n 3) (len := 1) (i := 3) (by decide +kernel) rfl rfl rfl (by decide) (xk_k (show ¬ (0 : Nat) = 3 by decide) (Or.inl (show ¬ (0 + 1 : Nat) = 3 by decide)) (xk_k (show ¬ (1 : Nat) = 3 by decide) (Or.inl (show ¬ (1 + 1 : Nat) = 3 by decide)) (xk_k (show ¬ (2 : Nat) = 3 by decide) (Or.inr (xI_cat _)) (xk_d rfl (xk_k (show ¬ (4 : Nat) = 3 by decide) (Or.inl (show ¬ (4 + 1 : Nat) = 3 by decide)) xk_n))))) rfl ?_
      refine xe_ldn (ins := .iload_n 2) (len := 1) (by decide +kernel) rfl rfl rfl rfl ?_
      refine xe_alr (ins := .aload_n 0) (len := 1) (i := 0) (by decide +kernel) rfl rfl rfl rfl rfl ?_
      obtain ⟨v113, e114, h⟩ := xbnd h
      refine xs_gr (i := 439) (c := 15) (k := 29) (by decide +kernel) (by decide) (by decide +kernel) e114 rfl ?_
      obtain ⟨v115, e116, h⟩ := xbnd h
      refine xs_gr (i := 421) (c := 14) (k := 3) (by decide +kernel) (by decide) (by decide +kernel) e116 rfl ?_
      refine xe_ldn (ins := .iload 4) (len := 2) (by decide +kernel) rfl rfl rfl rfl ?_
      obtain ⟨v117, e118, h⟩ := xbnd h
      refine xs_iald rfl (by decide +kernel) hx4 e118 rfl ?_
      refine xe_ior (by decide +kernel) rfl ?_
      refine xe_isr (ins := .istore_n 2) (len := 1) (i := 2) (by decide +kernel) rfl rfl rfl (by decide) (xk_k (show ¬ (3 : Nat) = 2 by decide) (Or.inl (show ¬ (3 + 1 : Nat) = 2 by decide)) (xk_k (show ¬ (0 : Nat) = 2 by decide) (Or.inl (show ¬ (0 + 1 : Nat) = 2 by decide)) (xk_k (show ¬ (1 : Nat) = 2 by decide) (Or.inr (xI_cat _)) (xk_d rfl (xk_k (show ¬ (4 : Nat) = 2 by decide) (Or.inl (show ¬ (4 + 1 : Nat) = 2 by decide)) xk_n))))) rfl ?_
      refine xW_lv rfl (l := [(0, xR_ (x0)), (1, xI (x1)), (2, xI (xor_ (x2) (v117))), (3, xI (xor_ (x3) (xshl (1) (x4)))), (4, xI (x4))]) (xsb_of ⟨rfl, rfl, rfl, rfl, rfl, trivial⟩ (show [2, 3, 0, 1, 4].Nodup by decide)) ?_
      exact k292_56  hr7 hx1 (xin_of _) (xin_of _) hx4 h
    · rw [if_neg c112] at h
      refine xe_goto (off := 23) (nx := 56) (by decide +kernel) (by decide) ?_
      refine xW_lv rfl (l := [(0, xR_ (x0)), (1, xI (x1)), (2, xI (x2)), (3, xI (x3)), (4, xI (x4))]) (xsb_of ⟨rfl, rfl, rfl, rfl, rfl, trivial⟩ (show [0, 1, 2, 3, 4].Nodup by decide)) ?_
      exact k292_56  hr7 hx1 hx2 hx3 hx4 h
def f292_7   (f : Nat) : Nat → Nat → Int → Int → Int → Int → xj_M → Option (Int × xj_M)
  | 0, _, _, _, _, _, _ => none
  | n + 1, x0, x1, x2, x3, x4, M => f292_7b   (f292_7   f n) f x0 x1 x2 x3 x4 M
theorem k292_7 {d f : Nat}     : ∀ {n : Nat} {x0 : Nat} {x1 : Int} {x2 : Int} {x3 : Int} {x4 : Int} {M : xj_M} {R : Int × xj_M}, xin x1 → xin x2 → xin x3 → xin x4 → f292_7   f n x0 x1 x2 x3 x4 M = some R → xW (d + 0) (none, d + 0, none) xr_292 (7, [(0, xR_ x0), (1, xI x1), (2, xI x2), (3, xI x3), (4, xI x4)], [], M) (xQi R) := by
  intro n
  induction n with
  | zero => intros; rename_i h; cases h
  | succ n ih => intros; rename_i h; exact k292_7b   ih (by assumption) (by assumption) (by assumption) (by assumption) h
def f292  (f : Nat) (a0 : Nat) (a1 : Int) (M : xj_M) : Option (Int × xj_M) := f292_7   f f (a0) (a1) (0) (0) (0) M
theorem k292 {d f : Nat}   {a0 : Nat} {a1 : Int} {M : xj_M} {R : Int × xj_M} (ha1 : xin a1) (h : f292  f a0 a1 M = some R) : xT (d + 1) 292 [xR_ a0, xI a1] M (xQi R) := by
  refine xT_m xr_292_e (X := (none, d + 0, none)) rfl (xa_1 (xR_cat _) (xa_1 (xI_cat _) xa_n)) (by decide) ?_
  unfold f292 at h
  refine xe_iconst (n := 0) (by decide +kernel) rfl ?_
  refine xe_isr (ins := .istore_n 2) (len := 1) (i := 2) (by decide +kernel) rfl rfl rfl (by decide) (xk_k (show ¬ (0 : Nat) = 2 by decide) (Or.inl (show ¬ (0 + 1 : Nat) = 2 by decide)) (xk_k (show ¬ (1 : Nat) = 2 by decide) (Or.inr (xI_cat _)) xk_n)) rfl ?_
  refine xe_iconst (n := 0) (by decide +kernel) rfl ?_
  refine xe_isr (ins := .istore_n 3) (len := 1) (i := 3) (by decide +kernel) rfl rfl rfl (by decide) (xk_k (show ¬ (2 : Nat) = 3 by decide) (Or.inr (xI_cat _)) (xk_k (show ¬ (0 : Nat) = 3 by decide) (Or.inl (show ¬ (0 + 1 : Nat) = 3 by decide)) (xk_k (show ¬ (1 : Nat) = 3 by decide) (Or.inl (show ¬ (1 + 1 : Nat) = 3 by decide)) xk_n))) rfl ?_
  refine xe_iconst (n := 0) (by decide +kernel) rfl ?_
  refine xe_isr (ins := .istore 4) (len := 2) (i := 4) (by decide +kernel) rfl rfl rfl (by decide) (xk_k (show ¬ (3 : Nat) = 4 by decide) (Or.inr (xI_cat _)) (xk_k (show ¬ (2 : Nat) = 4 by decide) (Or.inl (show ¬ (2 + 1 : Nat) = 4 by decide)) (xk_k (show ¬ (0 : Nat) = 4 by decide) (Or.inl (show ¬ (0 + 1 : Nat) = 4 by decide)) (xk_k (show ¬ (1 : Nat) = 4 by decide) (Or.inl (show ¬ (1 + 1 : Nat) = 4 by decide)) xk_n)))) rfl ?_
  refine xW_lv rfl (l := [(0, xR_ (a0)), (1, xI (a1)), (2, xI (0)), (3, xI (0)), (4, xI (0))]) (xsb_of ⟨rfl, rfl, rfl, rfl, rfl, trivial⟩ (show [4, 3, 2, 0, 1].Nodup by decide)) ?_
  exact k292_7   ha1 (show xin (0) by decide) (show xin (0) by decide) (show xin (0) by decide) h
-- ChangeHouseModel.keep
def xr_294 : xj_mR := (15, yX15_keep, cX15_keep, 3, (Option.some Jvm.ClassFile.FieldType.int), 1, false, (11, 39), (1, 12))
set_option maxRecDepth 20000 in
theorem xr_294_e : xj_row 294 = some xr_294 := rfl
def f294_25b  (r25 : Nat → Int → Int → xj_M → Option (Int × xj_M)) (f : Nat) (x0 : Nat) (x1 : Int) (x2 : Int) (M : xj_M) : Option (Int × xj_M) := (if (x1) ≤ (x2) then ((xq_gi 15 72 (x0) M).bind fun v102 => ((xq_pi 15 72 (x0) (xwr ((v102) + (x1))) M).bind fun M104 => ((xq_gi 15 71 (x0) M104).bind fun v106 => ((xq_pi 15 71 (x0) (xwr ((v106) + (1))) M104).bind fun M108 => ((xq_gi 15 71 (x0) M108).bind fun v110 => (some (xwr ((v110) - (1)), M108))))))) else ((xq_gr 15 67 (x0) M).bind fun v112 => ((xq_gi 15 72 (x0) M).bind fun v114 => ((xq_gr 15 68 (x0) M).bind fun v116 => ((xq_ab (v116) (x2) M).bind fun v118 => ((xq_sb (v112) (xwr ((v114) + (x2))) (v118) M).bind fun M120 => r25 (x0) (x1) (xwr ((x2) + (1))) M120))))))
theorem k294_25b {d f : Nat}  {r25 : Nat → Int → Int → xj_M → Option (Int × xj_M)}  (hr25 : ∀ {x0 : Nat} {x1 : Int} {x2 : Int} {M : xj_M} {R : Int × xj_M}, xin x1 → xin x2 → r25 x0 x1 x2 M = some R → xW (d + 0) (none, d + 0, none) xr_294 (25, [(0, xR_ x0), (1, xI x1), (2, xI x2)], [], M) (xQi R)) {x0 : Nat} {x1 : Int} {x2 : Int} {M : xj_M} {R : Int × xj_M} (hx1 : xin x1) (hx2 : xin x2) (h : f294_25b  r25 f x0 x1 x2 M = some R) : xW (d + 0) (none, d + 0, none) xr_294 (25, [(0, xR_ x0), (1, xI x1), (2, xI x2)], [], M) (xQi R) := by
  unfold f294_25b at h
  refine xe_ldn (ins := .iload_n 2) (len := 1) (by decide +kernel) rfl rfl rfl rfl ?_
  refine xe_ldn (ins := .iload_n 1) (len := 1) (by decide +kernel) rfl rfl rfl rfl ?_
  refine xe_icmpge (off := 26) (t := 53) (by decide +kernel) (by decide) rfl hx2 hx1 (fun c101 => ?_) (fun c101 => ?_)
  · rw [if_pos c101] at h
    refine xe_alr (ins := .aload_n 0) (len := 1) (i := 0) (by decide +kernel) rfl rfl rfl rfl rfl ?_
    refine xe_dupr (by decide +kernel) rfl ?_
    obtain ⟨v102, e103, h⟩ := xbnd h
    refine xs_gi (i := 636) (c := 15) (k := 72) (by decide +kernel) (by decide) (by decide +kernel) e103 rfl ?_
    refine xe_ldn (ins := .iload_n 1) (len := 1) (by decide +kernel) rfl rfl rfl rfl ?_
    refine xe_iadd (by decide +kernel) rfl ?_
    obtain ⟨M104, e105, h⟩ := xbnd h
    refine xs_p (i := 636) (c := 15) (k := 72) (by decide +kernel) (by decide +kernel) (by decide +kernel) e105 rfl ?_
    refine xe_alr (ins := .aload_n 0) (len := 1) (i := 0) (by decide +kernel) rfl rfl rfl rfl rfl ?_
    refine xe_dupr (by decide +kernel) rfl ?_
    obtain ⟨v106, e107, h⟩ := xbnd h
    refine xs_gi (i := 633) (c := 15) (k := 71) (by decide +kernel) (by decide) (by decide +kernel) e107 rfl ?_
    refine xe_iconst (n := 1) (by decide +kernel) rfl ?_
    refine xe_iadd (by decide +kernel) rfl ?_
    obtain ⟨M108, e109, h⟩ := xbnd h
    refine xs_p (i := 633) (c := 15) (k := 71) (by decide +kernel) (by decide +kernel) (by decide +kernel) e109 rfl ?_
    refine xe_alr (ins := .aload_n 0) (len := 1) (i := 0) (by decide +kernel) rfl rfl rfl rfl rfl ?_
    obtain ⟨v110, e111, h⟩ := xbnd h
    refine xs_gi (i := 633) (c := 15) (k := 71) (by decide +kernel) (by decide) (by decide +kernel) e111 rfl ?_
    refine xe_iconst (n := 1) (by decide +kernel) rfl ?_
    refine xe_isub (by decide +kernel) rfl ?_
    cases h
    exact xe_ret_i (ty := .int) (by decide +kernel) rfl rfl ⟨rfl, rfl, (xin_wr _)⟩
  · rw [if_neg c101] at h
    refine xe_alr (ins := .aload_n 0) (len := 1) (i := 0) (by decide +kernel) rfl rfl rfl rfl rfl ?_
    obtain ⟨v112, e113, h⟩ := xbnd h
    refine xs_gr (i := 642) (c := 15) (k := 67) (by decide +kernel) (by decide) (by decide +kernel) e113 rfl ?_
    refine xe_alr (ins := .aload_n 0) (len := 1) (i := 0) (by decide +kernel) rfl rfl rfl rfl rfl ?_
    obtain ⟨v114, e115, h⟩ := xbnd h
    refine xs_gi (i := 636) (c := 15) (k := 72) (by decide +kernel) (by decide) (by decide +kernel) e115 rfl ?_
    refine xe_ldn (ins := .iload_n 2) (len := 1) (by decide +kernel) rfl rfl rfl rfl ?_
    refine xe_iadd (by decide +kernel) rfl ?_
    refine xe_alr (ins := .aload_n 0) (len := 1) (i := 0) (by decide +kernel) rfl rfl rfl rfl rfl ?_
    obtain ⟨v116, e117, h⟩ := xbnd h
    refine xs_gr (i := 645) (c := 15) (k := 68) (by decide +kernel) (by decide) (by decide +kernel) e117 rfl ?_
    refine xe_ldn (ins := .iload_n 2) (len := 1) (by decide +kernel) rfl rfl rfl rfl ?_
    obtain ⟨v118, e119, h⟩ := xbnd h
    refine xs_bald (by decide +kernel) hx2 e119 rfl ?_
    obtain ⟨M120, e121, h⟩ := xbnd h
    refine xs_bast (by decide +kernel) (xin_wr _) e121 rfl ?_
    refine xe_iincr (i := 2) (n := 1) (by decide +kernel) (by decide) rfl (xk_k (show ¬ (0 : Nat) = 2 by decide) (Or.inl (show ¬ (0 + 1 : Nat) = 2 by decide)) (xk_k (show ¬ (1 : Nat) = 2 by decide) (Or.inr (xI_cat _)) (xk_d rfl xk_n))) rfl ?_
    refine xe_goto (off := -25) (nx := 25) (by decide +kernel) (by decide) ?_
    refine xW_lv rfl (l := [(0, xR_ (x0)), (1, xI (x1)), (2, xI (xwr ((x2) + (1))))]) (xsb_of ⟨rfl, rfl, rfl, trivial⟩ (show [2, 0, 1].Nodup by decide)) ?_
    exact hr25 hx1 (xin_wr _) h
def f294_25   (f : Nat) : Nat → Nat → Int → Int → xj_M → Option (Int × xj_M)
  | 0, _, _, _, _ => none
  | n + 1, x0, x1, x2, M => f294_25b   (f294_25   f n) f x0 x1 x2 M
theorem k294_25 {d f : Nat}     : ∀ {n : Nat} {x0 : Nat} {x1 : Int} {x2 : Int} {M : xj_M} {R : Int × xj_M}, xin x1 → xin x2 → f294_25   f n x0 x1 x2 M = some R → xW (d + 0) (none, d + 0, none) xr_294 (25, [(0, xR_ x0), (1, xI x1), (2, xI x2)], [], M) (xQi R) := by
  intro n
  induction n with
  | zero => intros; rename_i h; cases h
  | succ n ih => intros; rename_i h; exact k294_25b   ih (by assumption) (by assumption) h
def f294  (f : Nat) (a0 : Nat) (a1 : Int) (M : xj_M) : Option (Int × xj_M) := ((xq_gr 15 69 (a0) M).bind fun v122 => ((xq_gi 15 71 (a0) M).bind fun v124 => ((xq_gi 15 72 (a0) M).bind fun v126 => ((xq_si (v122) (v124) (v126) M).bind fun M128 => ((xq_gr 15 70 (a0) M128).bind fun v130 => ((xq_gi 15 71 (a0) M128).bind fun v132 => ((xq_si (v130) (v132) (a1) M128).bind fun M134 => f294_25   f f (a0) (a1) (0) M134)))))))
theorem k294 {d f : Nat}   {a0 : Nat} {a1 : Int} {M : xj_M} {R : Int × xj_M} (ha1 : xin a1) (h : f294  f a0 a1 M = some R) : xT (d + 1) 294 [xR_ a0, xI a1] M (xQi R) := by
  refine xT_m xr_294_e (X := (none, d + 0, none)) rfl (xa_1 (xR_cat _) (xa_1 (xI_cat _) xa_n)) (by decide) ?_
  unfold f294 at h
  refine xe_alr (ins := .aload_n 0) (len := 1) (i := 0) (by decide +kernel) rfl rfl rfl rfl rfl ?_
  obtain ⟨v122, e123, h⟩ := xbnd h
  refine xs_gr (i := 630) (c := 15) (k := 69) (by decide +kernel) (by decide) (by decide +kernel) e123 rfl ?_
  refine xe_alr (ins := .aload_n 0) (len := 1) (i := 0) (by decide +kernel) rfl rfl rfl rfl rfl ?_
  obtain ⟨v124, e125, h⟩ := xbnd h
  refine xs_gi (i := 633) (c := 15) (k := 71) (by decide +kernel) (by decide) (by decide +kernel) e125 rfl ?_
  refine xe_alr (ins := .aload_n 0) (len := 1) (i := 0) (by decide +kernel) rfl rfl rfl rfl rfl ?_
  obtain ⟨v126, e127, h⟩ := xbnd h
  refine xs_gi (i := 636) (c := 15) (k := 72) (by decide +kernel) (by decide) (by decide +kernel) e127 rfl ?_
  obtain ⟨M128, e129, h⟩ := xbnd h
  refine xs_iast (by decide +kernel) (xq_gi_in e125) e129 rfl ?_
  refine xe_alr (ins := .aload_n 0) (len := 1) (i := 0) (by decide +kernel) rfl rfl rfl rfl rfl ?_
  obtain ⟨v130, e131, h⟩ := xbnd h
  refine xs_gr (i := 639) (c := 15) (k := 70) (by decide +kernel) (by decide) (by decide +kernel) e131 rfl ?_
  refine xe_alr (ins := .aload_n 0) (len := 1) (i := 0) (by decide +kernel) rfl rfl rfl rfl rfl ?_
  obtain ⟨v132, e133, h⟩ := xbnd h
  refine xs_gi (i := 633) (c := 15) (k := 71) (by decide +kernel) (by decide) (by decide +kernel) e133 rfl ?_
  refine xe_ldn (ins := .iload_n 1) (len := 1) (by decide +kernel) rfl rfl rfl rfl ?_
  obtain ⟨M134, e135, h⟩ := xbnd h
  refine xs_iast (by decide +kernel) (xq_gi_in e133) e135 rfl ?_
  refine xe_iconst (n := 0) (by decide +kernel) rfl ?_
  refine xe_isr (ins := .istore_n 2) (len := 1) (i := 2) (by decide +kernel) rfl rfl rfl (by decide) (xk_k (show ¬ (0 : Nat) = 2 by decide) (Or.inl (show ¬ (0 + 1 : Nat) = 2 by decide)) (xk_k (show ¬ (1 : Nat) = 2 by decide) (Or.inr (xI_cat _)) xk_n)) rfl ?_
  refine xW_lv rfl (l := [(0, xR_ (a0)), (1, xI (a1)), (2, xI (0))]) (xsb_of ⟨rfl, rfl, rfl, trivial⟩ (show [2, 0, 1].Nodup by decide)) ?_
  exact k294_25   ha1 (show xin (0) by decide) h
-- ChangeHouseModel.fillInputs
def xr_297 : xj_mR := (15, yX15_fillInputs, cX15_fillInputs, 4, (Option.none : Option Jvm.ClassFile.FieldType), 1, false, (9, 139), (1, 12))
set_option maxRecDepth 20000 in
theorem xr_297_e : xj_row 297 = some xr_297 := rfl
def f297_93  (r23 : Nat → Nat → Int → xj_M → Option (xj_M)) (f : Nat) (x0 : Nat) (x1 : Nat) (x2 : Int) (M : xj_M) : Option (xj_M) := r23 (x0) (x1) (xwr ((x2) + (1))) M
theorem k297_93 {d f : Nat}  {r23 : Nat → Nat → Int → xj_M → Option (xj_M)}  (hr23 : ∀ {x0 : Nat} {x1 : Nat} {x2 : Int} {M : xj_M} {R : xj_M}, xin x2 → r23 x0 x1 x2 M = some R → xW (d + 3) (none, d + 3, none) xr_297 (23, [(0, xR_ x0), (1, xR_ x1), (2, xI x2)], [], M) (xQv R)) {x0 : Nat} {x1 : Nat} {x2 : Int} {M : xj_M} {R : xj_M} (hx2 : xin x2) (h : f297_93  r23 f x0 x1 x2 M = some R) : xW (d + 3) (none, d + 3, none) xr_297 (93, [(0, xR_ x0), (1, xR_ x1), (2, xI x2)], [], M) (xQv R) := by
  unfold f297_93 at h
  refine xe_iincr (i := 2) (n := 1) (by decide +kernel) (by decide) rfl (xk_k (show ¬ (0 : Nat) = 2 by decide) (Or.inl (show ¬ (0 + 1 : Nat) = 2 by decide)) (xk_k (show ¬ (1 : Nat) = 2 by decide) (Or.inr (xR_cat _)) (xk_d rfl xk_n))) rfl ?_
  refine xe_goto (off := -73) (nx := 23) (by decide +kernel) (by decide) ?_
  refine xW_lv rfl (l := [(0, xR_ (x0)), (1, xR_ (x1)), (2, xI (xwr ((x2) + (1))))]) (xsb_of ⟨rfl, rfl, rfl, trivial⟩ (show [2, 0, 1].Nodup by decide)) ?_
  exact hr23 (xin_wr _) h
def f297_23b  (r23 : Nat → Nat → Int → xj_M → Option (xj_M)) (f : Nat) (x0 : Nat) (x1 : Nat) (x2 : Int) (M : xj_M) : Option (xj_M) := ((xq_gi 12 3 (x1) M).bind fun v101 => (if (v101) ≤ (x2) then (some M) else ((xq_gr 15 29 (x0) M).bind fun v104 => ((xq_gr 12 0 (x1) M).bind fun v106 => ((xq_al (v106) (x2) M).bind fun v108 => ((xq_is 14 (v104) M).bind fun _ => ((f205  f (v104) (v108) M).bind fun R112 => (if (R112.1) = (-1) then f297_93  r23 f (x0) (x1) (x2) R112.2 else ((xq_gr 15 29 (x0) R112.2).bind fun v115 => ((xq_gr 14 5 (v115) R112.2).bind fun v117 => ((xq_ab (v117) (R112.1) R112.2).bind fun v119 => (if (v119) = 0 then f297_93  r23 f (x0) (x1) (x2) R112.2 else ((xq_gr 15 29 (x0) R112.2).bind fun v122 => ((xq_gr 14 1 (v122) R112.2).bind fun v124 => ((xq_ai 3 (v124) (R112.1) R112.2).bind fun v126 => ((xq_gr 12 2 (x1) R112.2).bind fun v128 => ((xq_ai 3 (v128) (x2) R112.2).bind fun v130 => (if ¬ (v126) = (v130) then f297_93  r23 f (x0) (x1) (x2) R112.2 else ((xq_gr 12 1 (x1) R112.2).bind fun v133 => ((xq_is 15 (x0) R112.2).bind fun _ => ((f264  f (x0) (R112.1) (v133) (xwr ((4) * (x2))) (0) R112.2).bind fun M137 => f297_93  r23 f (x0) (x1) (x2) M137)))))))))))))))))))))
theorem k297_23b {d f : Nat}  {r23 : Nat → Nat → Int → xj_M → Option (xj_M)}  (hr23 : ∀ {x0 : Nat} {x1 : Nat} {x2 : Int} {M : xj_M} {R : xj_M}, xin x2 → r23 x0 x1 x2 M = some R → xW (d + 3) (none, d + 3, none) xr_297 (23, [(0, xR_ x0), (1, xR_ x1), (2, xI x2)], [], M) (xQv R)) {x0 : Nat} {x1 : Nat} {x2 : Int} {M : xj_M} {R : xj_M} (hx2 : xin x2) (h : f297_23b  r23 f x0 x1 x2 M = some R) : xW (d + 3) (none, d + 3, none) xr_297 (23, [(0, xR_ x0), (1, xR_ x1), (2, xI x2)], [], M) (xQv R) := by
  unfold f297_23b at h
  refine xe_ldn (ins := .iload_n 2) (len := 1) (by decide +kernel) rfl rfl rfl rfl ?_
  refine xe_alr (ins := .aload_n 1) (len := 1) (i := 1) (by decide +kernel) rfl rfl rfl rfl rfl ?_
  obtain ⟨v101, e102, h⟩ := xbnd h
  refine xs_gi (i := 690) (c := 12) (k := 3) (by decide +kernel) (by decide) (by decide +kernel) e102 rfl ?_
  refine xe_icmpge (off := 71) (t := 99) (by decide +kernel) (by decide) rfl hx2 (xq_gi_in e102) (fun c103 => ?_) (fun c103 => ?_)
  · rw [if_pos c103] at h
    cases h
    exact xe_ret_v (by decide +kernel) rfl ⟨rfl, rfl⟩
  · rw [if_neg c103] at h
    refine xe_alr (ins := .aload_n 0) (len := 1) (i := 0) (by decide +kernel) rfl rfl rfl rfl rfl ?_
    obtain ⟨v104, e105, h⟩ := xbnd h
    refine xs_gr (i := 439) (c := 15) (k := 29) (by decide +kernel) (by decide) (by decide +kernel) e105 rfl ?_
    refine xe_alr (ins := .aload_n 1) (len := 1) (i := 1) (by decide +kernel) rfl rfl rfl rfl rfl ?_
    obtain ⟨v106, e107, h⟩ := xbnd h
    refine xs_gr (i := 694) (c := 12) (k := 0) (by decide +kernel) (by decide) (by decide +kernel) e107 rfl ?_
    refine xe_ldn (ins := .iload_n 2) (len := 1) (by decide +kernel) rfl rfl rfl rfl ?_
    obtain ⟨v108, e109, h⟩ := xbnd h
    refine xs_lald (by decide +kernel) hx2 e109 rfl ?_
    obtain ⟨_, e111, h⟩ := xbnd h
    obtain ⟨R112, e110, h⟩ := xbnd h
    refine xs_cv (i := 213) (j := 205) (ar := [xZ (v108)]) (rest := []) (r2 := xr_205) (by decide +kernel) (by decide +kernel) (by decide +kernel) xr_205_e rfl (by decide) (by decide) e111 ?_
    refine xc_i (k205 (d := d + 2)  (xq_al_in e109) e110) rfl (fun hi113 => ?_)
    refine xe_isr (ins := .istore_n 3) (len := 1) (i := 3) (by decide +kernel) rfl rfl rfl (by decide) (xk_k (show ¬ (0 : Nat) = 3 by decide) (Or.inl (show ¬ (0 + 1 : Nat) = 3 by decide)) (xk_k (show ¬ (1 : Nat) = 3 by decide) (Or.inl (show ¬ (1 + 1 : Nat) = 3 by decide)) (xk_k (show ¬ (2 : Nat) = 3 by decide) (Or.inr (xI_cat _)) xk_n))) rfl ?_
    refine xe_ldn (ins := .iload_n 3) (len := 1) (by decide +kernel) rfl rfl rfl rfl ?_
    refine xe_iconst (n := -1) (by decide +kernel) rfl ?_
    refine xe_icmpeq (off := 46) (t := 93) (by decide +kernel) (by decide) rfl hi113 (show xin (-1) by decide) (fun c114 => ?_) (fun c114 => ?_)
    · rw [if_pos c114] at h
      refine xW_lv rfl (l := [(0, xR_ (x0)), (1, xR_ (x1)), (2, xI (x2))]) (xsb_of ⟨rfl, rfl, rfl, trivial⟩ (show [3, 0, 1, 2].Nodup by decide)) ?_
      exact k297_93  hr23 hx2 h
    · rw [if_neg c114] at h
      refine xe_alr (ins := .aload_n 0) (len := 1) (i := 0) (by decide +kernel) rfl rfl rfl rfl rfl ?_
      obtain ⟨v115, e116, h⟩ := xbnd h
      refine xs_gr (i := 439) (c := 15) (k := 29) (by decide +kernel) (by decide) (by decide +kernel) e116 rfl ?_
      obtain ⟨v117, e118, h⟩ := xbnd h
      refine xs_gr (i := 187) (c := 14) (k := 5) (by decide +kernel) (by decide) (by decide +kernel) e118 rfl ?_
      refine xe_ldn (ins := .iload_n 3) (len := 1) (by decide +kernel) rfl rfl rfl rfl ?_
      obtain ⟨v119, e120, h⟩ := xbnd h
      refine xs_bald (by decide +kernel) hi113 e120 rfl ?_
      refine xe_ifeq (off := 34) (t := 93) (by decide +kernel) (by decide) rfl (xq_ab_in e120) (fun c121 => ?_) (fun c121 => ?_)
      · rw [if_pos c121] at h
        refine xW_lv rfl (l := [(0, xR_ (x0)), (1, xR_ (x1)), (2, xI (x2))]) (xsb_of ⟨rfl, rfl, rfl, trivial⟩ (show [3, 0, 1, 2].Nodup by decide)) ?_
        exact k297_93  hr23 hx2 h
      · rw [if_neg c121] at h
        refine xe_alr (ins := .aload_n 0) (len := 1) (i := 0) (by decide +kernel) rfl rfl rfl rfl rfl ?_
        obtain ⟨v122, e123, h⟩ := xbnd h
        refine xs_gr (i := 439) (c := 15) (k := 29) (by decide +kernel) (by decide) (by decide +kernel) e123 rfl ?_
        obtain ⟨v124, e125, h⟩ := xbnd h
        refine xs_gr (i := 180) (c := 14) (k := 1) (by decide +kernel) (by decide) (by decide +kernel) e125 rfl ?_
        refine xe_ldn (ins := .iload_n 3) (len := 1) (by decide +kernel) rfl rfl rfl rfl ?_
        obtain ⟨v126, e127, h⟩ := xbnd h
        refine xs_iald rfl (by decide +kernel) hi113 e127 rfl ?_
        refine xe_alr (ins := .aload_n 1) (len := 1) (i := 1) (by decide +kernel) rfl rfl rfl rfl rfl ?_
        obtain ⟨v128, e129, h⟩ := xbnd h
        refine xs_gr (i := 695) (c := 12) (k := 2) (by decide +kernel) (by decide) (by decide +kernel) e129 rfl ?_
        refine xe_ldn (ins := .iload_n 2) (len := 1) (by decide +kernel) rfl rfl rfl rfl ?_
        obtain ⟨v130, e131, h⟩ := xbnd h
        refine xs_iald rfl (by decide +kernel) hx2 e131 rfl ?_
        refine xe_icmpne (off := 16) (t := 93) (by decide +kernel) (by decide) rfl (xq_ai_in e127) (xq_ai_in e131) (fun c132 => ?_) (fun c132 => ?_)
        · rw [if_pos c132] at h
          refine xW_lv rfl (l := [(0, xR_ (x0)), (1, xR_ (x1)), (2, xI (x2))]) (xsb_of ⟨rfl, rfl, rfl, trivial⟩ (show [3, 0, 1, 2].Nodup by decide)) ?_
          exact k297_93  hr23 hx2 h
        · rw [if_neg c132] at h
          refine xe_alr (ins := .aload_n 0) (len := 1) (i := 0) (by decide +kernel) rfl rfl rfl rfl rfl ?_
          refine xe_ldn (ins := .iload_n 3) (len := 1) (by decide +kernel) rfl rfl rfl rfl ?_
          refine xe_alr (ins := .aload_n 1) (len := 1) (i := 1) (by decide +kernel) rfl rfl rfl rfl rfl ?_
          obtain ⟨v133, e134, h⟩ := xbnd h
          refine xs_gr (i := 696) (c := 12) (k := 1) (by decide +kernel) (by decide) (by decide +kernel) e134 rfl ?_
          refine xe_iconst (n := 4) (by decide +kernel) rfl ?_
          refine xe_ldn (ins := .iload_n 2) (len := 1) (by decide +kernel) rfl rfl rfl rfl ?_
          refine xe_imul (by decide +kernel) rfl ?_
          refine xe_iconst (n := 0) (by decide +kernel) rfl ?_
          obtain ⟨_, e136, h⟩ := xbnd h
          obtain ⟨M137, e135, h⟩ := xbnd h
          refine xs_cv (i := 626) (j := 264) (ar := [xI (0), xI (xwr ((4) * (x2))), xR_ (v133), xI (R112.1)]) (rest := []) (r2 := xr_264) (by decide +kernel) (by decide +kernel) (by decide +kernel) xr_264_e rfl (by decide) (by decide) e136 ?_
          refine xc_v (k264 (d := d + 0)  hi113 (xin_wr _) (show xin (0) by decide) e135) rfl ?_
          refine xW_lv rfl (l := [(0, xR_ (x0)), (1, xR_ (x1)), (2, xI (x2))]) (xsb_of ⟨rfl, rfl, rfl, trivial⟩ (show [3, 0, 1, 2].Nodup by decide)) ?_
          exact k297_93  hr23 hx2 h
def f297_23   (f : Nat) : Nat → Nat → Nat → Int → xj_M → Option (xj_M)
  | 0, _, _, _, _ => none
  | n + 1, x0, x1, x2, M => f297_23b   (f297_23   f n) f x0 x1 x2 M
theorem k297_23 {d f : Nat}     : ∀ {n : Nat} {x0 : Nat} {x1 : Nat} {x2 : Int} {M : xj_M} {R : xj_M}, xin x2 → f297_23   f n x0 x1 x2 M = some R → xW (d + 3) (none, d + 3, none) xr_297 (23, [(0, xR_ x0), (1, xR_ x1), (2, xI x2)], [], M) (xQv R) := by
  intro n
  induction n with
  | zero => intros; rename_i h; cases h
  | succ n ih => intros; rename_i h; exact k297_23b   ih (by assumption) h
def f297_2b  (r2 : Nat → Nat → Int → xj_M → Option (xj_M)) (f : Nat) (x0 : Nat) (x1 : Nat) (x2 : Int) (M : xj_M) : Option (xj_M) := (if (16) ≤ (x2) then f297_23   f f (x0) (x1) (0) M else ((xq_gr 15 33 (x0) M).bind fun v140 => ((xq_si (v140) (x2) (0) M).bind fun M142 => r2 (x0) (x1) (xwr ((x2) + (1))) M142)))
theorem k297_2b {d f : Nat}  {r2 : Nat → Nat → Int → xj_M → Option (xj_M)}  (hr2 : ∀ {x0 : Nat} {x1 : Nat} {x2 : Int} {M : xj_M} {R : xj_M}, xin x2 → r2 x0 x1 x2 M = some R → xW (d + 3) (none, d + 3, none) xr_297 (2, [(0, xR_ x0), (1, xR_ x1), (2, xI x2)], [], M) (xQv R)) {x0 : Nat} {x1 : Nat} {x2 : Int} {M : xj_M} {R : xj_M} (hx2 : xin x2) (h : f297_2b  r2 f x0 x1 x2 M = some R) : xW (d + 3) (none, d + 3, none) xr_297 (2, [(0, xR_ x0), (1, xR_ x1), (2, xI x2)], [], M) (xQv R) := by
  unfold f297_2b at h
  refine xe_ldn (ins := .iload_n 2) (len := 1) (by decide +kernel) rfl rfl rfl rfl ?_
  refine xe_bipush (n := 16) (by decide +kernel) (by decide) rfl ?_
  refine xe_icmpge (off := 16) (t := 21) (by decide +kernel) (by decide) rfl hx2 (show xin (16) by decide) (fun c139 => ?_) (fun c139 => ?_)
  · rw [if_pos c139] at h
    refine xe_iconst (n := 0) (by decide +kernel) rfl ?_
    refine xe_isr (ins := .istore_n 2) (len := 1) (i := 2) (by decide +kernel) rfl rfl rfl (by decide) (xk_k (show ¬ (0 : Nat) = 2 by decide) (Or.inl (show ¬ (0 + 1 : Nat) = 2 by decide)) (xk_k (show ¬ (1 : Nat) = 2 by decide) (Or.inr (xR_cat _)) (xk_d rfl xk_n))) rfl ?_
    refine xW_lv rfl (l := [(0, xR_ (x0)), (1, xR_ (x1)), (2, xI (0))]) (xsb_of ⟨rfl, rfl, rfl, trivial⟩ (show [2, 0, 1].Nodup by decide)) ?_
    exact k297_23   (show xin (0) by decide) h
  · rw [if_neg c139] at h
    refine xe_alr (ins := .aload_n 0) (len := 1) (i := 0) (by decide +kernel) rfl rfl rfl rfl rfl ?_
    obtain ⟨v140, e141, h⟩ := xbnd h
    refine xs_gr (i := 430) (c := 15) (k := 33) (by decide +kernel) (by decide) (by decide +kernel) e141 rfl ?_
    refine xe_ldn (ins := .iload_n 2) (len := 1) (by decide +kernel) rfl rfl rfl rfl ?_
    refine xe_iconst (n := 0) (by decide +kernel) rfl ?_
    obtain ⟨M142, e143, h⟩ := xbnd h
    refine xs_iast (by decide +kernel) hx2 e143 rfl ?_
    refine xe_iincr (i := 2) (n := 1) (by decide +kernel) (by decide) rfl (xk_k (show ¬ (0 : Nat) = 2 by decide) (Or.inl (show ¬ (0 + 1 : Nat) = 2 by decide)) (xk_k (show ¬ (1 : Nat) = 2 by decide) (Or.inr (xR_cat _)) (xk_d rfl xk_n))) rfl ?_
    refine xe_goto (off := -16) (nx := 2) (by decide +kernel) (by decide) ?_
    refine xW_lv rfl (l := [(0, xR_ (x0)), (1, xR_ (x1)), (2, xI (xwr ((x2) + (1))))]) (xsb_of ⟨rfl, rfl, rfl, trivial⟩ (show [2, 0, 1].Nodup by decide)) ?_
    exact hr2 (xin_wr _) h
def f297_2   (f : Nat) : Nat → Nat → Nat → Int → xj_M → Option (xj_M)
  | 0, _, _, _, _ => none
  | n + 1, x0, x1, x2, M => f297_2b   (f297_2   f n) f x0 x1 x2 M
theorem k297_2 {d f : Nat}     : ∀ {n : Nat} {x0 : Nat} {x1 : Nat} {x2 : Int} {M : xj_M} {R : xj_M}, xin x2 → f297_2   f n x0 x1 x2 M = some R → xW (d + 3) (none, d + 3, none) xr_297 (2, [(0, xR_ x0), (1, xR_ x1), (2, xI x2)], [], M) (xQv R) := by
  intro n
  induction n with
  | zero => intros; rename_i h; cases h
  | succ n ih => intros; rename_i h; exact k297_2b   ih (by assumption) h
def f297  (f : Nat) (a0 : Nat) (a1 : Nat) (M : xj_M) : Option (xj_M) := f297_2   f f (a0) (a1) (0) M
theorem k297 {d f : Nat}   {a0 : Nat} {a1 : Nat} {M : xj_M} {R : xj_M}  (h : f297  f a0 a1 M = some R) : xT (d + 4) 297 [xR_ a0, xR_ a1] M (xQv R) := by
  refine xT_m xr_297_e (X := (none, d + 3, none)) rfl (xa_1 (xR_cat _) (xa_1 (xR_cat _) xa_n)) (by decide) ?_
  unfold f297 at h
  refine xe_iconst (n := 0) (by decide +kernel) rfl ?_
  refine xe_isr (ins := .istore_n 2) (len := 1) (i := 2) (by decide +kernel) rfl rfl rfl (by decide) (xk_k (show ¬ (0 : Nat) = 2 by decide) (Or.inl (show ¬ (0 + 1 : Nat) = 2 by decide)) (xk_k (show ¬ (1 : Nat) = 2 by decide) (Or.inr (xR_cat _)) xk_n)) rfl ?_
  refine xW_lv rfl (l := [(0, xR_ (a0)), (1, xR_ (a1)), (2, xI (0))]) (xsb_of ⟨rfl, rfl, rfl, trivial⟩ (show [2, 0, 1].Nodup by decide)) ?_
  exact k297_2   (show xin (0) by decide) h
