/-! Mirrors (written by mk_mir.py) -/
-- ChangeHouse$Works.isAboveFloor
def xr_158 : xj_mR := (10, yX10_isAboveFloor, cX10_isAboveFloor, 3, (Option.some Jvm.ClassFile.FieldType.boolean), 1, false, (7, 6), (1, 5))
set_option maxRecDepth 20000 in
theorem xr_158_e : xj_row 158 = some xr_158 := rfl
def f158_44   (f : Nat) (y0 : Int) (M : xj_M) : Option (Int × xj_M) := (if (y0) = 0 ∨ (y0) = 1 then some (y0, M) else none)
theorem k158_44 {d f : Nat}     {y0 : Int} {M : xj_M} {R : Int × xj_M} (hy0 : xin y0) (h : f158_44   f y0 M = some R) : xW (d + 0) (none, d + 0, none) xr_158 (44, [], [xI y0], M) (xQi R) := by
  unfold f158_44 at h
  by_cases c101 : (y0) = 0 ∨ (y0) = 1
  · rw [if_pos c101] at h; cases h; exact xe_ret_i (ty := .boolean) (by decide +kernel) rfl (xbool c101) ⟨rfl, rfl, hy0⟩
  · rw [if_neg c101] at h; cases h
def f158_2b  (r2 : Nat → Int → Int → xj_M → Option (Int × xj_M)) (f : Nat) (x0 : Nat) (x1 : Int) (x2 : Int) (M : xj_M) : Option (Int × xj_M) := (if (x1) ≤ (x2) then (some (0, M)) else ((xq_gr 10 9 (x0) M).bind fun v103 => ((xq_al (v103) (x2) M).bind fun v105 => ((xq_gr 10 10 (x0) M).bind fun v107 => ((xq_al (v107) (x2) M).bind fun v109 => (if (v105) = (v109) then r2 (x0) (x1) (xwr ((x2) + (1))) M else ((xq_gr 10 9 (x0) M).bind fun v112 => ((xq_al (v112) (x2) M).bind fun v114 => ((xq_gr 10 10 (x0) M).bind fun v116 => ((xq_al (v116) (x2) M).bind fun v118 => (if (v114) ≤ (v118) then f158_44   f (0) M else f158_44   f (1) M)))))))))))
theorem k158_2b {d f : Nat}  {r2 : Nat → Int → Int → xj_M → Option (Int × xj_M)}  (hr2 : ∀ {x0 : Nat} {x1 : Int} {x2 : Int} {M : xj_M} {R : Int × xj_M}, xin x1 → xin x2 → r2 x0 x1 x2 M = some R → xW (d + 0) (none, d + 0, none) xr_158 (2, [(0, xR_ x0), (1, xI x1), (2, xI x2)], [], M) (xQi R)) {x0 : Nat} {x1 : Int} {x2 : Int} {M : xj_M} {R : Int × xj_M} (hx1 : xin x1) (hx2 : xin x2) (h : f158_2b  r2 f x0 x1 x2 M = some R) : xW (d + 0) (none, d + 0, none) xr_158 (2, [(0, xR_ x0), (1, xI x1), (2, xI x2)], [], M) (xQi R) := by
  unfold f158_2b at h
  refine xe_ldn (ins := .iload_n 2) (len := 1) (by decide +kernel) rfl rfl rfl rfl ?_
  refine xe_ldn (ins := .iload_n 1) (len := 1) (by decide +kernel) rfl rfl rfl rfl ?_
  refine xe_icmpge (off := 47) (t := 51) (by decide +kernel) (by decide) rfl hx2 hx1 (fun c102 => ?_) (fun c102 => ?_)
  · rw [if_pos c102] at h
    refine xe_iconst (n := 0) (by decide +kernel) rfl ?_
    cases h
    exact xe_ret_i (ty := .boolean) (by decide +kernel) rfl (by decide) ⟨rfl, rfl, (show xin (0) by decide)⟩
  · rw [if_neg c102] at h
    refine xe_alr (ins := .aload_n 0) (len := 1) (i := 0) (by decide +kernel) rfl rfl rfl rfl rfl ?_
    obtain ⟨v103, e104, h⟩ := xbnd h
    refine xs_gr (i := 40) (c := 10) (k := 9) (by decide +kernel) (by decide) (by decide +kernel) e104 rfl ?_
    refine xe_ldn (ins := .iload_n 2) (len := 1) (by decide +kernel) rfl rfl rfl rfl ?_
    obtain ⟨v105, e106, h⟩ := xbnd h
    refine xs_lald (by decide +kernel) hx2 e106 rfl ?_
    refine xe_alr (ins := .aload_n 0) (len := 1) (i := 0) (by decide +kernel) rfl rfl rfl rfl rfl ?_
    obtain ⟨v107, e108, h⟩ := xbnd h
    refine xs_gr (i := 43) (c := 10) (k := 10) (by decide +kernel) (by decide) (by decide +kernel) e108 rfl ?_
    refine xe_ldn (ins := .iload_n 2) (len := 1) (by decide +kernel) rfl rfl rfl rfl ?_
    obtain ⟨v109, e110, h⟩ := xbnd h
    refine xs_lald (by decide +kernel) hx2 e110 rfl ?_
    refine xe_lcmp (by decide +kernel) rfl (xq_al_in e106) (xq_al_in e110) ?_
    refine xe_ifeq (off := 25) (t := 45) (by decide +kernel) (by decide) rfl (xin_cmp8 _ _) (fun c111 => ?_) (fun c111 => ?_)
    · have c111 := xcmp8_eq.mp c111; rw [if_pos c111] at h
      refine xe_iincr (i := 2) (n := 1) (by decide +kernel) (by decide) rfl (xk_k (show ¬ (0 : Nat) = 2 by decide) (Or.inl (show ¬ (0 + 1 : Nat) = 2 by decide)) (xk_k (show ¬ (1 : Nat) = 2 by decide) (Or.inr (xI_cat _)) (xk_d rfl xk_n))) rfl ?_
      refine xe_goto (off := -46) (nx := 2) (by decide +kernel) (by decide) ?_
      refine xW_lv rfl (l := [(0, xR_ (x0)), (1, xI (x1)), (2, xI (xwr ((x2) + (1))))]) (xsb_of ⟨rfl, rfl, rfl, trivial⟩ (show [2, 0, 1].Nodup by decide)) ?_
      exact hr2 hx1 (xin_wr _) h
    · have c111 := (not_congr xcmp8_eq).mp c111; rw [if_neg c111] at h
      refine xe_alr (ins := .aload_n 0) (len := 1) (i := 0) (by decide +kernel) rfl rfl rfl rfl rfl ?_
      obtain ⟨v112, e113, h⟩ := xbnd h
      refine xs_gr (i := 40) (c := 10) (k := 9) (by decide +kernel) (by decide) (by decide +kernel) e113 rfl ?_
      refine xe_ldn (ins := .iload_n 2) (len := 1) (by decide +kernel) rfl rfl rfl rfl ?_
      obtain ⟨v114, e115, h⟩ := xbnd h
      refine xs_lald (by decide +kernel) hx2 e115 rfl ?_
      refine xe_alr (ins := .aload_n 0) (len := 1) (i := 0) (by decide +kernel) rfl rfl rfl rfl rfl ?_
      obtain ⟨v116, e117, h⟩ := xbnd h
      refine xs_gr (i := 43) (c := 10) (k := 10) (by decide +kernel) (by decide) (by decide +kernel) e117 rfl ?_
      refine xe_ldn (ins := .iload_n 2) (len := 1) (by decide +kernel) rfl rfl rfl rfl ?_
      obtain ⟨v118, e119, h⟩ := xbnd h
      refine xs_lald (by decide +kernel) hx2 e119 rfl ?_
      refine xe_lcmp (by decide +kernel) rfl (xq_al_in e115) (xq_al_in e119) ?_
      refine xe_ifle (off := 7) (t := 43) (by decide +kernel) (by decide) rfl (xin_cmp8 _ _) (fun c120 => ?_) (fun c120 => ?_)
      · have c120 := xcmp8_le.mp c120; rw [if_pos c120] at h
        refine xe_iconst (n := 0) (by decide +kernel) rfl ?_
        refine xW_lv rfl (l := []) (xsb_of trivial (show [0, 1, 2].Nodup by decide)) ?_
        exact k158_44   (show xin (0) by decide) h
      · have c120 := (not_congr xcmp8_le).mp c120; rw [if_neg c120] at h
        refine xe_iconst (n := 1) (by decide +kernel) rfl ?_
        refine xe_goto (off := 4) (nx := 44) (by decide +kernel) (by decide) ?_
        refine xW_lv rfl (l := []) (xsb_of trivial (show [0, 1, 2].Nodup by decide)) ?_
        exact k158_44   (show xin (1) by decide) h
def f158_2   (f : Nat) : Nat → Nat → Int → Int → xj_M → Option (Int × xj_M)
  | 0, _, _, _, _ => none
  | n + 1, x0, x1, x2, M => f158_2b   (f158_2   f n) f x0 x1 x2 M
theorem k158_2 {d f : Nat}     : ∀ {n : Nat} {x0 : Nat} {x1 : Int} {x2 : Int} {M : xj_M} {R : Int × xj_M}, xin x1 → xin x2 → f158_2   f n x0 x1 x2 M = some R → xW (d + 0) (none, d + 0, none) xr_158 (2, [(0, xR_ x0), (1, xI x1), (2, xI x2)], [], M) (xQi R) := by
  intro n
  induction n with
  | zero => intros; rename_i h; cases h
  | succ n ih => intros; rename_i h; exact k158_2b   ih (by assumption) (by assumption) h
def f158  (f : Nat) (a0 : Nat) (a1 : Int) (M : xj_M) : Option (Int × xj_M) := f158_2   f f (a0) (a1) (0) M
theorem k158 {d f : Nat}   {a0 : Nat} {a1 : Int} {M : xj_M} {R : Int × xj_M} (ha1 : xin a1) (h : f158  f a0 a1 M = some R) : xT (d + 1) 158 [xR_ a0, xI a1] M (xQi R) := by
  refine xT_m xr_158_e (X := (none, d + 0, none)) rfl (xa_1 (xR_cat _) (xa_1 (xI_cat _) xa_n)) (by decide) ?_
  unfold f158 at h
  refine xe_iconst (n := 0) (by decide +kernel) rfl ?_
  refine xe_isr (ins := .istore_n 2) (len := 1) (i := 2) (by decide +kernel) rfl rfl rfl (by decide) (xk_k (show ¬ (0 : Nat) = 2 by decide) (Or.inl (show ¬ (0 + 1 : Nat) = 2 by decide)) (xk_k (show ¬ (1 : Nat) = 2 by decide) (Or.inr (xI_cat _)) xk_n)) rfl ?_
  refine xW_lv rfl (l := [(0, xR_ (a0)), (1, xI (a1)), (2, xI (0))]) (xsb_of ⟨rfl, rfl, rfl, trivial⟩ (show [2, 0, 1].Nodup by decide)) ?_
  exact k158_2   ha1 (show xin (0) by decide) h
-- ChangeHouse$Works.gatherTwo
def xr_160 : xj_mR := (10, yX10_gatherTwo, cX10_gatherTwo, 5, (Option.some Jvm.ClassFile.FieldType.long), 3, false, (7, 13), (1, 5))
set_option maxRecDepth 20000 in
theorem xr_160_e : xj_row 160 = some xr_160 := rfl
def f160_31   (f : Nat) (y0 : Int) (M : xj_M) : Option (Int × xj_M) := (some (y0, M))
theorem k160_31 {d f : Nat}     {y0 : Int} {M : xj_M} {R : Int × xj_M} (hy0 : xiN y0) (h : f160_31   f y0 M = some R) : xW (d + 0) (none, d + 0, none) xr_160 (31, [], [xZ y0], M) (xQl R) := by
  unfold f160_31 at h
  cases h
  exact xe_ret_l (by decide +kernel) rfl ⟨rfl, rfl, hy0⟩
def f160  (f : Nat) (a0 : Int) (a1 : Int) (a2 : Int) (M : xj_M) : Option (Int × xj_M) := (if ¬ (a0) = (12) then (if ¬ (a0) = (13) then f160_31   f (xwl ((a1) + (a2))) M else f160_31   f (xmax (a1) (a2)) M) else f160_31   f (xmin (a1) (a2)) M)
theorem k160 {d f : Nat}   {a0 : Int} {a1 : Int} {a2 : Int} {M : xj_M} {R : Int × xj_M} (ha0 : xin a0) (ha1 : xiN a1) (ha2 : xiN a2) (h : f160  f a0 a1 a2 M = some R) : xT (d + 1) 160 [xI a0, xZ a1, xZ a2] M (xQl R) := by
  refine xT_m xr_160_e (X := (none, d + 0, none)) rfl (xa_1 (xI_cat _) (xa_2 (xZ_cat _) (xa_2 (xZ_cat _) xa_n))) (by decide) ?_
  unfold f160 at h
  refine xe_ldn (ins := .iload_n 0) (len := 1) (by decide +kernel) rfl rfl rfl rfl ?_
  refine xe_bipush (n := 12) (by decide +kernel) (by decide) rfl ?_
  refine xe_icmpne (off := 11) (t := 14) (by decide +kernel) (by decide) rfl ha0 (show xin (12) by decide) (fun c101 => ?_) (fun c101 => ?_)
  · rw [if_pos c101] at h
    refine xe_ldn (ins := .iload_n 0) (len := 1) (by decide +kernel) rfl rfl rfl rfl ?_
    refine xe_bipush (n := 13) (by decide +kernel) (by decide) rfl ?_
    refine xe_icmpne (off := 11) (t := 28) (by decide +kernel) (by decide) rfl ha0 (show xin (13) by decide) (fun c102 => ?_) (fun c102 => ?_)
    · rw [if_pos c102] at h
      refine xe_ldn (ins := .lload_n 1) (len := 1) (by decide +kernel) rfl rfl rfl rfl ?_
      refine xe_ldn (ins := .lload_n 3) (len := 1) (by decide +kernel) rfl rfl rfl rfl ?_
      refine xe_ladd (by decide +kernel) rfl ?_
      refine xW_lv rfl (l := []) (xsb_of trivial (show [0, 1, 3].Nodup by decide)) ?_
      exact k160_31   (xiN_wl _) h
    · rw [if_neg c102] at h
      refine xe_ldn (ins := .lload_n 1) (len := 1) (by decide +kernel) rfl rfl rfl rfl ?_
      refine xe_ldn (ins := .lload_n 3) (len := 1) (by decide +kernel) rfl rfl rfl rfl ?_
      refine xe_xmxl (i := 283) (by decide +kernel) (by decide +kernel) (by decide +kernel) (by rfl) rfl ha1 ha2 ?_
      refine xe_goto (off := 6) (nx := 31) (by decide +kernel) (by decide) ?_
      refine xW_lv rfl (l := []) (xsb_of trivial (show [0, 1, 3].Nodup by decide)) ?_
      exact k160_31   (xmax_iN ha1 ha2) h
  · rw [if_neg c101] at h
    refine xe_ldn (ins := .lload_n 1) (len := 1) (by decide +kernel) rfl rfl rfl rfl ?_
    refine xe_ldn (ins := .lload_n 3) (len := 1) (by decide +kernel) rfl rfl rfl rfl ?_
    refine xe_xmnl (i := 277) (by decide +kernel) (by decide +kernel) (by decide +kernel) (by rfl) rfl ha1 ha2 ?_
    refine xe_goto (off := 20) (nx := 31) (by decide +kernel) (by decide) ?_
    refine xW_lv rfl (l := []) (xsb_of trivial (show [0, 1, 3].Nodup by decide)) ?_
    exact k160_31   (xmin_iN ha1 ha2) h
-- ChangeHouse$Works.outcome
def xr_162 : xj_mR := (10, yX10_outcome, cX10_outcome, 7, (Option.some (Jvm.ClassFile.FieldType.object "ChangeHouse$Moment")), 2, false, (7, 37), (1, 5))
set_option maxRecDepth 20000 in
theorem xr_162_e : xj_row 162 = some xr_162 := rfl
def f162_149  (r17 : Nat → Nat → Int → Nat → Int → Int → xj_M → Option (Nat × xj_M)) (f : Nat) (x0 : Nat) (x1 : Nat) (x2 : Int) (x3 : Nat) (x5 : Int) (y0 : Int) (y1 : Int) (M : xj_M) : Option (Nat × xj_M) := r17 (x0) (x1) (x2) (x3) (xwr ((y1) + (y0))) (xwr ((x5) + (1))) M
theorem k162_149 {d f : Nat}  {r17 : Nat → Nat → Int → Nat → Int → Int → xj_M → Option (Nat × xj_M)}  (hr17 : ∀ {x0 : Nat} {x1 : Nat} {x2 : Int} {x3 : Nat} {x4 : Int} {x5 : Int} {M : xj_M} {R : Nat × xj_M}, xin x2 → xin x4 → xin x5 → r17 x0 x1 x2 x3 x4 x5 M = some R → xW (d + 3) (none, d + 3, none) xr_162 (17, [(0, xR_ x0), (1, xR_ x1), (2, xI x2), (3, xR_ x3), (4, xI x4), (5, xI x5)], [], M) (yxQr R)) {x0 : Nat} {x1 : Nat} {x2 : Int} {x3 : Nat} {x5 : Int} {y0 : Int} {y1 : Int} {M : xj_M} {R : Nat × xj_M} (hx2 : xin x2) (hx5 : xin x5) (hy0 : xin y0) (hy1 : xin y1) (h : f162_149  r17 f x0 x1 x2 x3 x5 y0 y1 M = some R) : xW (d + 3) (none, d + 3, none) xr_162 (149, [(0, xR_ x0), (1, xR_ x1), (2, xI x2), (3, xR_ x3), (5, xI x5)], [xI y0, xI y1], M) (yxQr R) := by
  unfold f162_149 at h
  refine xe_iadd (by decide +kernel) rfl ?_
  refine xe_isr (ins := .istore 4) (len := 2) (i := 4) (by decide +kernel) rfl rfl rfl (by decide) (xk_k (show ¬ (0 : Nat) = 4 by decide) (Or.inl (show ¬ (0 + 1 : Nat) = 4 by decide)) (xk_k (show ¬ (1 : Nat) = 4 by decide) (Or.inl (show ¬ (1 + 1 : Nat) = 4 by decide)) (xk_k (show ¬ (2 : Nat) = 4 by decide) (Or.inl (show ¬ (2 + 1 : Nat) = 4 by decide)) (xk_k (show ¬ (3 : Nat) = 4 by decide) (Or.inr (xR_cat _)) (xk_k (show ¬ (5 : Nat) = 4 by decide) (Or.inl (show ¬ (5 + 1 : Nat) = 4 by decide)) xk_n))))) rfl ?_
  refine xe_iincr (i := 5) (n := 1) (by decide +kernel) (by decide) rfl (xk_k (show ¬ (4 : Nat) = 5 by decide) (Or.inr (xI_cat _)) (xk_k (show ¬ (0 : Nat) = 5 by decide) (Or.inl (show ¬ (0 + 1 : Nat) = 5 by decide)) (xk_k (show ¬ (1 : Nat) = 5 by decide) (Or.inl (show ¬ (1 + 1 : Nat) = 5 by decide)) (xk_k (show ¬ (2 : Nat) = 5 by decide) (Or.inl (show ¬ (2 + 1 : Nat) = 5 by decide)) (xk_k (show ¬ (3 : Nat) = 5 by decide) (Or.inl (show ¬ (3 + 1 : Nat) = 5 by decide)) (xk_d rfl xk_n)))))) rfl ?_
  refine xe_goto (off := -138) (nx := 17) (by decide +kernel) (by decide) ?_
  refine xW_lv rfl (l := [(0, xR_ (x0)), (1, xR_ (x1)), (2, xI (x2)), (3, xR_ (x3)), (4, xI (xwr ((y1) + (y0)))), (5, xI (xwr ((x5) + (1))))]) (xsb_of ⟨rfl, rfl, rfl, rfl, rfl, rfl, trivial⟩ (show [5, 4, 0, 1, 2, 3].Nodup by decide)) ?_
  exact hr17 hx2 (xin_wr _) (xin_wr _) h
def f162_123  (r17 : Nat → Nat → Int → Nat → Int → Int → xj_M → Option (Nat × xj_M)) (f : Nat) (x0 : Nat) (x1 : Nat) (x2 : Int) (x3 : Nat) (x4 : Int) (x5 : Int) (x6 : Int) (y0 : Nat) (y1 : Int) (y2 : Nat) (M : xj_M) : Option (Nat × xj_M) := ((xq_sr (y2) (y1) (y0) M).bind fun M101 => (if (x6) = 0 then ((xq_ar (x3) (x5) M101).bind fun v104 => ((xq_gr 10 3 (x0) M101).bind fun v106 => ((xq_ar (v106) (x5) M101).bind fun v108 => ((xq_is 5 (v104) M101).bind fun _ => ((f83  f (v104) (v108) M101).bind fun R112 => f162_149  r17 f (x0) (x1) (x2) (x3) (x5) (R112.1) (x4) R112.2))))) else f162_149  r17 f (x0) (x1) (x2) (x3) (x5) (0) (x4) M101))
theorem k162_123 {d f : Nat}  {r17 : Nat → Nat → Int → Nat → Int → Int → xj_M → Option (Nat × xj_M)}  (hr17 : ∀ {x0 : Nat} {x1 : Nat} {x2 : Int} {x3 : Nat} {x4 : Int} {x5 : Int} {M : xj_M} {R : Nat × xj_M}, xin x2 → xin x4 → xin x5 → r17 x0 x1 x2 x3 x4 x5 M = some R → xW (d + 3) (none, d + 3, none) xr_162 (17, [(0, xR_ x0), (1, xR_ x1), (2, xI x2), (3, xR_ x3), (4, xI x4), (5, xI x5)], [], M) (yxQr R)) {x0 : Nat} {x1 : Nat} {x2 : Int} {x3 : Nat} {x4 : Int} {x5 : Int} {x6 : Int} {y0 : Nat} {y1 : Int} {y2 : Nat} {M : xj_M} {R : Nat × xj_M} (hx2 : xin x2) (hx4 : xin x4) (hx5 : xin x5) (hx6 : xin x6) (hy1 : xin y1) (h : f162_123  r17 f x0 x1 x2 x3 x4 x5 x6 y0 y1 y2 M = some R) : xW (d + 3) (none, d + 3, none) xr_162 (123, [(0, xR_ x0), (1, xR_ x1), (2, xI x2), (3, xR_ x3), (4, xI x4), (5, xI x5), (6, xI x6)], [xR_ y0, xI y1, xR_ y2], M) (yxQr R) := by
  unfold f162_123 at h
  obtain ⟨M101, e102, h⟩ := xbnd h
  refine xs_aast (by decide +kernel) hy1 e102 rfl ?_
  refine xe_ldn (ins := .iload 4) (len := 2) (by decide +kernel) rfl rfl rfl rfl ?_
  refine xe_ldn (ins := .iload 6) (len := 2) (by decide +kernel) rfl rfl rfl rfl ?_
  refine xe_ifeq (off := 7) (t := 135) (by decide +kernel) (by decide) rfl hx6 (fun c103 => ?_) (fun c103 => ?_)
  · rw [if_pos c103] at h
    refine xe_alr (ins := .aload_n 3) (len := 1) (i := 3) (by decide +kernel) rfl rfl rfl rfl rfl ?_
    refine xe_ldn (ins := .iload 5) (len := 2) (by decide +kernel) rfl rfl rfl rfl ?_
    obtain ⟨v104, e105, h⟩ := xbnd h
    refine xs_aald (by decide +kernel) hx5 e105 rfl ?_
    refine xe_alr (ins := .aload_n 0) (len := 1) (i := 0) (by decide +kernel) rfl rfl rfl rfl rfl ?_
    obtain ⟨v106, e107, h⟩ := xbnd h
    refine xs_gr (i := 17) (c := 10) (k := 3) (by decide +kernel) (by decide) (by decide +kernel) e107 rfl ?_
    refine xe_ldn (ins := .iload 5) (len := 2) (by decide +kernel) rfl rfl rfl rfl ?_
    obtain ⟨v108, e109, h⟩ := xbnd h
    refine xs_aald (by decide +kernel) hx5 e109 rfl ?_
    obtain ⟨_, e111, h⟩ := xbnd h
    obtain ⟨R112, e110, h⟩ := xbnd h
    refine xs_cv (i := 298) (j := 83) (ar := [xR_ (v108)]) (rest := [xI (x4)]) (r2 := xr_83) (by decide +kernel) (by decide +kernel) (by decide +kernel) xr_83_e rfl (by decide) (by simp only [List.map_cons, List.map_nil, List.sum_cons, List.sum_nil, xR_cat, xI_cat, xZ_cat]; decide) e111 ?_
    refine xc_i (k83 (d := d + 1)   e110) rfl (fun hi113 => ?_)
    refine xW_lv rfl (l := [(0, xR_ (x0)), (1, xR_ (x1)), (2, xI (x2)), (3, xR_ (x3)), (5, xI (x5))]) (xsb_of ⟨rfl, rfl, rfl, rfl, rfl, trivial⟩ (show [0, 1, 2, 3, 4, 5, 6].Nodup by decide)) ?_
    exact k162_149  hr17 hx2 hx5 hi113 hx4 h
  · rw [if_neg c103] at h
    refine xe_iconst (n := 0) (by decide +kernel) rfl ?_
    refine xe_goto (off := 17) (nx := 149) (by decide +kernel) (by decide) ?_
    refine xW_lv rfl (l := [(0, xR_ (x0)), (1, xR_ (x1)), (2, xI (x2)), (3, xR_ (x3)), (5, xI (x5))]) (xsb_of ⟨rfl, rfl, rfl, rfl, rfl, trivial⟩ (show [0, 1, 2, 3, 4, 5, 6].Nodup by decide)) ?_
    exact k162_149  hr17 hx2 hx5 (show xin (0) by decide) hx4 h
def f162_66  (r17 : Nat → Nat → Int → Nat → Int → Int → xj_M → Option (Nat × xj_M)) (f : Nat) (x0 : Nat) (x1 : Nat) (x2 : Int) (x3 : Nat) (x4 : Int) (x5 : Int) (y0 : Int) (M : xj_M) : Option (Nat × xj_M) := (if (y0) = 0 then ((xq_gr 10 2 (x0) M).bind fun v115 => ((xq_ar (v115) (x5) M).bind fun v117 => ((xq_gr 10 4 (x0) M).bind fun v119 => ((xq_ar (v119) (x5) M).bind fun v121 => (if 64 ≤ (v117) ∧ 64 ≤ (v121) then (if (v117) = (v121) then ((xq_gr 10 4 (x0) M).bind fun v129 => ((xq_ar (v129) (x5) M).bind fun v131 => ((xq_is 5 (v131) M).bind fun _ => ((f80  f (v131) M).bind fun R135 => f162_123  r17 f (x0) (x1) (x2) (x3) (x4) (x5) (y0) (R135.1) (x5) (x3) R135.2)))) else ((xq_gr 10 2 (x0) M).bind fun v125 => ((xq_ar (v125) (x5) M).bind fun v127 => f162_123  r17 f (x0) (x1) (x2) (x3) (x4) (x5) (y0) (v127) (x5) (x3) M))) else none))))) else ((xq_gr 10 3 (x0) M).bind fun v137 => ((xq_ar (v137) (x5) M).bind fun v139 => f162_123  r17 f (x0) (x1) (x2) (x3) (x4) (x5) (y0) (v139) (x5) (x3) M)))
theorem k162_66 {d f : Nat}  {r17 : Nat → Nat → Int → Nat → Int → Int → xj_M → Option (Nat × xj_M)}  (hr17 : ∀ {x0 : Nat} {x1 : Nat} {x2 : Int} {x3 : Nat} {x4 : Int} {x5 : Int} {M : xj_M} {R : Nat × xj_M}, xin x2 → xin x4 → xin x5 → r17 x0 x1 x2 x3 x4 x5 M = some R → xW (d + 3) (none, d + 3, none) xr_162 (17, [(0, xR_ x0), (1, xR_ x1), (2, xI x2), (3, xR_ x3), (4, xI x4), (5, xI x5)], [], M) (yxQr R)) {x0 : Nat} {x1 : Nat} {x2 : Int} {x3 : Nat} {x4 : Int} {x5 : Int} {y0 : Int} {M : xj_M} {R : Nat × xj_M} (hx2 : xin x2) (hx4 : xin x4) (hx5 : xin x5) (hy0 : xin y0) (h : f162_66  r17 f x0 x1 x2 x3 x4 x5 y0 M = some R) : xW (d + 3) (none, d + 3, none) xr_162 (66, [(0, xR_ x0), (1, xR_ x1), (2, xI x2), (3, xR_ x3), (4, xI x4), (5, xI x5)], [xI y0], M) (yxQr R) := by
  unfold f162_66 at h
  refine xe_isr (ins := .istore 6) (len := 2) (i := 6) (by decide +kernel) rfl rfl rfl (by decide) (xk_k (show ¬ (0 : Nat) = 6 by decide) (Or.inl (show ¬ (0 + 1 : Nat) = 6 by decide)) (xk_k (show ¬ (1 : Nat) = 6 by decide) (Or.inl (show ¬ (1 + 1 : Nat) = 6 by decide)) (xk_k (show ¬ (2 : Nat) = 6 by decide) (Or.inl (show ¬ (2 + 1 : Nat) = 6 by decide)) (xk_k (show ¬ (3 : Nat) = 6 by decide) (Or.inl (show ¬ (3 + 1 : Nat) = 6 by decide)) (xk_k (show ¬ (4 : Nat) = 6 by decide) (Or.inl (show ¬ (4 + 1 : Nat) = 6 by decide)) (xk_k (show ¬ (5 : Nat) = 6 by decide) (Or.inr (xI_cat _)) xk_n)))))) rfl ?_
  refine xe_alr (ins := .aload_n 3) (len := 1) (i := 3) (by decide +kernel) rfl rfl rfl rfl rfl ?_
  refine xe_ldn (ins := .iload 5) (len := 2) (by decide +kernel) rfl rfl rfl rfl ?_
  refine xe_ldn (ins := .iload 6) (len := 2) (by decide +kernel) rfl rfl rfl rfl ?_
  refine xe_ifeq (off := 13) (t := 86) (by decide +kernel) (by decide) rfl hy0 (fun c114 => ?_) (fun c114 => ?_)
  · rw [if_pos c114] at h
    refine xe_alr (ins := .aload_n 0) (len := 1) (i := 0) (by decide +kernel) rfl rfl rfl rfl rfl ?_
    obtain ⟨v115, e116, h⟩ := xbnd h
    refine xs_gr (i := 11) (c := 10) (k := 2) (by decide +kernel) (by decide) (by decide +kernel) e116 rfl ?_
    refine xe_ldn (ins := .iload 5) (len := 2) (by decide +kernel) rfl rfl rfl rfl ?_
    obtain ⟨v117, e118, h⟩ := xbnd h
    refine xs_aald (by decide +kernel) hx5 e118 rfl ?_
    refine xe_alr (ins := .aload_n 0) (len := 1) (i := 0) (by decide +kernel) rfl rfl rfl rfl rfl ?_
    obtain ⟨v119, e120, h⟩ := xbnd h
    refine xs_gr (i := 20) (c := 10) (k := 4) (by decide +kernel) (by decide) (by decide +kernel) e120 rfl ?_
    refine xe_ldn (ins := .iload 5) (len := 2) (by decide +kernel) rfl rfl rfl rfl ?_
    obtain ⟨v121, e122, h⟩ := xbnd h
    refine xs_aald (by decide +kernel) hx5 e122 rfl ?_
    by_cases c124 : 64 ≤ (v117) ∧ 64 ≤ (v121)
    · rw [if_pos c124] at h
      refine xe_acmpne (off := 16) (t := 116) (by decide +kernel) (by decide) rfl c124.1 c124.2 (fun c123 => ?_) (fun c123 => ?_)
      · rw [if_neg c123] at h
        refine xe_alr (ins := .aload_n 0) (len := 1) (i := 0) (by decide +kernel) rfl rfl rfl rfl rfl ?_
        obtain ⟨v125, e126, h⟩ := xbnd h
        refine xs_gr (i := 11) (c := 10) (k := 2) (by decide +kernel) (by decide) (by decide +kernel) e126 rfl ?_
        refine xe_ldn (ins := .iload 5) (len := 2) (by decide +kernel) rfl rfl rfl rfl ?_
        obtain ⟨v127, e128, h⟩ := xbnd h
        refine xs_aald (by decide +kernel) hx5 e128 rfl ?_
        refine xW_lv rfl (l := [(0, xR_ (x0)), (1, xR_ (x1)), (2, xI (x2)), (3, xR_ (x3)), (4, xI (x4)), (5, xI (x5)), (6, xI (y0))]) (xsb_of ⟨rfl, rfl, rfl, rfl, rfl, rfl, rfl, trivial⟩ (show [6, 0, 1, 2, 3, 4, 5].Nodup by decide)) ?_
        exact k162_123  hr17 hx2 hx4 hx5 hy0 hx5 h
      · rw [if_pos c123] at h
        refine xe_alr (ins := .aload_n 0) (len := 1) (i := 0) (by decide +kernel) rfl rfl rfl rfl rfl ?_
        obtain ⟨v129, e130, h⟩ := xbnd h
        refine xs_gr (i := 20) (c := 10) (k := 4) (by decide +kernel) (by decide) (by decide +kernel) e130 rfl ?_
        refine xe_ldn (ins := .iload 5) (len := 2) (by decide +kernel) rfl rfl rfl rfl ?_
        obtain ⟨v131, e132, h⟩ := xbnd h
        refine xs_aald (by decide +kernel) hx5 e132 rfl ?_
        obtain ⟨_, e134, h⟩ := xbnd h
        obtain ⟨R135, e133, h⟩ := xbnd h
        refine xs_cv (i := 294) (j := 80) (ar := []) (rest := [xI (x5), xR_ (x3)]) (r2 := xr_80) (by decide +kernel) (by decide +kernel) (by decide +kernel) xr_80_e rfl (by decide) (by simp only [List.map_cons, List.map_nil, List.sum_cons, List.sum_nil, xR_cat, xI_cat, xZ_cat]; decide) e134 ?_
        refine xc_r (k80 (d := d + 0)   e133) rfl ?_
        refine xe_goto (off := 10) (nx := 123) (by decide +kernel) (by decide) ?_
        refine xW_lv rfl (l := [(0, xR_ (x0)), (1, xR_ (x1)), (2, xI (x2)), (3, xR_ (x3)), (4, xI (x4)), (5, xI (x5)), (6, xI (y0))]) (xsb_of ⟨rfl, rfl, rfl, rfl, rfl, rfl, rfl, trivial⟩ (show [6, 0, 1, 2, 3, 4, 5].Nodup by decide)) ?_
        exact k162_123  hr17 hx2 hx4 hx5 hy0 hx5 h
    · rw [if_neg c124] at h; cases h
  · rw [if_neg c114] at h
    refine xe_alr (ins := .aload_n 0) (len := 1) (i := 0) (by decide +kernel) rfl rfl rfl rfl rfl ?_
    obtain ⟨v137, e138, h⟩ := xbnd h
    refine xs_gr (i := 17) (c := 10) (k := 3) (by decide +kernel) (by decide) (by decide +kernel) e138 rfl ?_
    refine xe_ldn (ins := .iload 5) (len := 2) (by decide +kernel) rfl rfl rfl rfl ?_
    obtain ⟨v139, e140, h⟩ := xbnd h
    refine xs_aald (by decide +kernel) hx5 e140 rfl ?_
    refine xe_goto (off := 40) (nx := 123) (by decide +kernel) (by decide) ?_
    refine xW_lv rfl (l := [(0, xR_ (x0)), (1, xR_ (x1)), (2, xI (x2)), (3, xR_ (x3)), (4, xI (x4)), (5, xI (x5)), (6, xI (y0))]) (xsb_of ⟨rfl, rfl, rfl, rfl, rfl, rfl, rfl, trivial⟩ (show [6, 0, 1, 2, 3, 4, 5].Nodup by decide)) ?_
    exact k162_123  hr17 hx2 hx4 hx5 hy0 hx5 h
def f162_65  (r17 : Nat → Nat → Int → Nat → Int → Int → xj_M → Option (Nat × xj_M)) (f : Nat) (x0 : Nat) (x1 : Nat) (x2 : Int) (x3 : Nat) (x4 : Int) (x5 : Int) (M : xj_M) : Option (Nat × xj_M) := f162_66  r17 f (x0) (x1) (x2) (x3) (x4) (x5) (0) M
theorem k162_65 {d f : Nat}  {r17 : Nat → Nat → Int → Nat → Int → Int → xj_M → Option (Nat × xj_M)}  (hr17 : ∀ {x0 : Nat} {x1 : Nat} {x2 : Int} {x3 : Nat} {x4 : Int} {x5 : Int} {M : xj_M} {R : Nat × xj_M}, xin x2 → xin x4 → xin x5 → r17 x0 x1 x2 x3 x4 x5 M = some R → xW (d + 3) (none, d + 3, none) xr_162 (17, [(0, xR_ x0), (1, xR_ x1), (2, xI x2), (3, xR_ x3), (4, xI x4), (5, xI x5)], [], M) (yxQr R)) {x0 : Nat} {x1 : Nat} {x2 : Int} {x3 : Nat} {x4 : Int} {x5 : Int} {M : xj_M} {R : Nat × xj_M} (hx2 : xin x2) (hx4 : xin x4) (hx5 : xin x5) (h : f162_65  r17 f x0 x1 x2 x3 x4 x5 M = some R) : xW (d + 3) (none, d + 3, none) xr_162 (65, [(0, xR_ x0), (1, xR_ x1), (2, xI x2), (3, xR_ x3), (4, xI x4), (5, xI x5)], [], M) (yxQr R) := by
  unfold f162_65 at h
  refine xe_iconst (n := 0) (by decide +kernel) rfl ?_
  refine xW_lv rfl (l := [(0, xR_ (x0)), (1, xR_ (x1)), (2, xI (x2)), (3, xR_ (x3)), (4, xI (x4)), (5, xI (x5))]) (xsb_of ⟨rfl, rfl, rfl, rfl, rfl, rfl, trivial⟩ (show [0, 1, 2, 3, 4, 5].Nodup by decide)) ?_
  exact k162_66  hr17 hx2 hx4 hx5 (show xin (0) by decide) h
def f162_210  (r161 : Nat → Nat → Int → Nat → Int → Int → xj_M → Option (Nat × xj_M)) (f : Nat) (x0 : Nat) (x1 : Nat) (x2 : Int) (x3 : Nat) (x5 : Int) (y0 : Int) (y1 : Int) (M : xj_M) : Option (Nat × xj_M) := r161 (x0) (x1) (x2) (x3) (xwr ((y1) + (y0))) (xwr ((x5) + (1))) M
theorem k162_210 {d f : Nat}  {r161 : Nat → Nat → Int → Nat → Int → Int → xj_M → Option (Nat × xj_M)}  (hr161 : ∀ {x0 : Nat} {x1 : Nat} {x2 : Int} {x3 : Nat} {x4 : Int} {x5 : Int} {M : xj_M} {R : Nat × xj_M}, xin x2 → xin x4 → xin x5 → r161 x0 x1 x2 x3 x4 x5 M = some R → xW (d + 3) (none, d + 3, none) xr_162 (161, [(0, xR_ x0), (1, xR_ x1), (2, xI x2), (3, xR_ x3), (4, xI x4), (5, xI x5)], [], M) (yxQr R)) {x0 : Nat} {x1 : Nat} {x2 : Int} {x3 : Nat} {x5 : Int} {y0 : Int} {y1 : Int} {M : xj_M} {R : Nat × xj_M} (hx2 : xin x2) (hx5 : xin x5) (hy0 : xin y0) (hy1 : xin y1) (h : f162_210  r161 f x0 x1 x2 x3 x5 y0 y1 M = some R) : xW (d + 3) (none, d + 3, none) xr_162 (210, [(0, xR_ x0), (1, xR_ x1), (2, xI x2), (3, xR_ x3), (5, xI x5)], [xI y0, xI y1], M) (yxQr R) := by
  unfold f162_210 at h
  refine xe_iadd (by decide +kernel) rfl ?_
  refine xe_isr (ins := .istore 4) (len := 2) (i := 4) (by decide +kernel) rfl rfl rfl (by decide) (xk_k (show ¬ (0 : Nat) = 4 by decide) (Or.inl (show ¬ (0 + 1 : Nat) = 4 by decide)) (xk_k (show ¬ (1 : Nat) = 4 by decide) (Or.inl (show ¬ (1 + 1 : Nat) = 4 by decide)) (xk_k (show ¬ (2 : Nat) = 4 by decide) (Or.inl (show ¬ (2 + 1 : Nat) = 4 by decide)) (xk_k (show ¬ (3 : Nat) = 4 by decide) (Or.inr (xR_cat _)) (xk_k (show ¬ (5 : Nat) = 4 by decide) (Or.inl (show ¬ (5 + 1 : Nat) = 4 by decide)) xk_n))))) rfl ?_
  refine xe_iincr (i := 5) (n := 1) (by decide +kernel) (by decide) rfl (xk_k (show ¬ (4 : Nat) = 5 by decide) (Or.inr (xI_cat _)) (xk_k (show ¬ (0 : Nat) = 5 by decide) (Or.inl (show ¬ (0 + 1 : Nat) = 5 by decide)) (xk_k (show ¬ (1 : Nat) = 5 by decide) (Or.inl (show ¬ (1 + 1 : Nat) = 5 by decide)) (xk_k (show ¬ (2 : Nat) = 5 by decide) (Or.inl (show ¬ (2 + 1 : Nat) = 5 by decide)) (xk_k (show ¬ (3 : Nat) = 5 by decide) (Or.inl (show ¬ (3 + 1 : Nat) = 5 by decide)) (xk_d rfl xk_n)))))) rfl ?_
  refine xe_goto (off := -55) (nx := 161) (by decide +kernel) (by decide) ?_
  refine xW_lv rfl (l := [(0, xR_ (x0)), (1, xR_ (x1)), (2, xI (x2)), (3, xR_ (x3)), (4, xI (xwr ((y1) + (y0)))), (5, xI (xwr ((x5) + (1))))]) (xsb_of ⟨rfl, rfl, rfl, rfl, rfl, rfl, trivial⟩ (show [5, 4, 0, 1, 2, 3].Nodup by decide)) ?_
  exact hr161 hx2 (xin_wr _) (xin_wr _) h
def f162_251   (f : Nat) (x1 : Nat) (x5 : Nat) (y0 : Int) (y1 : Nat) (M : xj_M) : Option (Nat × xj_M) := ((xq_pi 2 6 (y1) (y0) M).bind fun M141 => ((xq_gi 2 7 (x1) M141).bind fun v143 => ((xq_gi 2 6 (x5) M141).bind fun v145 => ((xq_pi 2 7 (x5) (xwr ((v143) + (v145))) M141).bind fun M147 => (some (x5, M147))))))
theorem k162_251 {d f : Nat}     {x1 : Nat} {x5 : Nat} {y0 : Int} {y1 : Nat} {M : xj_M} {R : Nat × xj_M} (hy0 : xin y0) (h : f162_251   f x1 x5 y0 y1 M = some R) : xW (d + 3) (none, d + 3, none) xr_162 (251, [(1, xR_ x1), (5, xR_ x5)], [xI y0, xR_ y1], M) (yxQr R) := by
  unfold f162_251 at h
  obtain ⟨M141, e142, h⟩ := xbnd h
  refine xs_p (i := 308) (c := 2) (k := 6) (by decide +kernel) (by decide +kernel) (by decide +kernel) e142 rfl ?_
  refine xe_alr (ins := .aload 5) (len := 2) (i := 5) (by decide +kernel) rfl rfl rfl rfl rfl ?_
  refine xe_alr (ins := .aload_n 1) (len := 1) (i := 1) (by decide +kernel) rfl rfl rfl rfl rfl ?_
  obtain ⟨v143, e144, h⟩ := xbnd h
  refine xs_gi (i := 311) (c := 2) (k := 7) (by decide +kernel) (by decide) (by decide +kernel) e144 rfl ?_
  refine xe_alr (ins := .aload 5) (len := 2) (i := 5) (by decide +kernel) rfl rfl rfl rfl rfl ?_
  obtain ⟨v145, e146, h⟩ := xbnd h
  refine xs_gi (i := 308) (c := 2) (k := 6) (by decide +kernel) (by decide) (by decide +kernel) e146 rfl ?_
  refine xe_iadd (by decide +kernel) rfl ?_
  obtain ⟨M147, e148, h⟩ := xbnd h
  refine xs_p (i := 311) (c := 2) (k := 7) (by decide +kernel) (by decide +kernel) (by decide +kernel) e148 rfl ?_
  refine xe_alr (ins := .aload 5) (len := 2) (i := 5) (by decide +kernel) rfl rfl rfl rfl rfl ?_
  cases h
  exact xe_ret_r (by decide +kernel) rfl rfl ⟨rfl, rfl⟩
def f162_219   (f : Nat) (x0 : Nat) (x1 : Nat) (x2 : Int) (x3 : Nat) (x4 : Int) (M : xj_M) : Option (Nat × xj_M) := ((xq_nw 2 M).bind fun p149 => ((xq_gr 10 1 (x0) p149.2).bind fun v151 => ((f14  f (p149.1) (v151) (x3) p149.2).bind fun M154 => ((xq_pi 2 4 (p149.1) (x4) M154).bind fun M156 => (if (x2) = 0 then f162_251   f (x1) (p149.1) (0) (p149.1) M156 else f162_251   f (x1) (p149.1) (1) (p149.1) M156)))))
theorem k162_219 {d f : Nat}     {x0 : Nat} {x1 : Nat} {x2 : Int} {x3 : Nat} {x4 : Int} {M : xj_M} {R : Nat × xj_M} (hx2 : xin x2) (hx4 : xin x4) (h : f162_219   f x0 x1 x2 x3 x4 M = some R) : xW (d + 3) (none, d + 3, none) xr_162 (219, [(0, xR_ x0), (1, xR_ x1), (2, xI x2), (3, xR_ x3), (4, xI x4)], [], M) (yxQr R) := by
  unfold f162_219 at h
  obtain ⟨p149, e150, h⟩ := xbnd h
  refine xs_nw (i := 77) (ci := 2) (x := p149.1) (M1 := p149.2) (by decide +kernel) (by decide +kernel) e150 rfl ?_
  refine xe_dupr (by decide +kernel) rfl ?_
  refine xe_alr (ins := .aload_n 0) (len := 1) (i := 0) (by decide +kernel) rfl rfl rfl rfl rfl ?_
  obtain ⟨v151, e152, h⟩ := xbnd h
  refine xs_gr (i := 60) (c := 10) (k := 1) (by decide +kernel) (by decide) (by decide +kernel) e152 rfl ?_
  refine xe_alr (ins := .aload_n 3) (len := 1) (i := 3) (by decide +kernel) rfl rfl rfl rfl rfl ?_
  obtain ⟨M154, e153, h⟩ := xbnd h
  refine xs_ci (kd := 1) (by decide) (i := 302) (j := 14) (ar := [xR_ (x3), xR_ (v151)]) (rest := [xR_ (p149.1)]) (r2 := xr_14) (by decide +kernel) (by decide +kernel) xr_14_e rfl rfl (by simp only [List.map_cons, List.map_nil, List.sum_cons, List.sum_nil, xR_cat, xI_cat, xZ_cat]; decide) (xq_nw_ne e150) ?_
  refine xc_v (k14 (d := d + 2)   e153) rfl ?_
  refine xe_asr (ins := .astore 5) (len := 2) (i := 5) (by decide +kernel) rfl rfl rfl (by decide) (xk_k (show ¬ (0 : Nat) = 5 by decide) (Or.inl (show ¬ (0 + 1 : Nat) = 5 by decide)) (xk_k (show ¬ (1 : Nat) = 5 by decide) (Or.inl (show ¬ (1 + 1 : Nat) = 5 by decide)) (xk_k (show ¬ (2 : Nat) = 5 by decide) (Or.inl (show ¬ (2 + 1 : Nat) = 5 by decide)) (xk_k (show ¬ (3 : Nat) = 5 by decide) (Or.inl (show ¬ (3 + 1 : Nat) = 5 by decide)) (xk_k (show ¬ (4 : Nat) = 5 by decide) (Or.inr (xI_cat _)) xk_n))))) rfl ?_
  refine xe_alr (ins := .aload 5) (len := 2) (i := 5) (by decide +kernel) rfl rfl rfl rfl rfl ?_
  refine xe_ldn (ins := .iload 4) (len := 2) (by decide +kernel) rfl rfl rfl rfl ?_
  obtain ⟨M156, e157, h⟩ := xbnd h
  refine xs_p (i := 305) (c := 2) (k := 4) (by decide +kernel) (by decide +kernel) (by decide +kernel) e157 rfl ?_
  refine xe_alr (ins := .aload 5) (len := 2) (i := 5) (by decide +kernel) rfl rfl rfl rfl rfl ?_
  refine xe_ldn (ins := .iload_n 2) (len := 1) (by decide +kernel) rfl rfl rfl rfl ?_
  refine xe_ifeq (off := 7) (t := 250) (by decide +kernel) (by decide) rfl hx2 (fun c158 => ?_) (fun c158 => ?_)
  · rw [if_pos c158] at h
    refine xe_iconst (n := 0) (by decide +kernel) rfl ?_
    refine xW_lv rfl (l := [(1, xR_ (x1)), (5, xR_ (p149.1))]) (xsb_of ⟨rfl, rfl, trivial⟩ (show [5, 0, 1, 2, 3, 4].Nodup by decide)) ?_
    exact k162_251   (show xin (0) by decide) h
  · rw [if_neg c158] at h
    refine xe_iconst (n := 1) (by decide +kernel) rfl ?_
    refine xe_goto (off := 4) (nx := 251) (by decide +kernel) (by decide) ?_
    refine xW_lv rfl (l := [(1, xR_ (x1)), (5, xR_ (p149.1))]) (xsb_of ⟨rfl, rfl, trivial⟩ (show [5, 0, 1, 2, 3, 4].Nodup by decide)) ?_
    exact k162_251   (show xin (1) by decide) h
def f162_161b  (r161 : Nat → Nat → Int → Nat → Int → Int → xj_M → Option (Nat × xj_M)) (f : Nat) (x0 : Nat) (x1 : Nat) (x2 : Int) (x3 : Nat) (x4 : Int) (x5 : Int) (M : xj_M) : Option (Nat × xj_M) := (if (x2) = 0 then f162_219   f (x0) (x1) (x2) (x3) (x4) M else ((xq_gr 2 0 (x1) M).bind fun v160 => ((xq_gi 3 1 (v160) M).bind fun v162 => (if (v162) ≤ (x5) then f162_219   f (x0) (x1) (x2) (x3) (x4) M else ((xq_gr 10 1 (x0) M).bind fun v165 => ((xq_gr 2 0 (x1) M).bind fun v167 => ((xq_is 3 (v165) M).bind fun _ => ((f21  f (v165) (v167) (x5) M).bind fun R171 => (if ¬ (R171.1) = (-1) then f162_210  r161 f (x0) (x1) (x2) (x3) (x5) (0) (x4) R171.2 else ((xq_gr 2 1 (x1) R171.2).bind fun v174 => ((xq_ar (v174) (x5) R171.2).bind fun v176 => ((xq_gi 5 1 (v176) R171.2).bind fun v178 => f162_210  r161 f (x0) (x1) (x2) (x3) (x5) (v178) (x4) R171.2))))))))))))
theorem k162_161b {d f : Nat}  {r161 : Nat → Nat → Int → Nat → Int → Int → xj_M → Option (Nat × xj_M)}  (hr161 : ∀ {x0 : Nat} {x1 : Nat} {x2 : Int} {x3 : Nat} {x4 : Int} {x5 : Int} {M : xj_M} {R : Nat × xj_M}, xin x2 → xin x4 → xin x5 → r161 x0 x1 x2 x3 x4 x5 M = some R → xW (d + 3) (none, d + 3, none) xr_162 (161, [(0, xR_ x0), (1, xR_ x1), (2, xI x2), (3, xR_ x3), (4, xI x4), (5, xI x5)], [], M) (yxQr R)) {x0 : Nat} {x1 : Nat} {x2 : Int} {x3 : Nat} {x4 : Int} {x5 : Int} {M : xj_M} {R : Nat × xj_M} (hx2 : xin x2) (hx4 : xin x4) (hx5 : xin x5) (h : f162_161b  r161 f x0 x1 x2 x3 x4 x5 M = some R) : xW (d + 3) (none, d + 3, none) xr_162 (161, [(0, xR_ x0), (1, xR_ x1), (2, xI x2), (3, xR_ x3), (4, xI x4), (5, xI x5)], [], M) (yxQr R) := by
  unfold f162_161b at h
  refine xe_ldn (ins := .iload_n 2) (len := 1) (by decide +kernel) rfl rfl rfl rfl ?_
  refine xe_ifeq (off := 57) (t := 219) (by decide +kernel) (by decide) rfl hx2 (fun c159 => ?_) (fun c159 => ?_)
  · rw [if_pos c159] at h
    refine xW_lv rfl (l := [(0, xR_ (x0)), (1, xR_ (x1)), (2, xI (x2)), (3, xR_ (x3)), (4, xI (x4))]) (xsb_of ⟨rfl, rfl, rfl, rfl, rfl, trivial⟩ (show [0, 1, 2, 3, 4, 5].Nodup by decide)) ?_
    exact k162_219   hx2 hx4 h
  · rw [if_neg c159] at h
    refine xe_ldn (ins := .iload 5) (len := 2) (by decide +kernel) rfl rfl rfl rfl ?_
    refine xe_alr (ins := .aload_n 1) (len := 1) (i := 1) (by decide +kernel) rfl rfl rfl rfl rfl ?_
    obtain ⟨v160, e161, h⟩ := xbnd h
    refine xs_gr (i := 76) (c := 2) (k := 0) (by decide +kernel) (by decide) (by decide +kernel) e161 rfl ?_
    obtain ⟨v162, e163, h⟩ := xbnd h
    refine xs_gi (i := 79) (c := 3) (k := 1) (by decide +kernel) (by decide) (by decide +kernel) e163 rfl ?_
    refine xe_icmpge (off := 45) (t := 219) (by decide +kernel) (by decide) rfl hx5 (xq_gi_in e163) (fun c164 => ?_) (fun c164 => ?_)
    · rw [if_pos c164] at h
      refine xW_lv rfl (l := [(0, xR_ (x0)), (1, xR_ (x1)), (2, xI (x2)), (3, xR_ (x3)), (4, xI (x4))]) (xsb_of ⟨rfl, rfl, rfl, rfl, rfl, trivial⟩ (show [0, 1, 2, 3, 4, 5].Nodup by decide)) ?_
      exact k162_219   hx2 hx4 h
    · rw [if_neg c164] at h
      refine xe_ldn (ins := .iload 4) (len := 2) (by decide +kernel) rfl rfl rfl rfl ?_
      refine xe_alr (ins := .aload_n 0) (len := 1) (i := 0) (by decide +kernel) rfl rfl rfl rfl rfl ?_
      obtain ⟨v165, e166, h⟩ := xbnd h
      refine xs_gr (i := 60) (c := 10) (k := 1) (by decide +kernel) (by decide) (by decide +kernel) e166 rfl ?_
      refine xe_alr (ins := .aload_n 1) (len := 1) (i := 1) (by decide +kernel) rfl rfl rfl rfl rfl ?_
      obtain ⟨v167, e168, h⟩ := xbnd h
      refine xs_gr (i := 76) (c := 2) (k := 0) (by decide +kernel) (by decide) (by decide +kernel) e168 rfl ?_
      refine xe_ldn (ins := .iload 5) (len := 2) (by decide +kernel) rfl rfl rfl rfl ?_
      obtain ⟨_, e170, h⟩ := xbnd h
      obtain ⟨R171, e169, h⟩ := xbnd h
      refine xs_cv (i := 82) (j := 21) (ar := [xI (x5), xR_ (v167)]) (rest := [xI (x4)]) (r2 := xr_21) (by decide +kernel) (by decide +kernel) (by decide +kernel) xr_21_e rfl (by decide) (by simp only [List.map_cons, List.map_nil, List.sum_cons, List.sum_nil, xR_cat, xI_cat, xZ_cat]; decide) e170 ?_
      refine xc_i (k21 (d := d + 1)  hx5 e169) rfl (fun hi172 => ?_)
      refine xe_iconst (n := -1) (by decide +kernel) rfl ?_
      refine xe_icmpne (off := 16) (t := 209) (by decide +kernel) (by decide) rfl hi172 (show xin (-1) by decide) (fun c173 => ?_) (fun c173 => ?_)
      · rw [if_pos c173] at h
        refine xe_iconst (n := 0) (by decide +kernel) rfl ?_
        refine xW_lv rfl (l := [(0, xR_ (x0)), (1, xR_ (x1)), (2, xI (x2)), (3, xR_ (x3)), (5, xI (x5))]) (xsb_of ⟨rfl, rfl, rfl, rfl, rfl, trivial⟩ (show [0, 1, 2, 3, 4, 5].Nodup by decide)) ?_
        exact k162_210  hr161 hx2 hx5 (show xin (0) by decide) hx4 h
      · rw [if_neg c173] at h
        refine xe_alr (ins := .aload_n 1) (len := 1) (i := 1) (by decide +kernel) rfl rfl rfl rfl rfl ?_
        obtain ⟨v174, e175, h⟩ := xbnd h
        refine xs_gr (i := 89) (c := 2) (k := 1) (by decide +kernel) (by decide) (by decide +kernel) e175 rfl ?_
        refine xe_ldn (ins := .iload 5) (len := 2) (by decide +kernel) rfl rfl rfl rfl ?_
        obtain ⟨v176, e177, h⟩ := xbnd h
        refine xs_aald (by decide +kernel) hx5 e177 rfl ?_
        obtain ⟨v178, e179, h⟩ := xbnd h
        refine xs_gi (i := 127) (c := 5) (k := 1) (by decide +kernel) (by decide) (by decide +kernel) e179 rfl ?_
        refine xe_goto (off := 4) (nx := 210) (by decide +kernel) (by decide) ?_
        refine xW_lv rfl (l := [(0, xR_ (x0)), (1, xR_ (x1)), (2, xI (x2)), (3, xR_ (x3)), (5, xI (x5))]) (xsb_of ⟨rfl, rfl, rfl, rfl, rfl, trivial⟩ (show [0, 1, 2, 3, 4, 5].Nodup by decide)) ?_
        exact k162_210  hr161 hx2 hx5 (xq_gi_in e179) hx4 h
def f162_161   (f : Nat) : Nat → Nat → Nat → Int → Nat → Int → Int → xj_M → Option (Nat × xj_M)
  | 0, _, _, _, _, _, _, _ => none
  | n + 1, x0, x1, x2, x3, x4, x5, M => f162_161b   (f162_161   f n) f x0 x1 x2 x3 x4 x5 M
theorem k162_161 {d f : Nat}     : ∀ {n : Nat} {x0 : Nat} {x1 : Nat} {x2 : Int} {x3 : Nat} {x4 : Int} {x5 : Int} {M : xj_M} {R : Nat × xj_M}, xin x2 → xin x4 → xin x5 → f162_161   f n x0 x1 x2 x3 x4 x5 M = some R → xW (d + 3) (none, d + 3, none) xr_162 (161, [(0, xR_ x0), (1, xR_ x1), (2, xI x2), (3, xR_ x3), (4, xI x4), (5, xI x5)], [], M) (yxQr R) := by
  intro n
  induction n with
  | zero => intros; rename_i h; cases h
  | succ n ih => intros; rename_i h; exact k162_161b   ih (by assumption) (by assumption) (by assumption) h
def f162_17b  (r17 : Nat → Nat → Int → Nat → Int → Int → xj_M → Option (Nat × xj_M)) (f : Nat) (x0 : Nat) (x1 : Nat) (x2 : Int) (x3 : Nat) (x4 : Int) (x5 : Int) (M : xj_M) : Option (Nat × xj_M) := ((xq_gr 10 1 (x0) M).bind fun v180 => ((xq_gi 3 1 (v180) M).bind fun v182 => (if (v182) ≤ (x5) then f162_161   f f (x0) (x1) (x2) (x3) (x4) (0) M else ((xq_gi 10 13 (x0) M).bind fun v185 => (if ¬ (xand (xshr (v185) (x5)) (1)) = 0 then f162_65  r17 f (x0) (x1) (x2) (x3) (x4) (x5) M else ((xq_gr 10 2 (x0) M).bind fun v188 => ((xq_ar (v188) (x5) M).bind fun v190 => ((xq_gr 10 3 (x0) M).bind fun v192 => ((xq_ar (v192) (x5) M).bind fun v194 => ((xq_is 5 (v190) M).bind fun _ => ((f82  f (v190) (v194) M).bind fun R198 => (if (R198.1) = 0 then f162_65  r17 f (x0) (x1) (x2) (x3) (x4) (x5) R198.2 else f162_66  r17 f (x0) (x1) (x2) (x3) (x4) (x5) (1) R198.2))))))))))))
theorem k162_17b {d f : Nat}  {r17 : Nat → Nat → Int → Nat → Int → Int → xj_M → Option (Nat × xj_M)}  (hr17 : ∀ {x0 : Nat} {x1 : Nat} {x2 : Int} {x3 : Nat} {x4 : Int} {x5 : Int} {M : xj_M} {R : Nat × xj_M}, xin x2 → xin x4 → xin x5 → r17 x0 x1 x2 x3 x4 x5 M = some R → xW (d + 3) (none, d + 3, none) xr_162 (17, [(0, xR_ x0), (1, xR_ x1), (2, xI x2), (3, xR_ x3), (4, xI x4), (5, xI x5)], [], M) (yxQr R)) {x0 : Nat} {x1 : Nat} {x2 : Int} {x3 : Nat} {x4 : Int} {x5 : Int} {M : xj_M} {R : Nat × xj_M} (hx2 : xin x2) (hx4 : xin x4) (hx5 : xin x5) (h : f162_17b  r17 f x0 x1 x2 x3 x4 x5 M = some R) : xW (d + 3) (none, d + 3, none) xr_162 (17, [(0, xR_ x0), (1, xR_ x1), (2, xI x2), (3, xR_ x3), (4, xI x4), (5, xI x5)], [], M) (yxQr R) := by
  unfold f162_17b at h
  refine xe_ldn (ins := .iload 5) (len := 2) (by decide +kernel) rfl rfl rfl rfl ?_
  refine xe_alr (ins := .aload_n 0) (len := 1) (i := 0) (by decide +kernel) rfl rfl rfl rfl rfl ?_
  obtain ⟨v180, e181, h⟩ := xbnd h
  refine xs_gr (i := 60) (c := 10) (k := 1) (by decide +kernel) (by decide) (by decide +kernel) e181 rfl ?_
  obtain ⟨v182, e183, h⟩ := xbnd h
  refine xs_gi (i := 79) (c := 3) (k := 1) (by decide +kernel) (by decide) (by decide +kernel) e183 rfl ?_
  refine xe_icmpge (off := 132) (t := 158) (by decide +kernel) (by decide) rfl hx5 (xq_gi_in e183) (fun c184 => ?_) (fun c184 => ?_)
  · rw [if_pos c184] at h
    refine xe_iconst (n := 0) (by decide +kernel) rfl ?_
    refine xe_isr (ins := .istore 5) (len := 2) (i := 5) (by decide +kernel) rfl rfl rfl (by decide) (xk_k (show ¬ (0 : Nat) = 5 by decide) (Or.inl (show ¬ (0 + 1 : Nat) = 5 by decide)) (xk_k (show ¬ (1 : Nat) = 5 by decide) (Or.inl (show ¬ (1 + 1 : Nat) = 5 by decide)) (xk_k (show ¬ (2 : Nat) = 5 by decide) (Or.inl (show ¬ (2 + 1 : Nat) = 5 by decide)) (xk_k (show ¬ (3 : Nat) = 5 by decide) (Or.inl (show ¬ (3 + 1 : Nat) = 5 by decide)) (xk_k (show ¬ (4 : Nat) = 5 by decide) (Or.inr (xI_cat _)) (xk_d rfl xk_n)))))) rfl ?_
    refine xW_lv rfl (l := [(0, xR_ (x0)), (1, xR_ (x1)), (2, xI (x2)), (3, xR_ (x3)), (4, xI (x4)), (5, xI (0))]) (xsb_of ⟨rfl, rfl, rfl, rfl, rfl, rfl, trivial⟩ (show [5, 0, 1, 2, 3, 4].Nodup by decide)) ?_
    exact k162_161   hx2 hx4 (show xin (0) by decide) h
  · rw [if_neg c184] at h
    refine xe_alr (ins := .aload_n 0) (len := 1) (i := 0) (by decide +kernel) rfl rfl rfl rfl rfl ?_
    obtain ⟨v185, e186, h⟩ := xbnd h
    refine xs_gi (i := 64) (c := 10) (k := 13) (by decide +kernel) (by decide) (by decide +kernel) e186 rfl ?_
    refine xe_ldn (ins := .iload 5) (len := 2) (by decide +kernel) rfl rfl rfl rfl ?_
    refine xe_ishr (by decide +kernel) rfl ?_
    refine xe_iconst (n := 1) (by decide +kernel) rfl ?_
    refine xe_iand (by decide +kernel) rfl ?_
    refine xe_ifne (off := 27) (t := 65) (by decide +kernel) (by decide) rfl (xin_of _) (fun c187 => ?_) (fun c187 => ?_)
    · rw [if_pos c187] at h
      refine xW_lv rfl (l := [(0, xR_ (x0)), (1, xR_ (x1)), (2, xI (x2)), (3, xR_ (x3)), (4, xI (x4)), (5, xI (x5))]) (xsb_of ⟨rfl, rfl, rfl, rfl, rfl, rfl, trivial⟩ (show [0, 1, 2, 3, 4, 5].Nodup by decide)) ?_
      exact k162_65  hr17 hx2 hx4 hx5 h
    · rw [if_neg c187] at h
      refine xe_alr (ins := .aload_n 0) (len := 1) (i := 0) (by decide +kernel) rfl rfl rfl rfl rfl ?_
      obtain ⟨v188, e189, h⟩ := xbnd h
      refine xs_gr (i := 11) (c := 10) (k := 2) (by decide +kernel) (by decide) (by decide +kernel) e189 rfl ?_
      refine xe_ldn (ins := .iload 5) (len := 2) (by decide +kernel) rfl rfl rfl rfl ?_
      obtain ⟨v190, e191, h⟩ := xbnd h
      refine xs_aald (by decide +kernel) hx5 e191 rfl ?_
      refine xe_alr (ins := .aload_n 0) (len := 1) (i := 0) (by decide +kernel) rfl rfl rfl rfl rfl ?_
      obtain ⟨v192, e193, h⟩ := xbnd h
      refine xs_gr (i := 17) (c := 10) (k := 3) (by decide +kernel) (by decide) (by decide +kernel) e193 rfl ?_
      refine xe_ldn (ins := .iload 5) (len := 2) (by decide +kernel) rfl rfl rfl rfl ?_
      obtain ⟨v194, e195, h⟩ := xbnd h
      refine xs_aald (by decide +kernel) hx5 e195 rfl ?_
      obtain ⟨_, e197, h⟩ := xbnd h
      obtain ⟨R198, e196, h⟩ := xbnd h
      refine xs_cv (i := 291) (j := 82) (ar := [xR_ (v194)]) (rest := []) (r2 := xr_82) (by decide +kernel) (by decide +kernel) (by decide +kernel) xr_82_e rfl (by decide) (by decide) e197 ?_
      refine xc_i (k82 (d := d + 2)   e196) rfl (fun hi199 => ?_)
      refine xe_ifeq (off := 7) (t := 65) (by decide +kernel) (by decide) rfl hi199 (fun c200 => ?_) (fun c200 => ?_)
      · rw [if_pos c200] at h
        refine xW_lv rfl (l := [(0, xR_ (x0)), (1, xR_ (x1)), (2, xI (x2)), (3, xR_ (x3)), (4, xI (x4)), (5, xI (x5))]) (xsb_of ⟨rfl, rfl, rfl, rfl, rfl, rfl, trivial⟩ (show [0, 1, 2, 3, 4, 5].Nodup by decide)) ?_
        exact k162_65  hr17 hx2 hx4 hx5 h
      · rw [if_neg c200] at h
        refine xe_iconst (n := 1) (by decide +kernel) rfl ?_
        refine xe_goto (off := 4) (nx := 66) (by decide +kernel) (by decide) ?_
        refine xW_lv rfl (l := [(0, xR_ (x0)), (1, xR_ (x1)), (2, xI (x2)), (3, xR_ (x3)), (4, xI (x4)), (5, xI (x5))]) (xsb_of ⟨rfl, rfl, rfl, rfl, rfl, rfl, trivial⟩ (show [0, 1, 2, 3, 4, 5].Nodup by decide)) ?_
        exact k162_66  hr17 hx2 hx4 hx5 (show xin (1) by decide) h
def f162_17   (f : Nat) : Nat → Nat → Nat → Int → Nat → Int → Int → xj_M → Option (Nat × xj_M)
  | 0, _, _, _, _, _, _, _ => none
  | n + 1, x0, x1, x2, x3, x4, x5, M => f162_17b   (f162_17   f n) f x0 x1 x2 x3 x4 x5 M
theorem k162_17 {d f : Nat}     : ∀ {n : Nat} {x0 : Nat} {x1 : Nat} {x2 : Int} {x3 : Nat} {x4 : Int} {x5 : Int} {M : xj_M} {R : Nat × xj_M}, xin x2 → xin x4 → xin x5 → f162_17   f n x0 x1 x2 x3 x4 x5 M = some R → xW (d + 3) (none, d + 3, none) xr_162 (17, [(0, xR_ x0), (1, xR_ x1), (2, xI x2), (3, xR_ x3), (4, xI x4), (5, xI x5)], [], M) (yxQr R) := by
  intro n
  induction n with
  | zero => intros; rename_i h; cases h
  | succ n ih => intros; rename_i h; exact k162_17b   ih (by assumption) (by assumption) (by assumption) h
def f162  (f : Nat) (a0 : Nat) (a1 : Nat) (a2 : Int) (M : xj_M) : Option (Nat × xj_M) := ((xq_gr 10 1 (a0) M).bind fun v201 => ((xq_gi 3 1 (v201) M).bind fun v203 => ((xq_an 5 (v203) M).bind fun p205 => f162_17   f f (a0) (a1) (a2) (p205.1) (0) (0) p205.2)))
theorem k162 {d f : Nat}   {a0 : Nat} {a1 : Nat} {a2 : Int} {M : xj_M} {R : Nat × xj_M} (ha2 : xin a2) (h : f162  f a0 a1 a2 M = some R) : xT (d + 4) 162 [xR_ a0, xR_ a1, xI a2] M (yxQr R) := by
  refine xT_m xr_162_e (X := (none, d + 3, none)) rfl (xa_1 (xR_cat _) (xa_1 (xR_cat _) (xa_1 (xI_cat _) xa_n))) (by decide) ?_
  unfold f162 at h
  refine xe_alr (ins := .aload_n 0) (len := 1) (i := 0) (by decide +kernel) rfl rfl rfl rfl rfl ?_
  obtain ⟨v201, e202, h⟩ := xbnd h
  refine xs_gr (i := 60) (c := 10) (k := 1) (by decide +kernel) (by decide) (by decide +kernel) e202 rfl ?_
  obtain ⟨v203, e204, h⟩ := xbnd h
  refine xs_gi (i := 79) (c := 3) (k := 1) (by decide +kernel) (by decide) (by decide +kernel) e204 rfl ?_
  obtain ⟨p205, e206, h⟩ := xbnd h
  refine xs_an (i := 9) (ci := 5) (x := p205.1) (M1 := p205.2) (by decide +kernel) (by decide +kernel) (xq_gi_in e204) e206 rfl ?_
  refine xe_asr (ins := .astore_n 3) (len := 1) (i := 3) (by decide +kernel) rfl rfl rfl (by decide) (xk_k (show ¬ (0 : Nat) = 3 by decide) (Or.inl (show ¬ (0 + 1 : Nat) = 3 by decide)) (xk_k (show ¬ (1 : Nat) = 3 by decide) (Or.inl (show ¬ (1 + 1 : Nat) = 3 by decide)) (xk_k (show ¬ (2 : Nat) = 3 by decide) (Or.inr (xI_cat _)) xk_n))) rfl ?_
  refine xe_iconst (n := 0) (by decide +kernel) rfl ?_
  refine xe_isr (ins := .istore 4) (len := 2) (i := 4) (by decide +kernel) rfl rfl rfl (by decide) (xk_k (show ¬ (3 : Nat) = 4 by decide) (Or.inr (xR_cat _)) (xk_k (show ¬ (0 : Nat) = 4 by decide) (Or.inl (show ¬ (0 + 1 : Nat) = 4 by decide)) (xk_k (show ¬ (1 : Nat) = 4 by decide) (Or.inl (show ¬ (1 + 1 : Nat) = 4 by decide)) (xk_k (show ¬ (2 : Nat) = 4 by decide) (Or.inl (show ¬ (2 + 1 : Nat) = 4 by decide)) xk_n)))) rfl ?_
  refine xe_iconst (n := 0) (by decide +kernel) rfl ?_
  refine xe_isr (ins := .istore 5) (len := 2) (i := 5) (by decide +kernel) rfl rfl rfl (by decide) (xk_k (show ¬ (4 : Nat) = 5 by decide) (Or.inr (xI_cat _)) (xk_k (show ¬ (3 : Nat) = 5 by decide) (Or.inl (show ¬ (3 + 1 : Nat) = 5 by decide)) (xk_k (show ¬ (0 : Nat) = 5 by decide) (Or.inl (show ¬ (0 + 1 : Nat) = 5 by decide)) (xk_k (show ¬ (1 : Nat) = 5 by decide) (Or.inl (show ¬ (1 + 1 : Nat) = 5 by decide)) (xk_k (show ¬ (2 : Nat) = 5 by decide) (Or.inl (show ¬ (2 + 1 : Nat) = 5 by decide)) xk_n))))) rfl ?_
  refine xW_lv rfl (l := [(0, xR_ (a0)), (1, xR_ (a1)), (2, xI (a2)), (3, xR_ (p205.1)), (4, xI (0)), (5, xI (0))]) (xsb_of ⟨rfl, rfl, rfl, rfl, rfl, rfl, trivial⟩ (show [5, 4, 3, 0, 1, 2].Nodup by decide)) ?_
  exact k162_17   ha2 (show xin (0) by decide) (show xin (0) by decide) h
-- ChangeHouse$Works.isGiven
def xr_165 : xj_mR := (10, yX10_isGiven, cX10_isGiven, 3, (Option.some Jvm.ClassFile.FieldType.boolean), 1, false, (8, 79), (1, 5))
set_option maxRecDepth 20000 in
theorem xr_165_e : xj_row 165 = some xr_165 := rfl
def f165_36  (r2 : Nat → Nat → Int → xj_M → Option (Int × xj_M)) (f : Nat) (x0 : Nat) (x1 : Nat) (x2 : Int) (M : xj_M) : Option (Int × xj_M) := r2 (x0) (x1) (xwr ((x2) + (1))) M
theorem k165_36 {d f : Nat}  {r2 : Nat → Nat → Int → xj_M → Option (Int × xj_M)}  (hr2 : ∀ {x0 : Nat} {x1 : Nat} {x2 : Int} {M : xj_M} {R : Int × xj_M}, xin x2 → r2 x0 x1 x2 M = some R → xW (d + 0) (none, d + 0, none) xr_165 (2, [(0, xR_ x0), (1, xR_ x1), (2, xI x2)], [], M) (xQi R)) {x0 : Nat} {x1 : Nat} {x2 : Int} {M : xj_M} {R : Int × xj_M} (hx2 : xin x2) (h : f165_36  r2 f x0 x1 x2 M = some R) : xW (d + 0) (none, d + 0, none) xr_165 (36, [(0, xR_ x0), (1, xR_ x1), (2, xI x2)], [], M) (xQi R) := by
  unfold f165_36 at h
  refine xe_iincr (i := 2) (n := 1) (by decide +kernel) (by decide) rfl (xk_k (show ¬ (0 : Nat) = 2 by decide) (Or.inl (show ¬ (0 + 1 : Nat) = 2 by decide)) (xk_k (show ¬ (1 : Nat) = 2 by decide) (Or.inr (xR_cat _)) (xk_d rfl xk_n))) rfl ?_
  refine xe_goto (off := -37) (nx := 2) (by decide +kernel) (by decide) ?_
  refine xW_lv rfl (l := [(0, xR_ (x0)), (1, xR_ (x1)), (2, xI (xwr ((x2) + (1))))]) (xsb_of ⟨rfl, rfl, rfl, trivial⟩ (show [2, 0, 1].Nodup by decide)) ?_
  exact hr2 (xin_wr _) h
def f165_2b  (r2 : Nat → Nat → Int → xj_M → Option (Int × xj_M)) (f : Nat) (x0 : Nat) (x1 : Nat) (x2 : Int) (M : xj_M) : Option (Int × xj_M) := ((xq_gi 6 2 (x1) M).bind fun v101 => (if (v101) ≤ (x2) then (some (1, M)) else ((xq_gi 6 3 (x1) M).bind fun v104 => (if (x2) = (v104) then f165_36  r2 f (x0) (x1) (x2) M else ((xq_gr 10 9 (x0) M).bind fun v107 => ((xq_al (v107) (x2) M).bind fun v109 => ((xq_gr 10 11 (x0) M).bind fun v111 => ((xq_al (v111) (x2) M).bind fun v113 => (if (v109) = (v113) then f165_36  r2 f (x0) (x1) (x2) M else (some (0, M)))))))))))
theorem k165_2b {d f : Nat}  {r2 : Nat → Nat → Int → xj_M → Option (Int × xj_M)}  (hr2 : ∀ {x0 : Nat} {x1 : Nat} {x2 : Int} {M : xj_M} {R : Int × xj_M}, xin x2 → r2 x0 x1 x2 M = some R → xW (d + 0) (none, d + 0, none) xr_165 (2, [(0, xR_ x0), (1, xR_ x1), (2, xI x2)], [], M) (xQi R)) {x0 : Nat} {x1 : Nat} {x2 : Int} {M : xj_M} {R : Int × xj_M} (hx2 : xin x2) (h : f165_2b  r2 f x0 x1 x2 M = some R) : xW (d + 0) (none, d + 0, none) xr_165 (2, [(0, xR_ x0), (1, xR_ x1), (2, xI x2)], [], M) (xQi R) := by
  unfold f165_2b at h
  refine xe_ldn (ins := .iload_n 2) (len := 1) (by decide +kernel) rfl rfl rfl rfl ?_
  refine xe_alr (ins := .aload_n 1) (len := 1) (i := 1) (by decide +kernel) rfl rfl rfl rfl rfl ?_
  obtain ⟨v101, e102, h⟩ := xbnd h
  refine xs_gi (i := 245) (c := 6) (k := 2) (by decide +kernel) (by decide) (by decide +kernel) e102 rfl ?_
  refine xe_icmpge (off := 35) (t := 42) (by decide +kernel) (by decide) rfl hx2 (xq_gi_in e102) (fun c103 => ?_) (fun c103 => ?_)
  · rw [if_pos c103] at h
    refine xe_iconst (n := 1) (by decide +kernel) rfl ?_
    cases h
    exact xe_ret_i (ty := .boolean) (by decide +kernel) rfl (by decide) ⟨rfl, rfl, (show xin (1) by decide)⟩
  · rw [if_neg c103] at h
    refine xe_ldn (ins := .iload_n 2) (len := 1) (by decide +kernel) rfl rfl rfl rfl ?_
    refine xe_alr (ins := .aload_n 1) (len := 1) (i := 1) (by decide +kernel) rfl rfl rfl rfl rfl ?_
    obtain ⟨v104, e105, h⟩ := xbnd h
    refine xs_gi (i := 189) (c := 6) (k := 3) (by decide +kernel) (by decide) (by decide +kernel) e105 rfl ?_
    refine xe_icmpeq (off := 21) (t := 36) (by decide +kernel) (by decide) rfl hx2 (xq_gi_in e105) (fun c106 => ?_) (fun c106 => ?_)
    · rw [if_pos c106] at h
      refine xW_lv rfl (l := [(0, xR_ (x0)), (1, xR_ (x1)), (2, xI (x2))]) (xsb_of ⟨rfl, rfl, rfl, trivial⟩ (show [0, 1, 2].Nodup by decide)) ?_
      exact k165_36  hr2 hx2 h
    · rw [if_neg c106] at h
      refine xe_alr (ins := .aload_n 0) (len := 1) (i := 0) (by decide +kernel) rfl rfl rfl rfl rfl ?_
      obtain ⟨v107, e108, h⟩ := xbnd h
      refine xs_gr (i := 40) (c := 10) (k := 9) (by decide +kernel) (by decide) (by decide +kernel) e108 rfl ?_
      refine xe_ldn (ins := .iload_n 2) (len := 1) (by decide +kernel) rfl rfl rfl rfl ?_
      obtain ⟨v109, e110, h⟩ := xbnd h
      refine xs_lald (by decide +kernel) hx2 e110 rfl ?_
      refine xe_alr (ins := .aload_n 0) (len := 1) (i := 0) (by decide +kernel) rfl rfl rfl rfl rfl ?_
      obtain ⟨v111, e112, h⟩ := xbnd h
      refine xs_gr (i := 46) (c := 10) (k := 11) (by decide +kernel) (by decide) (by decide +kernel) e112 rfl ?_
      refine xe_ldn (ins := .iload_n 2) (len := 1) (by decide +kernel) rfl rfl rfl rfl ?_
      obtain ⟨v113, e114, h⟩ := xbnd h
      refine xs_lald (by decide +kernel) hx2 e114 rfl ?_
      refine xe_lcmp (by decide +kernel) rfl (xq_al_in e110) (xq_al_in e114) ?_
      refine xe_ifeq (off := 5) (t := 36) (by decide +kernel) (by decide) rfl (xin_cmp8 _ _) (fun c115 => ?_) (fun c115 => ?_)
      · have c115 := xcmp8_eq.mp c115; rw [if_pos c115] at h
        refine xW_lv rfl (l := [(0, xR_ (x0)), (1, xR_ (x1)), (2, xI (x2))]) (xsb_of ⟨rfl, rfl, rfl, trivial⟩ (show [0, 1, 2].Nodup by decide)) ?_
        exact k165_36  hr2 hx2 h
      · have c115 := (not_congr xcmp8_eq).mp c115; rw [if_neg c115] at h
        refine xe_iconst (n := 0) (by decide +kernel) rfl ?_
        cases h
        exact xe_ret_i (ty := .boolean) (by decide +kernel) rfl (by decide) ⟨rfl, rfl, (show xin (0) by decide)⟩
def f165_2   (f : Nat) : Nat → Nat → Nat → Int → xj_M → Option (Int × xj_M)
  | 0, _, _, _, _ => none
  | n + 1, x0, x1, x2, M => f165_2b   (f165_2   f n) f x0 x1 x2 M
theorem k165_2 {d f : Nat}     : ∀ {n : Nat} {x0 : Nat} {x1 : Nat} {x2 : Int} {M : xj_M} {R : Int × xj_M}, xin x2 → f165_2   f n x0 x1 x2 M = some R → xW (d + 0) (none, d + 0, none) xr_165 (2, [(0, xR_ x0), (1, xR_ x1), (2, xI x2)], [], M) (xQi R) := by
  intro n
  induction n with
  | zero => intros; rename_i h; cases h
  | succ n ih => intros; rename_i h; exact k165_2b   ih (by assumption) h
def f165  (f : Nat) (a0 : Nat) (a1 : Nat) (M : xj_M) : Option (Int × xj_M) := f165_2   f f (a0) (a1) (0) M
theorem k165 {d f : Nat}   {a0 : Nat} {a1 : Nat} {M : xj_M} {R : Int × xj_M}  (h : f165  f a0 a1 M = some R) : xT (d + 1) 165 [xR_ a0, xR_ a1] M (xQi R) := by
  refine xT_m xr_165_e (X := (none, d + 0, none)) rfl (xa_1 (xR_cat _) (xa_1 (xR_cat _) xa_n)) (by decide) ?_
  unfold f165 at h
  refine xe_iconst (n := 0) (by decide +kernel) rfl ?_
  refine xe_isr (ins := .istore_n 2) (len := 1) (i := 2) (by decide +kernel) rfl rfl rfl (by decide) (xk_k (show ¬ (0 : Nat) = 2 by decide) (Or.inl (show ¬ (0 + 1 : Nat) = 2 by decide)) (xk_k (show ¬ (1 : Nat) = 2 by decide) (Or.inr (xR_cat _)) xk_n)) rfl ?_
  refine xW_lv rfl (l := [(0, xR_ (a0)), (1, xR_ (a1)), (2, xI (0))]) (xsb_of ⟨rfl, rfl, rfl, trivial⟩ (show [2, 0, 1].Nodup by decide)) ?_
  exact k165_2   (show xin (0) by decide) h
-- ChangeHouse$Works.isBelowBest
def xr_166 : xj_mR := (10, yX10_isBelowBest, cX10_isBelowBest, 3, (Option.some Jvm.ClassFile.FieldType.boolean), 1, false, (8, 83), (1, 5))
set_option maxRecDepth 20000 in
theorem xr_166_e : xj_row 166 = some xr_166 := rfl
def f166_50   (f : Nat) (y0 : Int) (M : xj_M) : Option (Int × xj_M) := (if (y0) = 0 ∨ (y0) = 1 then some (y0, M) else none)
theorem k166_50 {d f : Nat}     {y0 : Int} {M : xj_M} {R : Int × xj_M} (hy0 : xin y0) (h : f166_50   f y0 M = some R) : xW (d + 0) (none, d + 0, none) xr_166 (50, [], [xI y0], M) (xQi R) := by
  unfold f166_50 at h
  by_cases c101 : (y0) = 0 ∨ (y0) = 1
  · rw [if_pos c101] at h; cases h; exact xe_ret_i (ty := .boolean) (by decide +kernel) rfl (xbool c101) ⟨rfl, rfl, hy0⟩
  · rw [if_neg c101] at h; cases h
def f166_2b  (r2 : Nat → Int → Int → xj_M → Option (Int × xj_M)) (f : Nat) (x0 : Nat) (x1 : Int) (x2 : Int) (M : xj_M) : Option (Int × xj_M) := (if (x1) ≤ (x2) then (some (0, M)) else ((xq_gr 10 0 (x0) M).bind fun v103 => ((xq_gr 9 0 (v103) M).bind fun v105 => ((xq_al (v105) (x2) M).bind fun v107 => ((xq_gr 10 12 (x0) M).bind fun v109 => ((xq_al (v109) (x2) M).bind fun v111 => (if (v107) = (v111) then r2 (x0) (x1) (xwr ((x2) + (1))) M else ((xq_gr 10 0 (x0) M).bind fun v114 => ((xq_gr 9 0 (v114) M).bind fun v116 => ((xq_al (v116) (x2) M).bind fun v118 => ((xq_gr 10 12 (x0) M).bind fun v120 => ((xq_al (v120) (x2) M).bind fun v122 => (if (v122) ≤ (v118) then f166_50   f (0) M else f166_50   f (1) M)))))))))))))
theorem k166_2b {d f : Nat}  {r2 : Nat → Int → Int → xj_M → Option (Int × xj_M)}  (hr2 : ∀ {x0 : Nat} {x1 : Int} {x2 : Int} {M : xj_M} {R : Int × xj_M}, xin x1 → xin x2 → r2 x0 x1 x2 M = some R → xW (d + 0) (none, d + 0, none) xr_166 (2, [(0, xR_ x0), (1, xI x1), (2, xI x2)], [], M) (xQi R)) {x0 : Nat} {x1 : Int} {x2 : Int} {M : xj_M} {R : Int × xj_M} (hx1 : xin x1) (hx2 : xin x2) (h : f166_2b  r2 f x0 x1 x2 M = some R) : xW (d + 0) (none, d + 0, none) xr_166 (2, [(0, xR_ x0), (1, xI x1), (2, xI x2)], [], M) (xQi R) := by
  unfold f166_2b at h
  refine xe_ldn (ins := .iload_n 2) (len := 1) (by decide +kernel) rfl rfl rfl rfl ?_
  refine xe_ldn (ins := .iload_n 1) (len := 1) (by decide +kernel) rfl rfl rfl rfl ?_
  refine xe_icmpge (off := 53) (t := 57) (by decide +kernel) (by decide) rfl hx2 hx1 (fun c102 => ?_) (fun c102 => ?_)
  · rw [if_pos c102] at h
    refine xe_iconst (n := 0) (by decide +kernel) rfl ?_
    cases h
    exact xe_ret_i (ty := .boolean) (by decide +kernel) rfl (by decide) ⟨rfl, rfl, (show xin (0) by decide)⟩
  · rw [if_neg c102] at h
    refine xe_alr (ins := .aload_n 0) (len := 1) (i := 0) (by decide +kernel) rfl rfl rfl rfl rfl ?_
    obtain ⟨v103, e104, h⟩ := xbnd h
    refine xs_gr (i := 56) (c := 10) (k := 0) (by decide +kernel) (by decide) (by decide +kernel) e104 rfl ?_
    obtain ⟨v105, e106, h⟩ := xbnd h
    refine xs_gr (i := 251) (c := 9) (k := 0) (by decide +kernel) (by decide) (by decide +kernel) e106 rfl ?_
    refine xe_ldn (ins := .iload_n 2) (len := 1) (by decide +kernel) rfl rfl rfl rfl ?_
    obtain ⟨v107, e108, h⟩ := xbnd h
    refine xs_lald (by decide +kernel) hx2 e108 rfl ?_
    refine xe_alr (ins := .aload_n 0) (len := 1) (i := 0) (by decide +kernel) rfl rfl rfl rfl rfl ?_
    obtain ⟨v109, e110, h⟩ := xbnd h
    refine xs_gr (i := 49) (c := 10) (k := 12) (by decide +kernel) (by decide) (by decide +kernel) e110 rfl ?_
    refine xe_ldn (ins := .iload_n 2) (len := 1) (by decide +kernel) rfl rfl rfl rfl ?_
    obtain ⟨v111, e112, h⟩ := xbnd h
    refine xs_lald (by decide +kernel) hx2 e112 rfl ?_
    refine xe_lcmp (by decide +kernel) rfl (xq_al_in e108) (xq_al_in e112) ?_
    refine xe_ifeq (off := 28) (t := 51) (by decide +kernel) (by decide) rfl (xin_cmp8 _ _) (fun c113 => ?_) (fun c113 => ?_)
    · have c113 := xcmp8_eq.mp c113; rw [if_pos c113] at h
      refine xe_iincr (i := 2) (n := 1) (by decide +kernel) (by decide) rfl (xk_k (show ¬ (0 : Nat) = 2 by decide) (Or.inl (show ¬ (0 + 1 : Nat) = 2 by decide)) (xk_k (show ¬ (1 : Nat) = 2 by decide) (Or.inr (xI_cat _)) (xk_d rfl xk_n))) rfl ?_
      refine xe_goto (off := -52) (nx := 2) (by decide +kernel) (by decide) ?_
      refine xW_lv rfl (l := [(0, xR_ (x0)), (1, xI (x1)), (2, xI (xwr ((x2) + (1))))]) (xsb_of ⟨rfl, rfl, rfl, trivial⟩ (show [2, 0, 1].Nodup by decide)) ?_
      exact hr2 hx1 (xin_wr _) h
    · have c113 := (not_congr xcmp8_eq).mp c113; rw [if_neg c113] at h
      refine xe_alr (ins := .aload_n 0) (len := 1) (i := 0) (by decide +kernel) rfl rfl rfl rfl rfl ?_
      obtain ⟨v114, e115, h⟩ := xbnd h
      refine xs_gr (i := 56) (c := 10) (k := 0) (by decide +kernel) (by decide) (by decide +kernel) e115 rfl ?_
      obtain ⟨v116, e117, h⟩ := xbnd h
      refine xs_gr (i := 251) (c := 9) (k := 0) (by decide +kernel) (by decide) (by decide +kernel) e117 rfl ?_
      refine xe_ldn (ins := .iload_n 2) (len := 1) (by decide +kernel) rfl rfl rfl rfl ?_
      obtain ⟨v118, e119, h⟩ := xbnd h
      refine xs_lald (by decide +kernel) hx2 e119 rfl ?_
      refine xe_alr (ins := .aload_n 0) (len := 1) (i := 0) (by decide +kernel) rfl rfl rfl rfl rfl ?_
      obtain ⟨v120, e121, h⟩ := xbnd h
      refine xs_gr (i := 49) (c := 10) (k := 12) (by decide +kernel) (by decide) (by decide +kernel) e121 rfl ?_
      refine xe_ldn (ins := .iload_n 2) (len := 1) (by decide +kernel) rfl rfl rfl rfl ?_
      obtain ⟨v122, e123, h⟩ := xbnd h
      refine xs_lald (by decide +kernel) hx2 e123 rfl ?_
      refine xe_lcmp (by decide +kernel) rfl (xq_al_in e119) (xq_al_in e123) ?_
      refine xe_ifge (off := 7) (t := 49) (by decide +kernel) (by decide) rfl (xin_cmp8 _ _) (fun c124 => ?_) (fun c124 => ?_)
      · have c124 := xcmp8_ge.mp c124; rw [if_pos c124] at h
        refine xe_iconst (n := 0) (by decide +kernel) rfl ?_
        refine xW_lv rfl (l := []) (xsb_of trivial (show [0, 1, 2].Nodup by decide)) ?_
        exact k166_50   (show xin (0) by decide) h
      · have c124 := (not_congr xcmp8_ge).mp c124; rw [if_neg c124] at h
        refine xe_iconst (n := 1) (by decide +kernel) rfl ?_
        refine xe_goto (off := 4) (nx := 50) (by decide +kernel) (by decide) ?_
        refine xW_lv rfl (l := []) (xsb_of trivial (show [0, 1, 2].Nodup by decide)) ?_
        exact k166_50   (show xin (1) by decide) h
def f166_2   (f : Nat) : Nat → Nat → Int → Int → xj_M → Option (Int × xj_M)
  | 0, _, _, _, _ => none
  | n + 1, x0, x1, x2, M => f166_2b   (f166_2   f n) f x0 x1 x2 M
theorem k166_2 {d f : Nat}     : ∀ {n : Nat} {x0 : Nat} {x1 : Int} {x2 : Int} {M : xj_M} {R : Int × xj_M}, xin x1 → xin x2 → f166_2   f n x0 x1 x2 M = some R → xW (d + 0) (none, d + 0, none) xr_166 (2, [(0, xR_ x0), (1, xI x1), (2, xI x2)], [], M) (xQi R) := by
  intro n
  induction n with
  | zero => intros; rename_i h; cases h
  | succ n ih => intros; rename_i h; exact k166_2b   ih (by assumption) (by assumption) h
def f166  (f : Nat) (a0 : Nat) (a1 : Int) (M : xj_M) : Option (Int × xj_M) := f166_2   f f (a0) (a1) (0) M
theorem k166 {d f : Nat}   {a0 : Nat} {a1 : Int} {M : xj_M} {R : Int × xj_M} (ha1 : xin a1) (h : f166  f a0 a1 M = some R) : xT (d + 1) 166 [xR_ a0, xI a1] M (xQi R) := by
  refine xT_m xr_166_e (X := (none, d + 0, none)) rfl (xa_1 (xR_cat _) (xa_1 (xI_cat _) xa_n)) (by decide) ?_
  unfold f166 at h
  refine xe_iconst (n := 0) (by decide +kernel) rfl ?_
  refine xe_isr (ins := .istore_n 2) (len := 1) (i := 2) (by decide +kernel) rfl rfl rfl (by decide) (xk_k (show ¬ (0 : Nat) = 2 by decide) (Or.inl (show ¬ (0 + 1 : Nat) = 2 by decide)) (xk_k (show ¬ (1 : Nat) = 2 by decide) (Or.inr (xI_cat _)) xk_n)) rfl ?_
  refine xW_lv rfl (l := [(0, xR_ (a0)), (1, xI (a1)), (2, xI (0))]) (xsb_of ⟨rfl, rfl, rfl, trivial⟩ (show [2, 0, 1].Nodup by decide)) ?_
  exact k166_2   ha1 (show xin (0) by decide) h
-- ChangeHouse.feed
def xr_169 : xj_mR := (11, yX11_feed, cX11_feed, 6, (Option.some Jvm.ClassFile.FieldType.boolean), 5, false, (3, 106), (1, 1))
set_option maxRecDepth 20000 in
theorem xr_169_e : xj_row 169 = some xr_169 := rfl
def f169  (f : Nat) (a0 : Nat) (a1 : Int) (a2 : Int) (a3 : Int) (a4 : Int) (a5 : Int) (M : xj_M) : Option (Int × xj_M) := ((xq_gr 11 0 (a0) M).bind fun v101 => ((xq_gi 8 1 (v101) M).bind fun v103 => (if (xwr ((v103) + (20))) ≤ (3000) then ((xq_gr 11 0 (a0) M).bind fun v106 => ((xq_is 8 (v106) M).bind fun _ => ((f111  f (v106) (a1) M).bind fun M110 => ((xq_gr 11 0 (a0) M110).bind fun v112 => ((xq_is 8 (v112) M110).bind fun _ => ((f111  f (v112) (a2) M110).bind fun M116 => ((xq_gr 11 0 (a0) M116).bind fun v118 => ((xq_is 8 (v118) M116).bind fun _ => ((f111  f (v118) (a3) M116).bind fun M122 => ((xq_gr 11 0 (a0) M122).bind fun v124 => ((xq_is 8 (v124) M122).bind fun _ => ((f111  f (v124) (a4) M122).bind fun M128 => ((xq_gr 11 0 (a0) M128).bind fun v130 => ((xq_is 8 (v130) M128).bind fun _ => ((f111  f (v130) (a5) M128).bind fun M134 => (some (1, M134))))))))))))))))) else (some (0, M)))))
theorem k169 {d f : Nat}   {a0 : Nat} {a1 : Int} {a2 : Int} {a3 : Int} {a4 : Int} {a5 : Int} {M : xj_M} {R : Int × xj_M} (ha1 : xin a1) (ha2 : xin a2) (ha3 : xin a3) (ha4 : xin a4) (ha5 : xin a5) (h : f169  f a0 a1 a2 a3 a4 a5 M = some R) : xT (d + 2) 169 [xR_ a0, xI a1, xI a2, xI a3, xI a4, xI a5] M (xQi R) := by
  refine xT_m xr_169_e (X := (none, d + 1, none)) rfl (xa_1 (xR_cat _) (xa_1 (xI_cat _) (xa_1 (xI_cat _) (xa_1 (xI_cat _) (xa_1 (xI_cat _) (xa_1 (xI_cat _) xa_n)))))) (by decide) ?_
  unfold f169 at h
  refine xe_alr (ins := .aload_n 0) (len := 1) (i := 0) (by decide +kernel) rfl rfl rfl rfl rfl ?_
  obtain ⟨v101, e102, h⟩ := xbnd h
  refine xs_gr (i := 10) (c := 11) (k := 0) (by decide +kernel) (by decide) (by decide +kernel) e102 rfl ?_
  obtain ⟨v103, e104, h⟩ := xbnd h
  refine xs_gi (i := 107) (c := 8) (k := 1) (by decide +kernel) (by decide) (by decide +kernel) e104 rfl ?_
  refine xe_bipush (n := 20) (by decide +kernel) (by decide) rfl ?_
  refine xe_iadd (by decide +kernel) rfl ?_
  refine xe_sipush (n := 3000) (by decide +kernel) (by decide) rfl ?_
  refine xe_icmple (off := 5) (t := 18) (by decide +kernel) (by decide) rfl (xin_wr _) (show xin (3000) by decide) (fun c105 => ?_) (fun c105 => ?_)
  · rw [if_pos c105] at h
    refine xe_alr (ins := .aload_n 0) (len := 1) (i := 0) (by decide +kernel) rfl rfl rfl rfl rfl ?_
    obtain ⟨v106, e107, h⟩ := xbnd h
    refine xs_gr (i := 10) (c := 11) (k := 0) (by decide +kernel) (by decide) (by decide +kernel) e107 rfl ?_
    refine xe_ldn (ins := .iload_n 1) (len := 1) (by decide +kernel) rfl rfl rfl rfl ?_
    obtain ⟨_, e109, h⟩ := xbnd h
    obtain ⟨M110, e108, h⟩ := xbnd h
    refine xs_cv (i := 110) (j := 111) (ar := [xI (a1)]) (rest := []) (r2 := xr_111) (by decide +kernel) (by decide +kernel) (by decide +kernel) xr_111_e rfl (by decide) (by decide) e109 ?_
    refine xc_v (k111 (d := d + 0)  ha1 e108) rfl ?_
    refine xe_alr (ins := .aload_n 0) (len := 1) (i := 0) (by decide +kernel) rfl rfl rfl rfl rfl ?_
    obtain ⟨v112, e113, h⟩ := xbnd h
    refine xs_gr (i := 10) (c := 11) (k := 0) (by decide +kernel) (by decide) (by decide +kernel) e113 rfl ?_
    refine xe_ldn (ins := .iload_n 2) (len := 1) (by decide +kernel) rfl rfl rfl rfl ?_
    obtain ⟨_, e115, h⟩ := xbnd h
    obtain ⟨M116, e114, h⟩ := xbnd h
    refine xs_cv (i := 110) (j := 111) (ar := [xI (a2)]) (rest := []) (r2 := xr_111) (by decide +kernel) (by decide +kernel) (by decide +kernel) xr_111_e rfl (by decide) (by decide) e115 ?_
    refine xc_v (k111 (d := d + 0)  ha2 e114) rfl ?_
    refine xe_alr (ins := .aload_n 0) (len := 1) (i := 0) (by decide +kernel) rfl rfl rfl rfl rfl ?_
    obtain ⟨v118, e119, h⟩ := xbnd h
    refine xs_gr (i := 10) (c := 11) (k := 0) (by decide +kernel) (by decide) (by decide +kernel) e119 rfl ?_
    refine xe_ldn (ins := .iload_n 3) (len := 1) (by decide +kernel) rfl rfl rfl rfl ?_
    obtain ⟨_, e121, h⟩ := xbnd h
    obtain ⟨M122, e120, h⟩ := xbnd h
    refine xs_cv (i := 110) (j := 111) (ar := [xI (a3)]) (rest := []) (r2 := xr_111) (by decide +kernel) (by decide +kernel) (by decide +kernel) xr_111_e rfl (by decide) (by decide) e121 ?_
    refine xc_v (k111 (d := d + 0)  ha3 e120) rfl ?_
    refine xe_alr (ins := .aload_n 0) (len := 1) (i := 0) (by decide +kernel) rfl rfl rfl rfl rfl ?_
    obtain ⟨v124, e125, h⟩ := xbnd h
    refine xs_gr (i := 10) (c := 11) (k := 0) (by decide +kernel) (by decide) (by decide +kernel) e125 rfl ?_
    refine xe_ldn (ins := .iload 4) (len := 2) (by decide +kernel) rfl rfl rfl rfl ?_
    obtain ⟨_, e127, h⟩ := xbnd h
    obtain ⟨M128, e126, h⟩ := xbnd h
    refine xs_cv (i := 110) (j := 111) (ar := [xI (a4)]) (rest := []) (r2 := xr_111) (by decide +kernel) (by decide +kernel) (by decide +kernel) xr_111_e rfl (by decide) (by decide) e127 ?_
    refine xc_v (k111 (d := d + 0)  ha4 e126) rfl ?_
    refine xe_alr (ins := .aload_n 0) (len := 1) (i := 0) (by decide +kernel) rfl rfl rfl rfl rfl ?_
    obtain ⟨v130, e131, h⟩ := xbnd h
    refine xs_gr (i := 10) (c := 11) (k := 0) (by decide +kernel) (by decide) (by decide +kernel) e131 rfl ?_
    refine xe_ldn (ins := .iload 5) (len := 2) (by decide +kernel) rfl rfl rfl rfl ?_
    obtain ⟨_, e133, h⟩ := xbnd h
    obtain ⟨M134, e132, h⟩ := xbnd h
    refine xs_cv (i := 110) (j := 111) (ar := [xI (a5)]) (rest := []) (r2 := xr_111) (by decide +kernel) (by decide +kernel) (by decide +kernel) xr_111_e rfl (by decide) (by decide) e133 ?_
    refine xc_v (k111 (d := d + 0)  ha5 e132) rfl ?_
    refine xe_iconst (n := 1) (by decide +kernel) rfl ?_
    cases h
    exact xe_ret_i (ty := .boolean) (by decide +kernel) rfl (by decide) ⟨rfl, rfl, (show xin (1) by decide)⟩
  · rw [if_neg c105] at h
    refine xe_iconst (n := 0) (by decide +kernel) rfl ?_
    cases h
    exact xe_ret_i (ty := .boolean) (by decide +kernel) rfl (by decide) ⟨rfl, rfl, (show xin (0) by decide)⟩
-- ChangeHouse.end
def xr_170 : xj_mR := (11, yX11_end, cX11_end, 2, (Option.some Jvm.ClassFile.FieldType.boolean), 1, false, (3, 114), (1, 1))
set_option maxRecDepth 20000 in
theorem xr_170_e : xj_row 170 = some xr_170 := rfl
def f170_15   (f : Nat)  (M : xj_M) : Option (Int × xj_M) := (some (0, M))
theorem k170_15 {d f : Nat}      {M : xj_M} {R : Int × xj_M}  (h : f170_15   f  M = some R) : xW (d + 0) (none, d + 0, none) xr_170 (15, [], [], M) (xQi R) := by
  unfold f170_15 at h
  refine xe_iconst (n := 0) (by decide +kernel) rfl ?_
  cases h
  exact xe_ret_i (ty := .boolean) (by decide +kernel) rfl (by decide) ⟨rfl, rfl, (show xin (0) by decide)⟩
def f170  (f : Nat) (a0 : Nat) (a1 : Int) (M : xj_M) : Option (Int × xj_M) := (if (a1) < 0 then f170_15   f  M else ((xq_gr 11 0 (a0) M).bind fun v102 => ((xq_gi 8 1 (v102) M).bind fun v104 => (if (a1) ≤ (v104) then ((xq_gr 11 0 (a0) M).bind fun v107 => ((xq_pi 8 1 (v107) (a1) M).bind fun M109 => (some (1, M109)))) else f170_15   f  M))))
theorem k170 {d f : Nat}   {a0 : Nat} {a1 : Int} {M : xj_M} {R : Int × xj_M} (ha1 : xin a1) (h : f170  f a0 a1 M = some R) : xT (d + 1) 170 [xR_ a0, xI a1] M (xQi R) := by
  refine xT_m xr_170_e (X := (none, d + 0, none)) rfl (xa_1 (xR_cat _) (xa_1 (xI_cat _) xa_n)) (by decide) ?_
  unfold f170 at h
  refine xe_ldn (ins := .iload_n 1) (len := 1) (by decide +kernel) rfl rfl rfl rfl ?_
  refine xe_iflt (off := 14) (t := 15) (by decide +kernel) (by decide) rfl ha1 (fun c101 => ?_) (fun c101 => ?_)
  · rw [if_pos c101] at h
    refine xW_lv rfl (l := []) (xsb_of trivial (show [0, 1].Nodup by decide)) ?_
    exact k170_15    h
  · rw [if_neg c101] at h
    refine xe_ldn (ins := .iload_n 1) (len := 1) (by decide +kernel) rfl rfl rfl rfl ?_
    refine xe_alr (ins := .aload_n 0) (len := 1) (i := 0) (by decide +kernel) rfl rfl rfl rfl rfl ?_
    obtain ⟨v102, e103, h⟩ := xbnd h
    refine xs_gr (i := 10) (c := 11) (k := 0) (by decide +kernel) (by decide) (by decide +kernel) e103 rfl ?_
    obtain ⟨v104, e105, h⟩ := xbnd h
    refine xs_gi (i := 107) (c := 8) (k := 1) (by decide +kernel) (by decide) (by decide +kernel) e105 rfl ?_
    refine xe_icmple (off := 5) (t := 17) (by decide +kernel) (by decide) rfl ha1 (xq_gi_in e105) (fun c106 => ?_) (fun c106 => ?_)
    · rw [if_pos c106] at h
      refine xe_alr (ins := .aload_n 0) (len := 1) (i := 0) (by decide +kernel) rfl rfl rfl rfl rfl ?_
      obtain ⟨v107, e108, h⟩ := xbnd h
      refine xs_gr (i := 10) (c := 11) (k := 0) (by decide +kernel) (by decide) (by decide +kernel) e108 rfl ?_
      refine xe_ldn (ins := .iload_n 1) (len := 1) (by decide +kernel) rfl rfl rfl rfl ?_
      obtain ⟨M109, e110, h⟩ := xbnd h
      refine xs_p (i := 107) (c := 8) (k := 1) (by decide +kernel) (by decide +kernel) (by decide +kernel) e110 rfl ?_
      refine xe_iconst (n := 1) (by decide +kernel) rfl ?_
      cases h
      exact xe_ret_i (ty := .boolean) (by decide +kernel) rfl (by decide) ⟨rfl, rfl, (show xin (1) by decide)⟩
    · rw [if_neg c106] at h
      refine xW_lv rfl (l := []) (xsb_of trivial (show [0, 1].Nodup by decide)) ?_
      exact k170_15    h
-- ChangeHouse.place
def xr_171 : xj_mR := (11, yX11_place, cX11_place, 1, (Option.some Jvm.ClassFile.FieldType.int), 0, false, (5, 235), (1, 1))
set_option maxRecDepth 20000 in
theorem xr_171_e : xj_row 171 = some xr_171 := rfl
def f171  (f : Nat) (a0 : Nat) (M : xj_M) : Option (Int × xj_M) := ((xq_gi 11 9 (a0) M).bind fun v101 => (some (v101, M)))
theorem k171 {d f : Nat}   {a0 : Nat} {M : xj_M} {R : Int × xj_M}  (h : f171  f a0 M = some R) : xT (d + 1) 171 [xR_ a0] M (xQi R) := by
  refine xT_m xr_171_e (X := (none, d + 0, none)) rfl (xa_1 (xR_cat _) xa_n) (by decide) ?_
  unfold f171 at h
  refine xe_alr (ins := .aload_n 0) (len := 1) (i := 0) (by decide +kernel) rfl rfl rfl rfl rfl ?_
  obtain ⟨v101, e102, h⟩ := xbnd h
  refine xs_gi (i := 54) (c := 11) (k := 9) (by decide +kernel) (by decide) (by decide +kernel) e102 rfl ?_
  cases h
  exact xe_ret_i (ty := .int) (by decide +kernel) rfl rfl ⟨rfl, rfl, (xq_gi_in e102)⟩
-- ChangeHouse.forget
def xr_172 : xj_mR := (11, yX11_forget, cX11_forget, 2, (Option.some Jvm.ClassFile.FieldType.int), 0, false, (6, 65), (1, 1))
set_option maxRecDepth 20000 in
theorem xr_172_e : xj_row 172 = some xr_172 := rfl
def f172  (f : Nat) (a0 : Nat) (M : xj_M) : Option (Int × xj_M) := ((xq_gr 11 5 (a0) M).bind fun v101 => ((xq_gi 11 6 (a0) M).bind fun v103 => ((xq_ar (v101) (v103) M).bind fun v105 => ((xq_gi 1 8 (v105) M).bind fun v107 => ((xq_gr 11 5 (a0) M).bind fun v109 => ((xq_gi 11 6 (a0) M).bind fun v111 => ((xq_ar (v109) (v111) M).bind fun v113 => ((xq_is 1 (v113) M).bind fun _ => ((f7  f (v113) M).bind fun M117 => (some (v107, M117)))))))))))
theorem k172 {d f : Nat}   {a0 : Nat} {M : xj_M} {R : Int × xj_M}  (h : f172  f a0 M = some R) : xT (d + 2) 172 [xR_ a0] M (xQi R) := by
  refine xT_m xr_172_e (X := (none, d + 1, none)) rfl (xa_1 (xR_cat _) xa_n) (by decide) ?_
  unfold f172 at h
  refine xe_alr (ins := .aload_n 0) (len := 1) (i := 0) (by decide +kernel) rfl rfl rfl rfl rfl ?_
  obtain ⟨v101, e102, h⟩ := xbnd h
  refine xs_gr (i := 50) (c := 11) (k := 5) (by decide +kernel) (by decide) (by decide +kernel) e102 rfl ?_
  refine xe_alr (ins := .aload_n 0) (len := 1) (i := 0) (by decide +kernel) rfl rfl rfl rfl rfl ?_
  obtain ⟨v103, e104, h⟩ := xbnd h
  refine xs_gi (i := 132) (c := 11) (k := 6) (by decide +kernel) (by decide) (by decide +kernel) e104 rfl ?_
  obtain ⟨v105, e106, h⟩ := xbnd h
  refine xs_aald (by decide +kernel) (xq_gi_in e104) e106 rfl ?_
  obtain ⟨v107, e108, h⟩ := xbnd h
  refine xs_gi (i := 139) (c := 1) (k := 8) (by decide +kernel) (by decide) (by decide +kernel) e108 rfl ?_
  refine xe_isr (ins := .istore_n 1) (len := 1) (i := 1) (by decide +kernel) rfl rfl rfl (by decide) (xk_k (show ¬ (0 : Nat) = 1 by decide) (Or.inr (xR_cat _)) xk_n) rfl ?_
  refine xe_alr (ins := .aload_n 0) (len := 1) (i := 0) (by decide +kernel) rfl rfl rfl rfl rfl ?_
  obtain ⟨v109, e110, h⟩ := xbnd h
  refine xs_gr (i := 50) (c := 11) (k := 5) (by decide +kernel) (by decide) (by decide +kernel) e110 rfl ?_
  refine xe_alr (ins := .aload_n 0) (len := 1) (i := 0) (by decide +kernel) rfl rfl rfl rfl rfl ?_
  obtain ⟨v111, e112, h⟩ := xbnd h
  refine xs_gi (i := 132) (c := 11) (k := 6) (by decide +kernel) (by decide) (by decide +kernel) e112 rfl ?_
  obtain ⟨v113, e114, h⟩ := xbnd h
  refine xs_aald (by decide +kernel) (xq_gi_in e112) e114 rfl ?_
  obtain ⟨_, e116, h⟩ := xbnd h
  obtain ⟨M117, e115, h⟩ := xbnd h
  refine xs_cv (i := 192) (j := 7) (ar := []) (rest := []) (r2 := xr_7) (by decide +kernel) (by decide +kernel) (by decide +kernel) xr_7_e rfl (by decide) (by decide) e116 ?_
  refine xc_v (k7 (d := d + 0)   e115) rfl ?_
  refine xe_ldn (ins := .iload_n 1) (len := 1) (by decide +kernel) rfl rfl rfl rfl ?_
  cases h
  exact xe_ret_i (ty := .int) (by decide +kernel) rfl rfl ⟨rfl, rfl, (xq_gi_in e108)⟩
-- ChangeHouse.count
def xr_174 : xj_mR := (11, yX11_count, cX11_count, 4, (Option.some Jvm.ClassFile.FieldType.int), 1, false, (7, 130), (1, 1))
set_option maxRecDepth 20000 in
theorem xr_174_e : xj_row 174 = some xr_174 := rfl
def f174  (f : Nat) (a0 : Nat) (a1 : Int) (M : xj_M) : Option (Int × xj_M) := ((xq_gr 11 5 (a0) M).bind fun v101 => ((xq_gi 11 6 (a0) M).bind fun v103 => ((xq_ar (v101) (v103) M).bind fun v105 => ((xq_is 1 (v105) M).bind fun _ => ((f5  f (v105) M).bind fun R109 => (if (a1) < 0 ∨ 9 < (a1) then (some (-1, R109.2)) else (if (a1) = 0 then ((xq_gi 1 1 (v105) R109.2).bind fun v113 => (some (v113, R109.2))) else (if (a1) = 1 then ((xq_gi 1 2 (v105) R109.2).bind fun v116 => (some (v116, R109.2))) else (if (a1) = 2 then ((xq_gr 2 0 (R109.1) R109.2).bind fun v119 => ((xq_gi 3 1 (v119) R109.2).bind fun v121 => (some (v121, R109.2)))) else (if (a1) = 3 then ((xq_gr 2 0 (R109.1) R109.2).bind fun v124 => ((xq_gi 3 8 (v124) R109.2).bind fun v126 => (some (v126, R109.2)))) else (if (a1) = 4 then ((xq_gi 1 8 (v105) R109.2).bind fun v129 => (some (v129, R109.2))) else (if (a1) = 5 then ((xq_gi 11 6 (a0) R109.2).bind fun v132 => (some (v132, R109.2))) else (if (a1) = 6 then ((xq_is 2 (R109.1) R109.2).bind fun _ => ((f16  f (R109.1) R109.2).bind fun R137 => (some (R137.1, R137.2)))) else (if (a1) = 7 then ((xq_gi 2 7 (R109.1) R109.2).bind fun v140 => (some (v140, R109.2))) else (if (a1) = 8 then ((xq_gi 11 8 (a0) R109.2).bind fun v143 => (some (v143, R109.2))) else ((xq_gr 11 0 (a0) R109.2).bind fun v146 => ((xq_gi 8 1 (v146) R109.2).bind fun v148 => (some (v148, R109.2)))))))))))))))))))
theorem k174 {d f : Nat}   {a0 : Nat} {a1 : Int} {M : xj_M} {R : Int × xj_M} (ha1 : xin a1) (h : f174  f a0 a1 M = some R) : xT (d + 2) 174 [xR_ a0, xI a1] M (xQi R) := by
  refine xT_m xr_174_e (X := (none, d + 1, none)) rfl (xa_1 (xR_cat _) (xa_1 (xI_cat _) xa_n)) (by decide) ?_
  unfold f174 at h
  refine xe_alr (ins := .aload_n 0) (len := 1) (i := 0) (by decide +kernel) rfl rfl rfl rfl rfl ?_
  obtain ⟨v101, e102, h⟩ := xbnd h
  refine xs_gr (i := 50) (c := 11) (k := 5) (by decide +kernel) (by decide) (by decide +kernel) e102 rfl ?_
  refine xe_alr (ins := .aload_n 0) (len := 1) (i := 0) (by decide +kernel) rfl rfl rfl rfl rfl ?_
  obtain ⟨v103, e104, h⟩ := xbnd h
  refine xs_gi (i := 132) (c := 11) (k := 6) (by decide +kernel) (by decide) (by decide +kernel) e104 rfl ?_
  obtain ⟨v105, e106, h⟩ := xbnd h
  refine xs_aald (by decide +kernel) (xq_gi_in e104) e106 rfl ?_
  refine xe_asr (ins := .astore_n 2) (len := 1) (i := 2) (by decide +kernel) rfl rfl rfl (by decide) (xk_k (show ¬ (0 : Nat) = 2 by decide) (Or.inl (show ¬ (0 + 1 : Nat) = 2 by decide)) (xk_k (show ¬ (1 : Nat) = 2 by decide) (Or.inr (xI_cat _)) xk_n)) rfl ?_
  refine xe_alr (ins := .aload_n 2) (len := 1) (i := 2) (by decide +kernel) rfl rfl rfl rfl rfl ?_
  obtain ⟨_, e108, h⟩ := xbnd h
  obtain ⟨R109, e107, h⟩ := xbnd h
  refine xs_cv (i := 145) (j := 5) (ar := []) (rest := []) (r2 := xr_5) (by decide +kernel) (by decide +kernel) (by decide +kernel) xr_5_e rfl (by decide) (by decide) e108 ?_
  refine xc_r (k5 (d := d + 0)   e107) rfl ?_
  refine xe_asr (ins := .astore_n 3) (len := 1) (i := 3) (by decide +kernel) rfl rfl rfl (by decide) (xk_k (show ¬ (2 : Nat) = 3 by decide) (Or.inr (xR_cat _)) (xk_k (show ¬ (0 : Nat) = 3 by decide) (Or.inl (show ¬ (0 + 1 : Nat) = 3 by decide)) (xk_k (show ¬ (1 : Nat) = 3 by decide) (Or.inl (show ¬ (1 + 1 : Nat) = 3 by decide)) xk_n))) rfl ?_
  refine xe_ldn (ins := .iload_n 1) (len := 1) (by decide +kernel) rfl rfl rfl rfl ?_
  by_cases c111 : (a1) < 0 ∨ 9 < (a1)
  · rw [if_pos c111] at h
    refine xe_ts (dd := 115) (lo := 0) (hi := 9) (offs := #[56, 61, 66, 74, 82, 87, 92, 97, 102, 107]) (len := 56) (off := 115) (t := 131) (by decide +kernel) ha1 (by rw [if_pos c111]) (by decide) ?_
    refine xe_iconst (n := -1) (by decide +kernel) rfl ?_
    cases h
    exact xe_ret_i (ty := .int) (by decide +kernel) rfl rfl ⟨rfl, rfl, (show xin (-1) by decide)⟩
  · rw [if_neg c111] at h
    by_cases c112 : (a1) = 0
    · rw [if_pos c112] at h
      refine xe_ts (dd := 115) (lo := 0) (hi := 9) (offs := #[56, 61, 66, 74, 82, 87, 92, 97, 102, 107]) (len := 56) (off := 56) (t := 72) (by decide +kernel) ha1 (by rw [if_neg c111, c112]; rfl) (by decide) ?_
      refine xe_alr (ins := .aload_n 2) (len := 1) (i := 2) (by decide +kernel) rfl rfl rfl rfl rfl ?_
      obtain ⟨v113, e114, h⟩ := xbnd h
      refine xs_gi (i := 199) (c := 1) (k := 1) (by decide +kernel) (by decide) (by decide +kernel) e114 rfl ?_
      cases h
      exact xe_ret_i (ty := .int) (by decide +kernel) rfl rfl ⟨rfl, rfl, (xq_gi_in e114)⟩
    · rw [if_neg c112] at h
      by_cases c115 : (a1) = 1
      · rw [if_pos c115] at h
        refine xe_ts (dd := 115) (lo := 0) (hi := 9) (offs := #[56, 61, 66, 74, 82, 87, 92, 97, 102, 107]) (len := 56) (off := 61) (t := 77) (by decide +kernel) ha1 (by rw [if_neg c111, c115]; rfl) (by decide) ?_
        refine xe_alr (ins := .aload_n 2) (len := 1) (i := 2) (by decide +kernel) rfl rfl rfl rfl rfl ?_
        obtain ⟨v116, e117, h⟩ := xbnd h
        refine xs_gi (i := 250) (c := 1) (k := 2) (by decide +kernel) (by decide) (by decide +kernel) e117 rfl ?_
        cases h
        exact xe_ret_i (ty := .int) (by decide +kernel) rfl rfl ⟨rfl, rfl, (xq_gi_in e117)⟩
      · rw [if_neg c115] at h
        by_cases c118 : (a1) = 2
        · rw [if_pos c118] at h
          refine xe_ts (dd := 115) (lo := 0) (hi := 9) (offs := #[56, 61, 66, 74, 82, 87, 92, 97, 102, 107]) (len := 56) (off := 66) (t := 82) (by decide +kernel) ha1 (by rw [if_neg c111, c118]; rfl) (by decide) ?_
          refine xe_alr (ins := .aload_n 3) (len := 1) (i := 3) (by decide +kernel) rfl rfl rfl rfl rfl ?_
          obtain ⟨v119, e120, h⟩ := xbnd h
          refine xs_gr (i := 149) (c := 2) (k := 0) (by decide +kernel) (by decide) (by decide +kernel) e120 rfl ?_
          obtain ⟨v121, e122, h⟩ := xbnd h
          refine xs_gi (i := 253) (c := 3) (k := 1) (by decide +kernel) (by decide) (by decide +kernel) e122 rfl ?_
          cases h
          exact xe_ret_i (ty := .int) (by decide +kernel) rfl rfl ⟨rfl, rfl, (xq_gi_in e122)⟩
        · rw [if_neg c118] at h
          by_cases c123 : (a1) = 3
          · rw [if_pos c123] at h
            refine xe_ts (dd := 115) (lo := 0) (hi := 9) (offs := #[56, 61, 66, 74, 82, 87, 92, 97, 102, 107]) (len := 56) (off := 74) (t := 90) (by decide +kernel) ha1 (by rw [if_neg c111, c123]; rfl) (by decide) ?_
            refine xe_alr (ins := .aload_n 3) (len := 1) (i := 3) (by decide +kernel) rfl rfl rfl rfl rfl ?_
            obtain ⟨v124, e125, h⟩ := xbnd h
            refine xs_gr (i := 149) (c := 2) (k := 0) (by decide +kernel) (by decide) (by decide +kernel) e125 rfl ?_
            obtain ⟨v126, e127, h⟩ := xbnd h
            refine xs_gi (i := 142) (c := 3) (k := 8) (by decide +kernel) (by decide) (by decide +kernel) e127 rfl ?_
            cases h
            exact xe_ret_i (ty := .int) (by decide +kernel) rfl rfl ⟨rfl, rfl, (xq_gi_in e127)⟩
          · rw [if_neg c123] at h
            by_cases c128 : (a1) = 4
            · rw [if_pos c128] at h
              refine xe_ts (dd := 115) (lo := 0) (hi := 9) (offs := #[56, 61, 66, 74, 82, 87, 92, 97, 102, 107]) (len := 56) (off := 82) (t := 98) (by decide +kernel) ha1 (by rw [if_neg c111, c128]; rfl) (by decide) ?_
              refine xe_alr (ins := .aload_n 2) (len := 1) (i := 2) (by decide +kernel) rfl rfl rfl rfl rfl ?_
              obtain ⟨v129, e130, h⟩ := xbnd h
              refine xs_gi (i := 139) (c := 1) (k := 8) (by decide +kernel) (by decide) (by decide +kernel) e130 rfl ?_
              cases h
              exact xe_ret_i (ty := .int) (by decide +kernel) rfl rfl ⟨rfl, rfl, (xq_gi_in e130)⟩
            · rw [if_neg c128] at h
              by_cases c131 : (a1) = 5
              · rw [if_pos c131] at h
                refine xe_ts (dd := 115) (lo := 0) (hi := 9) (offs := #[56, 61, 66, 74, 82, 87, 92, 97, 102, 107]) (len := 56) (off := 87) (t := 103) (by decide +kernel) ha1 (by rw [if_neg c111, c131]; rfl) (by decide) ?_
                refine xe_alr (ins := .aload_n 0) (len := 1) (i := 0) (by decide +kernel) rfl rfl rfl rfl rfl ?_
                obtain ⟨v132, e133, h⟩ := xbnd h
                refine xs_gi (i := 132) (c := 11) (k := 6) (by decide +kernel) (by decide) (by decide +kernel) e133 rfl ?_
                cases h
                exact xe_ret_i (ty := .int) (by decide +kernel) rfl rfl ⟨rfl, rfl, (xq_gi_in e133)⟩
              · rw [if_neg c131] at h
                by_cases c134 : (a1) = 6
                · rw [if_pos c134] at h
                  refine xe_ts (dd := 115) (lo := 0) (hi := 9) (offs := #[56, 61, 66, 74, 82, 87, 92, 97, 102, 107]) (len := 56) (off := 92) (t := 108) (by decide +kernel) ha1 (by rw [if_neg c111, c134]; rfl) (by decide) ?_
                  refine xe_alr (ins := .aload_n 3) (len := 1) (i := 3) (by decide +kernel) rfl rfl rfl rfl rfl ?_
                  obtain ⟨_, e136, h⟩ := xbnd h
                  obtain ⟨R137, e135, h⟩ := xbnd h
                  refine xs_cv (i := 255) (j := 16) (ar := []) (rest := []) (r2 := xr_16) (by decide +kernel) (by decide +kernel) (by decide +kernel) xr_16_e rfl (by decide) (by decide) e136 ?_
                  refine xc_i (k16 (d := d + 0)   e135) rfl (fun hi138 => ?_)
                  cases h
                  exact xe_ret_i (ty := .int) (by decide +kernel) rfl rfl ⟨rfl, rfl, hi138⟩
                · rw [if_neg c134] at h
                  by_cases c139 : (a1) = 7
                  · rw [if_pos c139] at h
                    refine xe_ts (dd := 115) (lo := 0) (hi := 9) (offs := #[56, 61, 66, 74, 82, 87, 92, 97, 102, 107]) (len := 56) (off := 97) (t := 113) (by decide +kernel) ha1 (by rw [if_neg c111, c139]; rfl) (by decide) ?_
                    refine xe_alr (ins := .aload_n 3) (len := 1) (i := 3) (by decide +kernel) rfl rfl rfl rfl rfl ?_
                    obtain ⟨v140, e141, h⟩ := xbnd h
                    refine xs_gi (i := 258) (c := 2) (k := 7) (by decide +kernel) (by decide) (by decide +kernel) e141 rfl ?_
                    cases h
                    exact xe_ret_i (ty := .int) (by decide +kernel) rfl rfl ⟨rfl, rfl, (xq_gi_in e141)⟩
                  · rw [if_neg c139] at h
                    by_cases c142 : (a1) = 8
                    · rw [if_pos c142] at h
                      refine xe_ts (dd := 115) (lo := 0) (hi := 9) (offs := #[56, 61, 66, 74, 82, 87, 92, 97, 102, 107]) (len := 56) (off := 102) (t := 118) (by decide +kernel) ha1 (by rw [if_neg c111, c142]; rfl) (by decide) ?_
                      refine xe_alr (ins := .aload_n 0) (len := 1) (i := 0) (by decide +kernel) rfl rfl rfl rfl rfl ?_
                      obtain ⟨v143, e144, h⟩ := xbnd h
                      refine xs_gi (i := 216) (c := 11) (k := 8) (by decide +kernel) (by decide) (by decide +kernel) e144 rfl ?_
                      cases h
                      exact xe_ret_i (ty := .int) (by decide +kernel) rfl rfl ⟨rfl, rfl, (xq_gi_in e144)⟩
                    · rw [if_neg c142] at h
                      have c145 : (a1) = 9 := by omega
                      refine xe_ts (dd := 115) (lo := 0) (hi := 9) (offs := #[56, 61, 66, 74, 82, 87, 92, 97, 102, 107]) (len := 56) (off := 107) (t := 123) (by decide +kernel) ha1 (by rw [if_neg c111, c145]; rfl) (by decide) ?_
                      refine xe_alr (ins := .aload_n 0) (len := 1) (i := 0) (by decide +kernel) rfl rfl rfl rfl rfl ?_
                      obtain ⟨v146, e147, h⟩ := xbnd h
                      refine xs_gr (i := 10) (c := 11) (k := 0) (by decide +kernel) (by decide) (by decide +kernel) e147 rfl ?_
                      obtain ⟨v148, e149, h⟩ := xbnd h
                      refine xs_gi (i := 107) (c := 8) (k := 1) (by decide +kernel) (by decide) (by decide +kernel) e149 rfl ?_
                      cases h
                      exact xe_ret_i (ty := .int) (by decide +kernel) rfl rfl ⟨rfl, rfl, (xq_gi_in e149)⟩
-- ChangeHouse.value
def xr_176 : xj_mR := (11, yX11_value, cX11_value, 5, (Option.some Jvm.ClassFile.FieldType.long), 3, false, (8, 18), (1, 1))
set_option maxRecDepth 20000 in
theorem xr_176_e : xj_row 176 = some xr_176 := rfl
def f176  (f : Nat) (a0 : Nat) (a1 : Int) (a2 : Int) (a3 : Int) (M : xj_M) : Option ((Nat ⊕ Int) × xj_M) := ((xq_gr 11 5 (a0) M).bind fun v101 => ((xq_gi 11 6 (a0) M).bind fun v103 => ((xq_ar (v101) (v103) M).bind fun v105 => ((xq_is 1 (v105) M).bind fun _ => ((f5  f (v105) M).bind fun R109 => ((xq_is 2 (R109.1) R109.2).bind fun _ => ((f15  f (R109.1) (a1) (a2) (a3) R109.2).bind fun R113 => (if ¬ (R113.1) = 0 then ((xq_gr 2 1 (R109.1) R113.2).bind fun v116 => ((xq_ar (v116) (a1) R113.2).bind fun v118 => ((xq_is 5 (v118) R113.2).bind fun _ => ((f70  f (v118) (a2) (a3) R113.2).bind fun R122 => (some (.inr (R122.1), R122.2)))))) else (some (.inl 1, xj_new R113.2 (.inl ()) 6))))))))))
theorem k176 {d f : Nat}   {a0 : Nat} {a1 : Int} {a2 : Int} {a3 : Int} {M : xj_M} {R : (Nat ⊕ Int) × xj_M} (ha1 : xin a1) (ha2 : xin a2) (ha3 : xin a3) (h : f176  f a0 a1 a2 a3 M = some R) : xT (d + 6) 176 [xR_ a0, xI a1, xI a2, xI a3] M (xQtl R) := by
  refine xT_m xr_176_e (X := (none, d + 5, none)) rfl (xa_1 (xR_cat _) (xa_1 (xI_cat _) (xa_1 (xI_cat _) (xa_1 (xI_cat _) xa_n)))) (by decide) ?_
  unfold f176 at h
  refine xe_alr (ins := .aload_n 0) (len := 1) (i := 0) (by decide +kernel) rfl rfl rfl rfl rfl ?_
  obtain ⟨v101, e102, h⟩ := xbnd h
  refine xs_gr (i := 50) (c := 11) (k := 5) (by decide +kernel) (by decide) (by decide +kernel) e102 rfl ?_
  refine xe_alr (ins := .aload_n 0) (len := 1) (i := 0) (by decide +kernel) rfl rfl rfl rfl rfl ?_
  obtain ⟨v103, e104, h⟩ := xbnd h
  refine xs_gi (i := 132) (c := 11) (k := 6) (by decide +kernel) (by decide) (by decide +kernel) e104 rfl ?_
  obtain ⟨v105, e106, h⟩ := xbnd h
  refine xs_aald (by decide +kernel) (xq_gi_in e104) e106 rfl ?_
  obtain ⟨_, e108, h⟩ := xbnd h
  obtain ⟨R109, e107, h⟩ := xbnd h
  refine xs_cv (i := 145) (j := 5) (ar := []) (rest := []) (r2 := xr_5) (by decide +kernel) (by decide +kernel) (by decide +kernel) xr_5_e rfl (by decide) (by decide) e108 ?_
  refine xc_r (k5 (d := d + 4)   e107) rfl ?_
  refine xe_asr (ins := .astore 4) (len := 2) (i := 4) (by decide +kernel) rfl rfl rfl (by decide) (xk_k (show ¬ (0 : Nat) = 4 by decide) (Or.inl (show ¬ (0 + 1 : Nat) = 4 by decide)) (xk_k (show ¬ (1 : Nat) = 4 by decide) (Or.inl (show ¬ (1 + 1 : Nat) = 4 by decide)) (xk_k (show ¬ (2 : Nat) = 4 by decide) (Or.inl (show ¬ (2 + 1 : Nat) = 4 by decide)) (xk_k (show ¬ (3 : Nat) = 4 by decide) (Or.inr (xI_cat _)) xk_n)))) rfl ?_
  refine xe_alr (ins := .aload 4) (len := 2) (i := 4) (by decide +kernel) rfl rfl rfl rfl rfl ?_
  refine xe_ldn (ins := .iload_n 1) (len := 1) (by decide +kernel) rfl rfl rfl rfl ?_
  refine xe_ldn (ins := .iload_n 2) (len := 1) (by decide +kernel) rfl rfl rfl rfl ?_
  refine xe_ldn (ins := .iload_n 3) (len := 1) (by decide +kernel) rfl rfl rfl rfl ?_
  obtain ⟨_, e112, h⟩ := xbnd h
  obtain ⟨R113, e111, h⟩ := xbnd h
  refine xs_cv (i := 288) (j := 15) (ar := [xI (a3), xI (a2), xI (a1)]) (rest := []) (r2 := xr_15) (by decide +kernel) (by decide +kernel) (by decide +kernel) xr_15_e rfl (by decide) (by decide) e112 ?_
  refine xc_i (k15 (d := d + 4)  ha1 ha2 ha3 e111) rfl (fun hi114 => ?_)
  refine xe_ifne (off := 11) (t := 33) (by decide +kernel) (by decide) rfl hi114 (fun c115 => ?_) (fun c115 => ?_)
  · rw [if_pos c115] at h
    refine xe_alr (ins := .aload 4) (len := 2) (i := 4) (by decide +kernel) rfl rfl rfl rfl rfl ?_
    obtain ⟨v116, e117, h⟩ := xbnd h
    refine xs_gr (i := 279) (c := 2) (k := 1) (by decide +kernel) (by decide) (by decide +kernel) e117 rfl ?_
    refine xe_ldn (ins := .iload_n 1) (len := 1) (by decide +kernel) rfl rfl rfl rfl ?_
    obtain ⟨v118, e119, h⟩ := xbnd h
    refine xs_aald (by decide +kernel) ha1 e119 rfl ?_
    refine xe_ldn (ins := .iload_n 2) (len := 1) (by decide +kernel) rfl rfl rfl rfl ?_
    refine xe_ldn (ins := .iload_n 3) (len := 1) (by decide +kernel) rfl rfl rfl rfl ?_
    obtain ⟨_, e121, h⟩ := xbnd h
    obtain ⟨R122, e120, h⟩ := xbnd h
    refine xs_cv (i := 292) (j := 70) (ar := [xI (a3), xI (a2)]) (rest := []) (r2 := xr_70) (by decide +kernel) (by decide +kernel) (by decide +kernel) xr_70_e rfl (by decide) (by decide) e121 ?_
    refine xc_l (k70 (d := d + 4)  ha2 ha3 e120) rfl (fun hi123 => ?_)
    cases h
    exact xe_ret_l (by decide +kernel) rfl ⟨rfl, rfl, fun v hv => by cases hv; exact hi123⟩
  · rw [if_neg c115] at h
    cases h
    exact xe_throw (i := 261) rfl (show 5 ≤ d + 5 by omega) (by decide +kernel) (by decide +kernel) (by decide +kernel) ⟨rfl, rfl, fun v hv => by cases hv⟩
-- ChangeHouse.answer
def xr_180 : xj_mR := (11, yX11_answer, cX11_answer, 3, (Option.some Jvm.ClassFile.FieldType.long), 2, false, (8, 47), (1, 1))
set_option maxRecDepth 20000 in
theorem xr_180_e : xj_row 180 = some xr_180 := rfl
def f180_30   (f : Nat)  (M : xj_M) : Option ((Nat ⊕ Int) × xj_M) := (some (.inl 1, xj_new M (.inl ()) 6))
theorem k180_30 {d f : Nat}      {M : xj_M} {R : (Nat ⊕ Int) × xj_M}  (h : f180_30   f  M = some R) : xW (d + 5) (none, d + 5, none) xr_180 (30, [], [], M) (xQtl R) := by
  unfold f180_30 at h
  cases h
  exact xe_throw (i := 261) rfl (show 5 ≤ d + 5 by omega) (by decide +kernel) (by decide +kernel) (by decide +kernel) ⟨rfl, rfl, fun v hv => by cases hv⟩
def f180  (f : Nat) (a0 : Nat) (a1 : Int) (a2 : Int) (M : xj_M) : Option ((Nat ⊕ Int) × xj_M) := (if (a1) < 0 then f180_30   f  M else ((xq_gr 11 10 (a0) M).bind fun v102 => ((xq_gi 5 1 (v102) M).bind fun v104 => (if (v104) ≤ (a1) then f180_30   f  M else (if (a2) < 0 then f180_30   f  M else ((xq_gr 11 10 (a0) M).bind fun v108 => ((xq_gi 5 0 (v108) M).bind fun v110 => (if (a2) < (v110) then ((xq_gr 11 10 (a0) M).bind fun v113 => ((xq_is 5 (v113) M).bind fun _ => ((f70  f (v113) (a1) (a2) M).bind fun R117 => (some (.inr (R117.1), R117.2))))) else f180_30   f  M))))))))
theorem k180 {d f : Nat}   {a0 : Nat} {a1 : Int} {a2 : Int} {M : xj_M} {R : (Nat ⊕ Int) × xj_M} (ha1 : xin a1) (ha2 : xin a2) (h : f180  f a0 a1 a2 M = some R) : xT (d + 6) 180 [xR_ a0, xI a1, xI a2] M (xQtl R) := by
  refine xT_m xr_180_e (X := (none, d + 5, none)) rfl (xa_1 (xR_cat _) (xa_1 (xI_cat _) (xa_1 (xI_cat _) xa_n))) (by decide) ?_
  unfold f180 at h
  refine xe_ldn (ins := .iload_n 1) (len := 1) (by decide +kernel) rfl rfl rfl rfl ?_
  refine xe_iflt (off := 29) (t := 30) (by decide +kernel) (by decide) rfl ha1 (fun c101 => ?_) (fun c101 => ?_)
  · rw [if_pos c101] at h
    refine xW_lv rfl (l := []) (xsb_of trivial (show [0, 1, 2].Nodup by decide)) ?_
    exact k180_30    h
  · rw [if_neg c101] at h
    refine xe_ldn (ins := .iload_n 1) (len := 1) (by decide +kernel) rfl rfl rfl rfl ?_
    refine xe_alr (ins := .aload_n 0) (len := 1) (i := 0) (by decide +kernel) rfl rfl rfl rfl rfl ?_
    obtain ⟨v102, e103, h⟩ := xbnd h
    refine xs_gr (i := 63) (c := 11) (k := 10) (by decide +kernel) (by decide) (by decide +kernel) e103 rfl ?_
    obtain ⟨v104, e105, h⟩ := xbnd h
    refine xs_gi (i := 283) (c := 5) (k := 1) (by decide +kernel) (by decide) (by decide +kernel) e105 rfl ?_
    refine xe_icmpge (off := 18) (t := 30) (by decide +kernel) (by decide) rfl ha1 (xq_gi_in e105) (fun c106 => ?_) (fun c106 => ?_)
    · rw [if_pos c106] at h
      refine xW_lv rfl (l := []) (xsb_of trivial (show [0, 1, 2].Nodup by decide)) ?_
      exact k180_30    h
    · rw [if_neg c106] at h
      refine xe_ldn (ins := .iload_n 2) (len := 1) (by decide +kernel) rfl rfl rfl rfl ?_
      refine xe_iflt (off := 14) (t := 30) (by decide +kernel) (by decide) rfl ha2 (fun c107 => ?_) (fun c107 => ?_)
      · rw [if_pos c107] at h
        refine xW_lv rfl (l := []) (xsb_of trivial (show [0, 1, 2].Nodup by decide)) ?_
        exact k180_30    h
      · rw [if_neg c107] at h
        refine xe_ldn (ins := .iload_n 2) (len := 1) (by decide +kernel) rfl rfl rfl rfl ?_
        refine xe_alr (ins := .aload_n 0) (len := 1) (i := 0) (by decide +kernel) rfl rfl rfl rfl rfl ?_
        obtain ⟨v108, e109, h⟩ := xbnd h
        refine xs_gr (i := 63) (c := 11) (k := 10) (by decide +kernel) (by decide) (by decide +kernel) e109 rfl ?_
        obtain ⟨v110, e111, h⟩ := xbnd h
        refine xs_gi (i := 344) (c := 5) (k := 0) (by decide +kernel) (by decide) (by decide +kernel) e111 rfl ?_
        refine xe_icmplt (off := 11) (t := 38) (by decide +kernel) (by decide) rfl ha2 (xq_gi_in e111) (fun c112 => ?_) (fun c112 => ?_)
        · rw [if_pos c112] at h
          refine xe_alr (ins := .aload_n 0) (len := 1) (i := 0) (by decide +kernel) rfl rfl rfl rfl rfl ?_
          obtain ⟨v113, e114, h⟩ := xbnd h
          refine xs_gr (i := 63) (c := 11) (k := 10) (by decide +kernel) (by decide) (by decide +kernel) e114 rfl ?_
          refine xe_ldn (ins := .iload_n 1) (len := 1) (by decide +kernel) rfl rfl rfl rfl ?_
          refine xe_ldn (ins := .iload_n 2) (len := 1) (by decide +kernel) rfl rfl rfl rfl ?_
          obtain ⟨_, e116, h⟩ := xbnd h
          obtain ⟨R117, e115, h⟩ := xbnd h
          refine xs_cv (i := 292) (j := 70) (ar := [xI (a2), xI (a1)]) (rest := []) (r2 := xr_70) (by decide +kernel) (by decide +kernel) (by decide +kernel) xr_70_e rfl (by decide) (by decide) e116 ?_
          refine xc_l (k70 (d := d + 4)  ha1 ha2 e115) rfl (fun hi118 => ?_)
          cases h
          exact xe_ret_l (by decide +kernel) rfl ⟨rfl, rfl, fun v hv => by cases hv; exact hi118⟩
        · rw [if_neg c112] at h
          refine xW_lv rfl (l := []) (xsb_of trivial (show [0, 1, 2].Nodup by decide)) ?_
          exact k180_30    h
-- ChangeHouse.rank
def xr_181 : xj_mR := (11, yX11_rank, cX11_rank, 4, (Option.some Jvm.ClassFile.FieldType.int), 2, false, (8, 54), (1, 1))
set_option maxRecDepth 20000 in
theorem xr_181_e : xj_row 181 = some xr_181 := rfl
def f181  (f : Nat) (a0 : Nat) (a1 : Int) (a2 : Int) (M : xj_M) : Option ((Nat ⊕ Int) × xj_M) := ((xq_gr 11 5 (a0) M).bind fun v101 => ((xq_gi 11 6 (a0) M).bind fun v103 => ((xq_ar (v101) (v103) M).bind fun v105 => ((xq_is 1 (v105) M).bind fun _ => ((f5  f (v105) M).bind fun R109 => ((xq_is 2 (R109.1) R109.2).bind fun _ => ((f15  f (R109.1) (a1) (a2) (0) R109.2).bind fun R113 => (if ¬ (R113.1) = 0 then ((xq_gr 2 1 (R109.1) R113.2).bind fun v116 => ((xq_ar (v116) (a1) R113.2).bind fun v118 => ((xq_gr 5 3 (v118) R113.2).bind fun v120 => ((xq_ai 3 (v120) (a2) R113.2).bind fun v122 => (some (.inr (v122), R113.2)))))) else (some (.inl 1, xj_new R113.2 (.inl ()) 6))))))))))
theorem k181 {d f : Nat}   {a0 : Nat} {a1 : Int} {a2 : Int} {M : xj_M} {R : (Nat ⊕ Int) × xj_M} (ha1 : xin a1) (ha2 : xin a2) (h : f181  f a0 a1 a2 M = some R) : xT (d + 6) 181 [xR_ a0, xI a1, xI a2] M (xQti R) := by
  refine xT_m xr_181_e (X := (none, d + 5, none)) rfl (xa_1 (xR_cat _) (xa_1 (xI_cat _) (xa_1 (xI_cat _) xa_n))) (by decide) ?_
  unfold f181 at h
  refine xe_alr (ins := .aload_n 0) (len := 1) (i := 0) (by decide +kernel) rfl rfl rfl rfl rfl ?_
  obtain ⟨v101, e102, h⟩ := xbnd h
  refine xs_gr (i := 50) (c := 11) (k := 5) (by decide +kernel) (by decide) (by decide +kernel) e102 rfl ?_
  refine xe_alr (ins := .aload_n 0) (len := 1) (i := 0) (by decide +kernel) rfl rfl rfl rfl rfl ?_
  obtain ⟨v103, e104, h⟩ := xbnd h
  refine xs_gi (i := 132) (c := 11) (k := 6) (by decide +kernel) (by decide) (by decide +kernel) e104 rfl ?_
  obtain ⟨v105, e106, h⟩ := xbnd h
  refine xs_aald (by decide +kernel) (xq_gi_in e104) e106 rfl ?_
  obtain ⟨_, e108, h⟩ := xbnd h
  obtain ⟨R109, e107, h⟩ := xbnd h
  refine xs_cv (i := 145) (j := 5) (ar := []) (rest := []) (r2 := xr_5) (by decide +kernel) (by decide +kernel) (by decide +kernel) xr_5_e rfl (by decide) (by decide) e108 ?_
  refine xc_r (k5 (d := d + 4)   e107) rfl ?_
  refine xe_asr (ins := .astore_n 3) (len := 1) (i := 3) (by decide +kernel) rfl rfl rfl (by decide) (xk_k (show ¬ (0 : Nat) = 3 by decide) (Or.inl (show ¬ (0 + 1 : Nat) = 3 by decide)) (xk_k (show ¬ (1 : Nat) = 3 by decide) (Or.inl (show ¬ (1 + 1 : Nat) = 3 by decide)) (xk_k (show ¬ (2 : Nat) = 3 by decide) (Or.inr (xI_cat _)) xk_n))) rfl ?_
  refine xe_alr (ins := .aload_n 3) (len := 1) (i := 3) (by decide +kernel) rfl rfl rfl rfl rfl ?_
  refine xe_ldn (ins := .iload_n 1) (len := 1) (by decide +kernel) rfl rfl rfl rfl ?_
  refine xe_ldn (ins := .iload_n 2) (len := 1) (by decide +kernel) rfl rfl rfl rfl ?_
  refine xe_iconst (n := 0) (by decide +kernel) rfl ?_
  obtain ⟨_, e112, h⟩ := xbnd h
  obtain ⟨R113, e111, h⟩ := xbnd h
  refine xs_cv (i := 288) (j := 15) (ar := [xI (0), xI (a2), xI (a1)]) (rest := []) (r2 := xr_15) (by decide +kernel) (by decide +kernel) (by decide +kernel) xr_15_e rfl (by decide) (by decide) e112 ?_
  refine xc_i (k15 (d := d + 4)  ha1 ha2 (show xin (0) by decide) e111) rfl (fun hi114 => ?_)
  refine xe_ifne (off := 11) (t := 31) (by decide +kernel) (by decide) rfl hi114 (fun c115 => ?_) (fun c115 => ?_)
  · rw [if_pos c115] at h
    refine xe_alr (ins := .aload_n 3) (len := 1) (i := 3) (by decide +kernel) rfl rfl rfl rfl rfl ?_
    obtain ⟨v116, e117, h⟩ := xbnd h
    refine xs_gr (i := 279) (c := 2) (k := 1) (by decide +kernel) (by decide) (by decide +kernel) e117 rfl ?_
    refine xe_ldn (ins := .iload_n 1) (len := 1) (by decide +kernel) rfl rfl rfl rfl ?_
    obtain ⟨v118, e119, h⟩ := xbnd h
    refine xs_aald (by decide +kernel) ha1 e119 rfl ?_
    obtain ⟨v120, e121, h⟩ := xbnd h
    refine xs_gr (i := 347) (c := 5) (k := 3) (by decide +kernel) (by decide) (by decide +kernel) e121 rfl ?_
    refine xe_ldn (ins := .iload_n 2) (len := 1) (by decide +kernel) rfl rfl rfl rfl ?_
    obtain ⟨v122, e123, h⟩ := xbnd h
    refine xs_iald rfl (by decide +kernel) ha2 e123 rfl ?_
    cases h
    exact xe_ret_i (ty := .int) (by decide +kernel) rfl rfl ⟨rfl, rfl, fun v hv => by cases hv; exact (xq_ai_in e123)⟩
  · rw [if_neg c115] at h
    cases h
    exact xe_throw (i := 261) rfl (show 5 ≤ d + 5 by omega) (by decide +kernel) (by decide +kernel) (by decide +kernel) ⟨rfl, rfl, fun v hv => by cases hv⟩
-- ChangeHouse.sheet
def xr_183 : xj_mR := (11, yX11_sheet, cX11_sheet, 8, (Option.some Jvm.ClassFile.FieldType.long), 3, false, (8, 99), (1, 1))
set_option maxRecDepth 20000 in
theorem xr_183_e : xj_row 183 = some xr_183 := rfl
def f183_20   (f : Nat)  (M : xj_M) : Option ((Nat ⊕ Int) × xj_M) := (some (.inl 1, xj_new M (.inl ()) 6))
theorem k183_20 {d f : Nat}      {M : xj_M} {R : (Nat ⊕ Int) × xj_M}  (h : f183_20   f  M = some R) : xW (d + 5) (none, d + 5, none) xr_183 (20, [], [], M) (xQtl R) := by
  unfold f183_20 at h
  cases h
  exact xe_throw (i := 261) rfl (show 5 ≤ d + 5 by omega) (by decide +kernel) (by decide +kernel) (by decide +kernel) ⟨rfl, rfl, fun v hv => by cases hv⟩
def f183_155   (f : Nat) (y0 : Int) (M : xj_M) : Option ((Nat ⊕ Int) × xj_M) := (some (.inr (y0), M))
theorem k183_155 {d f : Nat}     {y0 : Int} {M : xj_M} {R : (Nat ⊕ Int) × xj_M} (hy0 : xiN y0) (h : f183_155   f y0 M = some R) : xW (d + 5) (none, d + 5, none) xr_183 (155, [], [xZ y0], M) (xQtl R) := by
  unfold f183_155 at h
  cases h
  exact xe_ret_l (by decide +kernel) rfl ⟨rfl, rfl, fun v hv => by cases hv; exact hy0⟩
def f183_125   (f : Nat) (y0 : Int) (M : xj_M) : Option ((Nat ⊕ Int) × xj_M) := (some (.inr (y0), M))
theorem k183_125 {d f : Nat}     {y0 : Int} {M : xj_M} {R : (Nat ⊕ Int) × xj_M} (hy0 : xiN y0) (h : f183_125   f y0 M = some R) : xW (d + 5) (none, d + 5, none) xr_183 (125, [], [xZ y0], M) (xQtl R) := by
  unfold f183_125 at h
  cases h
  exact xe_ret_l (by decide +kernel) rfl ⟨rfl, rfl, fun v hv => by cases hv; exact hy0⟩
def f183_70   (f : Nat) (x0 : Nat) (x3 : Int) (x4 : Int) (x5 : Int) (y0 : Int) (M : xj_M) : Option ((Nat ⊕ Int) × xj_M) := (if (x3) < 0 ∨ 2 < (x3) then (some (.inr (-1), M)) else (if (x3) = 0 then (if ¬ (x5) = (9000000000000000000) then (if (y0) = 0 then f183_125   f (1) M else f183_125   f (2) M) else f183_125   f (0) M) else (if (x3) = 1 then (if ¬ (x5) = (9000000000000000000) then (if (y0) = 0 then f183_155   f (x5) M else f183_155   f (xwl ((x5) - (-9000000000000000000))) M) else f183_155   f (0) M) else ((xq_gr 11 5 (x0) M).bind fun v109 => ((xq_gi 11 6 (x0) M).bind fun v111 => ((xq_ar (v109) (v111) M).bind fun v113 => ((xq_gr 1 6 (v113) M).bind fun v115 => ((xq_ai 3 (v115) (x4) M).bind fun v117 => (some (.inr (v117), M))))))))))
theorem k183_70 {d f : Nat}     {x0 : Nat} {x3 : Int} {x4 : Int} {x5 : Int} {y0 : Int} {M : xj_M} {R : (Nat ⊕ Int) × xj_M} (hx3 : xin x3) (hx4 : xin x4) (hx5 : xiN x5) (hy0 : xin y0) (h : f183_70   f x0 x3 x4 x5 y0 M = some R) : xW (d + 5) (none, d + 5, none) xr_183 (70, [(0, xR_ x0), (3, xI x3), (4, xI x4), (5, xZ x5)], [xI y0], M) (xQtl R) := by
  unfold f183_70 at h
  refine xe_isr (ins := .istore 7) (len := 2) (i := 7) (by decide +kernel) rfl rfl rfl (by decide) (xk_k (show ¬ (0 : Nat) = 7 by decide) (Or.inl (show ¬ (0 + 1 : Nat) = 7 by decide)) (xk_k (show ¬ (3 : Nat) = 7 by decide) (Or.inl (show ¬ (3 + 1 : Nat) = 7 by decide)) (xk_k (show ¬ (4 : Nat) = 7 by decide) (Or.inl (show ¬ (4 + 1 : Nat) = 7 by decide)) (xk_k (show ¬ (5 : Nat) = 7 by decide) (Or.inl (show ¬ (5 + 1 : Nat) = 7 by decide)) xk_n)))) rfl ?_
  refine xe_ldn (ins := .iload_n 3) (len := 1) (by decide +kernel) rfl rfl rfl rfl ?_
  by_cases c101 : (x3) < 0 ∨ 2 < (x3)
  · rw [if_pos c101] at h
    refine xe_ts (dd := 100) (lo := 0) (hi := 2) (offs := #[27, 53, 83]) (len := 27) (off := 100) (t := 173) (by decide +kernel) hx3 (by rw [if_pos c101]) (by decide) ?_
    refine xe_ldc2 (i := 369) (n := -1) (by decide +kernel) (by decide +kernel) rfl ?_
    cases h
    exact xe_ret_l (by decide +kernel) rfl ⟨rfl, rfl, fun v hv => by cases hv; exact (show xiN (-1) by decide)⟩
  · rw [if_neg c101] at h
    by_cases c102 : (x3) = 0
    · rw [if_pos c102] at h
      refine xe_ts (dd := 100) (lo := 0) (hi := 2) (offs := #[27, 53, 83]) (len := 27) (off := 27) (t := 100) (by decide +kernel) hx3 (by rw [if_neg c101, c102]; rfl) (by decide) ?_
      refine xe_ldn (ins := .lload 5) (len := 2) (by decide +kernel) rfl rfl rfl rfl ?_
      refine xe_ldc2 (i := 96) (n := 9000000000000000000) (by decide +kernel) (by decide +kernel) rfl ?_
      refine xe_lcmp (by decide +kernel) rfl hx5 (show xiN (9000000000000000000) by decide) ?_
      refine xe_ifne (off := 7) (t := 113) (by decide +kernel) (by decide) rfl (xin_cmp8 _ _) (fun c103 => ?_) (fun c103 => ?_)
      · have c103 := xcmp8_ne.mp c103; rw [if_pos c103] at h
        refine xe_ldn (ins := .iload 7) (len := 2) (by decide +kernel) rfl rfl rfl rfl ?_
        refine xe_ifeq (off := 9) (t := 124) (by decide +kernel) (by decide) rfl hy0 (fun c104 => ?_) (fun c104 => ?_)
        · rw [if_pos c104] at h
          refine xe_lconst (n := 1) (z := 1) (by decide +kernel) rfl rfl ?_
          refine xW_lv rfl (l := []) (xsb_of trivial (show [7, 0, 3, 4, 5].Nodup by decide)) ?_
          exact k183_125   (show xiN (1) by decide) h
        · rw [if_neg c104] at h
          refine xe_ldc2 (i := 362) (n := 2) (by decide +kernel) (by decide +kernel) rfl ?_
          refine xe_goto (off := 4) (nx := 125) (by decide +kernel) (by decide) ?_
          refine xW_lv rfl (l := []) (xsb_of trivial (show [7, 0, 3, 4, 5].Nodup by decide)) ?_
          exact k183_125   (show xiN (2) by decide) h
      · have c103 := (not_congr xcmp8_ne).mp c103; rw [if_neg c103] at h
        refine xe_lconst (n := 0) (z := 0) (by decide +kernel) rfl rfl ?_
        refine xe_goto (off := 15) (nx := 125) (by decide +kernel) (by decide) ?_
        refine xW_lv rfl (l := []) (xsb_of trivial (show [7, 0, 3, 4, 5].Nodup by decide)) ?_
        exact k183_125   (show xiN (0) by decide) h
    · rw [if_neg c102] at h
      by_cases c105 : (x3) = 1
      · rw [if_pos c105] at h
        refine xe_ts (dd := 100) (lo := 0) (hi := 2) (offs := #[27, 53, 83]) (len := 27) (off := 53) (t := 126) (by decide +kernel) hx3 (by rw [if_neg c101, c105]; rfl) (by decide) ?_
        refine xe_ldn (ins := .lload 5) (len := 2) (by decide +kernel) rfl rfl rfl rfl ?_
        refine xe_ldc2 (i := 96) (n := 9000000000000000000) (by decide +kernel) (by decide +kernel) rfl ?_
        refine xe_lcmp (by decide +kernel) rfl hx5 (show xiN (9000000000000000000) by decide) ?_
        refine xe_ifne (off := 7) (t := 139) (by decide +kernel) (by decide) rfl (xin_cmp8 _ _) (fun c106 => ?_) (fun c106 => ?_)
        · have c106 := xcmp8_ne.mp c106; rw [if_pos c106] at h
          refine xe_ldn (ins := .iload 7) (len := 2) (by decide +kernel) rfl rfl rfl rfl ?_
          refine xe_ifeq (off := 12) (t := 153) (by decide +kernel) (by decide) rfl hy0 (fun c107 => ?_) (fun c107 => ?_)
          · rw [if_pos c107] at h
            refine xe_ldn (ins := .lload 5) (len := 2) (by decide +kernel) rfl rfl rfl rfl ?_
            refine xW_lv rfl (l := []) (xsb_of trivial (show [7, 0, 3, 4, 5].Nodup by decide)) ?_
            exact k183_155   hx5 h
          · rw [if_neg c107] at h
            refine xe_ldn (ins := .lload 5) (len := 2) (by decide +kernel) rfl rfl rfl rfl ?_
            refine xe_ldc2 (i := 364) (n := -9000000000000000000) (by decide +kernel) (by decide +kernel) rfl ?_
            refine xe_lsub (by decide +kernel) rfl ?_
            refine xe_goto (off := 5) (nx := 155) (by decide +kernel) (by decide) ?_
            refine xW_lv rfl (l := []) (xsb_of trivial (show [7, 0, 3, 4, 5].Nodup by decide)) ?_
            exact k183_155   (xiN_wl _) h
        · have c106 := (not_congr xcmp8_ne).mp c106; rw [if_neg c106] at h
          refine xe_lconst (n := 0) (z := 0) (by decide +kernel) rfl rfl ?_
          refine xe_goto (off := 19) (nx := 155) (by decide +kernel) (by decide) ?_
          refine xW_lv rfl (l := []) (xsb_of trivial (show [7, 0, 3, 4, 5].Nodup by decide)) ?_
          exact k183_155   (show xiN (0) by decide) h
      · rw [if_neg c105] at h
        have c108 : (x3) = 2 := by omega
        refine xe_ts (dd := 100) (lo := 0) (hi := 2) (offs := #[27, 53, 83]) (len := 27) (off := 83) (t := 156) (by decide +kernel) hx3 (by rw [if_neg c101, c108]; rfl) (by decide) ?_
        refine xe_alr (ins := .aload_n 0) (len := 1) (i := 0) (by decide +kernel) rfl rfl rfl rfl rfl ?_
        obtain ⟨v109, e110, h⟩ := xbnd h
        refine xs_gr (i := 50) (c := 11) (k := 5) (by decide +kernel) (by decide) (by decide +kernel) e110 rfl ?_
        refine xe_alr (ins := .aload_n 0) (len := 1) (i := 0) (by decide +kernel) rfl rfl rfl rfl rfl ?_
        obtain ⟨v111, e112, h⟩ := xbnd h
        refine xs_gi (i := 132) (c := 11) (k := 6) (by decide +kernel) (by decide) (by decide +kernel) e112 rfl ?_
        obtain ⟨v113, e114, h⟩ := xbnd h
        refine xs_aald (by decide +kernel) (xq_gi_in e112) e114 rfl ?_
        obtain ⟨v115, e116, h⟩ := xbnd h
        refine xs_gr (i := 366) (c := 1) (k := 6) (by decide +kernel) (by decide) (by decide +kernel) e116 rfl ?_
        refine xe_ldn (ins := .iload 4) (len := 2) (by decide +kernel) rfl rfl rfl rfl ?_
        obtain ⟨v117, e118, h⟩ := xbnd h
        refine xs_iald rfl (by decide +kernel) hx4 e118 rfl ?_
        refine xe_i2l (by decide +kernel) rfl (xq_ai_in e118) ?_
        cases h
        exact xe_ret_l (by decide +kernel) rfl ⟨rfl, rfl, fun v hv => by cases hv; exact (xin_N (xq_ai_in e118))⟩
def f183  (f : Nat) (a0 : Nat) (a1 : Int) (a2 : Int) (a3 : Int) (M : xj_M) : Option ((Nat ⊕ Int) × xj_M) := (if (a1) < 0 then f183_20   f  M else (if (6) ≤ (a1) then f183_20   f  M else (if (a2) < 0 then f183_20   f  M else (if (a2) < (12) then ((xq_gr 11 5 (a0) M).bind fun v123 => ((xq_gi 11 6 (a0) M).bind fun v125 => ((xq_ar (v123) (v125) M).bind fun v127 => ((xq_is 1 (v127) M).bind fun _ => ((f5  f (v127) M).bind fun R131 => ((xq_gr 2 3 (R131.1) R131.2).bind fun v133 => ((xq_al (v133) (xwr ((a1) + (xwr ((6) * (a2))))) R131.2).bind fun v135 => (if (-1000000000000) ≤ (v135) then f183_70   f (a0) (a3) (xwr ((a1) + (xwr ((6) * (a2))))) (v135) (0) R131.2 else f183_70   f (a0) (a3) (xwr ((a1) + (xwr ((6) * (a2))))) (v135) (1) R131.2)))))))) else f183_20   f  M))))
theorem k183 {d f : Nat}   {a0 : Nat} {a1 : Int} {a2 : Int} {a3 : Int} {M : xj_M} {R : (Nat ⊕ Int) × xj_M} (ha1 : xin a1) (ha2 : xin a2) (ha3 : xin a3) (h : f183  f a0 a1 a2 a3 M = some R) : xT (d + 6) 183 [xR_ a0, xI a1, xI a2, xI a3] M (xQtl R) := by
  refine xT_m xr_183_e (X := (none, d + 5, none)) rfl (xa_1 (xR_cat _) (xa_1 (xI_cat _) (xa_1 (xI_cat _) (xa_1 (xI_cat _) xa_n)))) (by decide) ?_
  unfold f183 at h
  refine xe_ldn (ins := .iload_n 1) (len := 1) (by decide +kernel) rfl rfl rfl rfl ?_
  refine xe_iflt (off := 19) (t := 20) (by decide +kernel) (by decide) rfl ha1 (fun c119 => ?_) (fun c119 => ?_)
  · rw [if_pos c119] at h
    refine xW_lv rfl (l := []) (xsb_of trivial (show [0, 1, 2, 3].Nodup by decide)) ?_
    exact k183_20    h
  · rw [if_neg c119] at h
    refine xe_ldn (ins := .iload_n 1) (len := 1) (by decide +kernel) rfl rfl rfl rfl ?_
    refine xe_bipush (n := 6) (by decide +kernel) (by decide) rfl ?_
    refine xe_icmpge (off := 13) (t := 20) (by decide +kernel) (by decide) rfl ha1 (show xin (6) by decide) (fun c120 => ?_) (fun c120 => ?_)
    · rw [if_pos c120] at h
      refine xW_lv rfl (l := []) (xsb_of trivial (show [0, 1, 2, 3].Nodup by decide)) ?_
      exact k183_20    h
    · rw [if_neg c120] at h
      refine xe_ldn (ins := .iload_n 2) (len := 1) (by decide +kernel) rfl rfl rfl rfl ?_
      refine xe_iflt (off := 9) (t := 20) (by decide +kernel) (by decide) rfl ha2 (fun c121 => ?_) (fun c121 => ?_)
      · rw [if_pos c121] at h
        refine xW_lv rfl (l := []) (xsb_of trivial (show [0, 1, 2, 3].Nodup by decide)) ?_
        exact k183_20    h
      · rw [if_neg c121] at h
        refine xe_ldn (ins := .iload_n 2) (len := 1) (by decide +kernel) rfl rfl rfl rfl ?_
        refine xe_bipush (n := 12) (by decide +kernel) (by decide) rfl ?_
        refine xe_icmplt (off := 11) (t := 28) (by decide +kernel) (by decide) rfl ha2 (show xin (12) by decide) (fun c122 => ?_) (fun c122 => ?_)
        · rw [if_pos c122] at h
          refine xe_ldn (ins := .iload_n 1) (len := 1) (by decide +kernel) rfl rfl rfl rfl ?_
          refine xe_bipush (n := 6) (by decide +kernel) (by decide) rfl ?_
          refine xe_ldn (ins := .iload_n 2) (len := 1) (by decide +kernel) rfl rfl rfl rfl ?_
          refine xe_imul (by decide +kernel) rfl ?_
          refine xe_iadd (by decide +kernel) rfl ?_
          refine xe_isr (ins := .istore 4) (len := 2) (i := 4) (by decide +kernel) rfl rfl rfl (by decide) (xk_k (show ¬ (0 : Nat) = 4 by decide) (Or.inl (show ¬ (0 + 1 : Nat) = 4 by decide)) (xk_k (show ¬ (1 : Nat) = 4 by decide) (Or.inl (show ¬ (1 + 1 : Nat) = 4 by decide)) (xk_k (show ¬ (2 : Nat) = 4 by decide) (Or.inl (show ¬ (2 + 1 : Nat) = 4 by decide)) (xk_k (show ¬ (3 : Nat) = 4 by decide) (Or.inr (xI_cat _)) xk_n)))) rfl ?_
          refine xe_alr (ins := .aload_n 0) (len := 1) (i := 0) (by decide +kernel) rfl rfl rfl rfl rfl ?_
          obtain ⟨v123, e124, h⟩ := xbnd h
          refine xs_gr (i := 50) (c := 11) (k := 5) (by decide +kernel) (by decide) (by decide +kernel) e124 rfl ?_
          refine xe_alr (ins := .aload_n 0) (len := 1) (i := 0) (by decide +kernel) rfl rfl rfl rfl rfl ?_
          obtain ⟨v125, e126, h⟩ := xbnd h
          refine xs_gi (i := 132) (c := 11) (k := 6) (by decide +kernel) (by decide) (by decide +kernel) e126 rfl ?_
          obtain ⟨v127, e128, h⟩ := xbnd h
          refine xs_aald (by decide +kernel) (xq_gi_in e126) e128 rfl ?_
          obtain ⟨_, e130, h⟩ := xbnd h
          obtain ⟨R131, e129, h⟩ := xbnd h
          refine xs_cv (i := 145) (j := 5) (ar := []) (rest := []) (r2 := xr_5) (by decide +kernel) (by decide +kernel) (by decide +kernel) xr_5_e rfl (by decide) (by decide) e130 ?_
          refine xc_r (k5 (d := d + 4)   e129) rfl ?_
          obtain ⟨v133, e134, h⟩ := xbnd h
          refine xs_gr (i := 93) (c := 2) (k := 3) (by decide +kernel) (by decide) (by decide +kernel) e134 rfl ?_
          refine xe_ldn (ins := .iload 4) (len := 2) (by decide +kernel) rfl rfl rfl rfl ?_
          obtain ⟨v135, e136, h⟩ := xbnd h
          refine xs_lald (by decide +kernel) (xin_wr _) e136 rfl ?_
          refine xe_lsr (ins := .lstore 5) (len := 2) (i := 5) (by decide +kernel) rfl rfl rfl (by decide) (xk2_k (show ¬ (4 : Nat) = 5 by decide) (show ¬ (4 : Nat) = 5 + 1 by decide) (Or.inr (xI_cat _)) (xk2_k (show ¬ (0 : Nat) = 5 by decide) (show ¬ (0 : Nat) = 5 + 1 by decide) (Or.inl (show ¬ (0 + 1 : Nat) = 5 by decide)) (xk2_k (show ¬ (1 : Nat) = 5 by decide) (show ¬ (1 : Nat) = 5 + 1 by decide) (Or.inl (show ¬ (1 + 1 : Nat) = 5 by decide)) (xk2_k (show ¬ (2 : Nat) = 5 by decide) (show ¬ (2 : Nat) = 5 + 1 by decide) (Or.inl (show ¬ (2 + 1 : Nat) = 5 by decide)) (xk2_k (show ¬ (3 : Nat) = 5 by decide) (show ¬ (3 : Nat) = 5 + 1 by decide) (Or.inl (show ¬ (3 + 1 : Nat) = 5 by decide)) xk2_n))))) rfl ?_
          refine xe_ldn (ins := .lload 5) (len := 2) (by decide +kernel) rfl rfl rfl rfl ?_
          refine xe_ldc2 (i := 360) (n := -1000000000000) (by decide +kernel) (by decide +kernel) rfl ?_
          refine xe_lcmp (by decide +kernel) rfl (xq_al_in e136) (show xiN (-1000000000000) by decide) ?_
          refine xe_ifge (off := 7) (t := 69) (by decide +kernel) (by decide) rfl (xin_cmp8 _ _) (fun c137 => ?_) (fun c137 => ?_)
          · have c137 := xcmp8_ge.mp c137; rw [if_pos c137] at h
            refine xe_iconst (n := 0) (by decide +kernel) rfl ?_
            refine xW_lv rfl (l := [(0, xR_ (a0)), (3, xI (a3)), (4, xI (xwr ((a1) + (xwr ((6) * (a2)))))), (5, xZ (v135))]) (xsb_of ⟨rfl, rfl, rfl, rfl, trivial⟩ (show [5, 4, 0, 1, 2, 3].Nodup by decide)) ?_
            exact k183_70   ha3 (xin_wr _) (xq_al_in e136) (show xin (0) by decide) h
          · have c137 := (not_congr xcmp8_ge).mp c137; rw [if_neg c137] at h
            refine xe_iconst (n := 1) (by decide +kernel) rfl ?_
            refine xe_goto (off := 4) (nx := 70) (by decide +kernel) (by decide) ?_
            refine xW_lv rfl (l := [(0, xR_ (a0)), (3, xI (a3)), (4, xI (xwr ((a1) + (xwr ((6) * (a2)))))), (5, xZ (v135))]) (xsb_of ⟨rfl, rfl, rfl, rfl, trivial⟩ (show [5, 4, 0, 1, 2, 3].Nodup by decide)) ?_
            exact k183_70   ha3 (xin_wr _) (xq_al_in e136) (show xin (1) by decide) h
        · rw [if_neg c122] at h
          refine xW_lv rfl (l := []) (xsb_of trivial (show [0, 1, 2, 3].Nodup by decide)) ?_
          exact k183_20    h
-- ChangeHouse.past
def xr_184 : xj_mR := (11, yX11_past, cX11_past, 4, (Option.some Jvm.ClassFile.FieldType.int), 2, false, (7, 170), (1, 1))
set_option maxRecDepth 20000 in
theorem xr_184_e : xj_row 184 = some xr_184 := rfl
def f184_38   (f : Nat)  (M : xj_M) : Option (Int × xj_M) := (some (-1, M))
theorem k184_38 {d f : Nat}      {M : xj_M} {R : Int × xj_M}  (h : f184_38   f  M = some R) : xW (d + 1) (none, d + 1, none) xr_184 (38, [], [], M) (xQi R) := by
  unfold f184_38 at h
  refine xe_iconst (n := -1) (by decide +kernel) rfl ?_
  cases h
  exact xe_ret_i (ty := .int) (by decide +kernel) rfl rfl ⟨rfl, rfl, (show xin (-1) by decide)⟩
def f184  (f : Nat) (a0 : Nat) (a1 : Int) (a2 : Int) (M : xj_M) : Option (Int × xj_M) := ((xq_gr 11 5 (a0) M).bind fun v101 => ((xq_gi 11 6 (a0) M).bind fun v103 => ((xq_ar (v101) (v103) M).bind fun v105 => ((xq_is 1 (v105) M).bind fun _ => ((f6  f (v105) (a1) M).bind fun R109 => (if (R109.1) = 0 then f184_38   f  R109.2 else (if (a2) < 0 then f184_38   f  R109.2 else ((xq_gr 1 0 (v105) R109.2).bind fun v113 => ((xq_ar (v113) (a1) R109.2).bind fun v115 => ((xq_gr 2 0 (v115) R109.2).bind fun v117 => ((xq_gi 3 1 (v117) R109.2).bind fun v119 => (if (a2) < (v119) then ((xq_gr 1 0 (v105) R109.2).bind fun v122 => ((xq_ar (v122) (a1) R109.2).bind fun v124 => ((xq_gr 2 1 (v124) R109.2).bind fun v126 => ((xq_ar (v126) (a2) R109.2).bind fun v128 => ((xq_gi 5 1 (v128) R109.2).bind fun v130 => (some (v130, R109.2))))))) else f184_38   f  R109.2))))))))))))
theorem k184 {d f : Nat}   {a0 : Nat} {a1 : Int} {a2 : Int} {M : xj_M} {R : Int × xj_M} (ha1 : xin a1) (ha2 : xin a2) (h : f184  f a0 a1 a2 M = some R) : xT (d + 2) 184 [xR_ a0, xI a1, xI a2] M (xQi R) := by
  refine xT_m xr_184_e (X := (none, d + 1, none)) rfl (xa_1 (xR_cat _) (xa_1 (xI_cat _) (xa_1 (xI_cat _) xa_n))) (by decide) ?_
  unfold f184 at h
  refine xe_alr (ins := .aload_n 0) (len := 1) (i := 0) (by decide +kernel) rfl rfl rfl rfl rfl ?_
  obtain ⟨v101, e102, h⟩ := xbnd h
  refine xs_gr (i := 50) (c := 11) (k := 5) (by decide +kernel) (by decide) (by decide +kernel) e102 rfl ?_
  refine xe_alr (ins := .aload_n 0) (len := 1) (i := 0) (by decide +kernel) rfl rfl rfl rfl rfl ?_
  obtain ⟨v103, e104, h⟩ := xbnd h
  refine xs_gi (i := 132) (c := 11) (k := 6) (by decide +kernel) (by decide) (by decide +kernel) e104 rfl ?_
  obtain ⟨v105, e106, h⟩ := xbnd h
  refine xs_aald (by decide +kernel) (xq_gi_in e104) e106 rfl ?_
  refine xe_asr (ins := .astore_n 3) (len := 1) (i := 3) (by decide +kernel) rfl rfl rfl (by decide) (xk_k (show ¬ (0 : Nat) = 3 by decide) (Or.inl (show ¬ (0 + 1 : Nat) = 3 by decide)) (xk_k (show ¬ (1 : Nat) = 3 by decide) (Or.inl (show ¬ (1 + 1 : Nat) = 3 by decide)) (xk_k (show ¬ (2 : Nat) = 3 by decide) (Or.inr (xI_cat _)) xk_n))) rfl ?_
  refine xe_alr (ins := .aload_n 3) (len := 1) (i := 3) (by decide +kernel) rfl rfl rfl rfl rfl ?_
  refine xe_ldn (ins := .iload_n 1) (len := 1) (by decide +kernel) rfl rfl rfl rfl ?_
  obtain ⟨_, e108, h⟩ := xbnd h
  obtain ⟨R109, e107, h⟩ := xbnd h
  refine xs_cv (i := 371) (j := 6) (ar := [xI (a1)]) (rest := []) (r2 := xr_6) (by decide +kernel) (by decide +kernel) (by decide +kernel) xr_6_e rfl (by decide) (by decide) e108 ?_
  refine xc_i (k6 (d := d + 0)  ha1 e107) rfl (fun hi110 => ?_)
  refine xe_ifeq (off := 23) (t := 38) (by decide +kernel) (by decide) rfl hi110 (fun c111 => ?_) (fun c111 => ?_)
  · rw [if_pos c111] at h
    refine xW_lv rfl (l := []) (xsb_of trivial (show [3, 0, 1, 2].Nodup by decide)) ?_
    exact k184_38    h
  · rw [if_neg c111] at h
    refine xe_ldn (ins := .iload_n 2) (len := 1) (by decide +kernel) rfl rfl rfl rfl ?_
    refine xe_iflt (off := 19) (t := 38) (by decide +kernel) (by decide) rfl ha2 (fun c112 => ?_) (fun c112 => ?_)
    · rw [if_pos c112] at h
      refine xW_lv rfl (l := []) (xsb_of trivial (show [3, 0, 1, 2].Nodup by decide)) ?_
      exact k184_38    h
    · rw [if_neg c112] at h
      refine xe_ldn (ins := .iload_n 2) (len := 1) (by decide +kernel) rfl rfl rfl rfl ?_
      refine xe_alr (ins := .aload_n 3) (len := 1) (i := 3) (by decide +kernel) rfl rfl rfl rfl rfl ?_
      obtain ⟨v113, e114, h⟩ := xbnd h
      refine xs_gr (i := 375) (c := 1) (k := 0) (by decide +kernel) (by decide) (by decide +kernel) e114 rfl ?_
      refine xe_ldn (ins := .iload_n 1) (len := 1) (by decide +kernel) rfl rfl rfl rfl ?_
      obtain ⟨v115, e116, h⟩ := xbnd h
      refine xs_aald (by decide +kernel) ha1 e116 rfl ?_
      obtain ⟨v117, e118, h⟩ := xbnd h
      refine xs_gr (i := 149) (c := 2) (k := 0) (by decide +kernel) (by decide) (by decide +kernel) e118 rfl ?_
      obtain ⟨v119, e120, h⟩ := xbnd h
      refine xs_gi (i := 253) (c := 3) (k := 1) (by decide +kernel) (by decide) (by decide +kernel) e120 rfl ?_
      refine xe_icmplt (off := 5) (t := 40) (by decide +kernel) (by decide) rfl ha2 (xq_gi_in e120) (fun c121 => ?_) (fun c121 => ?_)
      · rw [if_pos c121] at h
        refine xe_alr (ins := .aload_n 3) (len := 1) (i := 3) (by decide +kernel) rfl rfl rfl rfl rfl ?_
        obtain ⟨v122, e123, h⟩ := xbnd h
        refine xs_gr (i := 375) (c := 1) (k := 0) (by decide +kernel) (by decide) (by decide +kernel) e123 rfl ?_
        refine xe_ldn (ins := .iload_n 1) (len := 1) (by decide +kernel) rfl rfl rfl rfl ?_
        obtain ⟨v124, e125, h⟩ := xbnd h
        refine xs_aald (by decide +kernel) ha1 e125 rfl ?_
        obtain ⟨v126, e127, h⟩ := xbnd h
        refine xs_gr (i := 279) (c := 2) (k := 1) (by decide +kernel) (by decide) (by decide +kernel) e127 rfl ?_
        refine xe_ldn (ins := .iload_n 2) (len := 1) (by decide +kernel) rfl rfl rfl rfl ?_
        obtain ⟨v128, e129, h⟩ := xbnd h
        refine xs_aald (by decide +kernel) ha2 e129 rfl ?_
        obtain ⟨v130, e131, h⟩ := xbnd h
        refine xs_gi (i := 283) (c := 5) (k := 1) (by decide +kernel) (by decide) (by decide +kernel) e131 rfl ?_
        cases h
        exact xe_ret_i (ty := .int) (by decide +kernel) rfl rfl ⟨rfl, rfl, (xq_gi_in e131)⟩
      · rw [if_neg c121] at h
        refine xW_lv rfl (l := []) (xsb_of trivial (show [3, 0, 1, 2].Nodup by decide)) ?_
        exact k184_38    h
-- ChangeHouse.pastValue
def xr_185 : xj_mR := (11, yX11_pastValue, cX11_pastValue, 6, (Option.some Jvm.ClassFile.FieldType.long), 4, false, (8, 109), (1, 1))
set_option maxRecDepth 20000 in
theorem xr_185_e : xj_row 185 = some xr_185 := rfl
def f185_37   (f : Nat)  (M : xj_M) : Option ((Nat ⊕ Int) × xj_M) := (some (.inl 1, xj_new M (.inl ()) 6))
theorem k185_37 {d f : Nat}      {M : xj_M} {R : (Nat ⊕ Int) × xj_M}  (h : f185_37   f  M = some R) : xW (d + 5) (none, d + 5, none) xr_185 (37, [], [], M) (xQtl R) := by
  unfold f185_37 at h
  cases h
  exact xe_throw (i := 261) rfl (show 5 ≤ d + 5 by omega) (by decide +kernel) (by decide +kernel) (by decide +kernel) ⟨rfl, rfl, fun v hv => by cases hv⟩
def f185  (f : Nat) (a0 : Nat) (a1 : Int) (a2 : Int) (a3 : Int) (a4 : Int) (M : xj_M) : Option ((Nat ⊕ Int) × xj_M) := ((xq_gr 11 5 (a0) M).bind fun v101 => ((xq_gi 11 6 (a0) M).bind fun v103 => ((xq_ar (v101) (v103) M).bind fun v105 => ((xq_is 1 (v105) M).bind fun _ => ((f6  f (v105) (a1) M).bind fun R109 => (if (R109.1) = 0 then f185_37   f  R109.2 else ((xq_gr 1 0 (v105) R109.2).bind fun v112 => ((xq_ar (v112) (a1) R109.2).bind fun v114 => ((xq_is 2 (v114) R109.2).bind fun _ => ((f15  f (v114) (a2) (a3) (a4) R109.2).bind fun R118 => (if ¬ (R118.1) = 0 then ((xq_gr 1 0 (v105) R118.2).bind fun v121 => ((xq_ar (v121) (a1) R118.2).bind fun v123 => ((xq_gr 2 1 (v123) R118.2).bind fun v125 => ((xq_ar (v125) (a2) R118.2).bind fun v127 => ((xq_is 5 (v127) R118.2).bind fun _ => ((f70  f (v127) (a3) (a4) R118.2).bind fun R131 => (some (.inr (R131.1), R131.2)))))))) else f185_37   f  R118.2)))))))))))
theorem k185 {d f : Nat}   {a0 : Nat} {a1 : Int} {a2 : Int} {a3 : Int} {a4 : Int} {M : xj_M} {R : (Nat ⊕ Int) × xj_M} (ha1 : xin a1) (ha2 : xin a2) (ha3 : xin a3) (ha4 : xin a4) (h : f185  f a0 a1 a2 a3 a4 M = some R) : xT (d + 6) 185 [xR_ a0, xI a1, xI a2, xI a3, xI a4] M (xQtl R) := by
  refine xT_m xr_185_e (X := (none, d + 5, none)) rfl (xa_1 (xR_cat _) (xa_1 (xI_cat _) (xa_1 (xI_cat _) (xa_1 (xI_cat _) (xa_1 (xI_cat _) xa_n))))) (by decide) ?_
  unfold f185 at h
  refine xe_alr (ins := .aload_n 0) (len := 1) (i := 0) (by decide +kernel) rfl rfl rfl rfl rfl ?_
  obtain ⟨v101, e102, h⟩ := xbnd h
  refine xs_gr (i := 50) (c := 11) (k := 5) (by decide +kernel) (by decide) (by decide +kernel) e102 rfl ?_
  refine xe_alr (ins := .aload_n 0) (len := 1) (i := 0) (by decide +kernel) rfl rfl rfl rfl rfl ?_
  obtain ⟨v103, e104, h⟩ := xbnd h
  refine xs_gi (i := 132) (c := 11) (k := 6) (by decide +kernel) (by decide) (by decide +kernel) e104 rfl ?_
  obtain ⟨v105, e106, h⟩ := xbnd h
  refine xs_aald (by decide +kernel) (xq_gi_in e104) e106 rfl ?_
  refine xe_asr (ins := .astore 5) (len := 2) (i := 5) (by decide +kernel) rfl rfl rfl (by decide) (xk_k (show ¬ (0 : Nat) = 5 by decide) (Or.inl (show ¬ (0 + 1 : Nat) = 5 by decide)) (xk_k (show ¬ (1 : Nat) = 5 by decide) (Or.inl (show ¬ (1 + 1 : Nat) = 5 by decide)) (xk_k (show ¬ (2 : Nat) = 5 by decide) (Or.inl (show ¬ (2 + 1 : Nat) = 5 by decide)) (xk_k (show ¬ (3 : Nat) = 5 by decide) (Or.inl (show ¬ (3 + 1 : Nat) = 5 by decide)) (xk_k (show ¬ (4 : Nat) = 5 by decide) (Or.inr (xI_cat _)) xk_n))))) rfl ?_
  refine xe_alr (ins := .aload 5) (len := 2) (i := 5) (by decide +kernel) rfl rfl rfl rfl rfl ?_
  refine xe_ldn (ins := .iload_n 1) (len := 1) (by decide +kernel) rfl rfl rfl rfl ?_
  obtain ⟨_, e108, h⟩ := xbnd h
  obtain ⟨R109, e107, h⟩ := xbnd h
  refine xs_cv (i := 371) (j := 6) (ar := [xI (a1)]) (rest := []) (r2 := xr_6) (by decide +kernel) (by decide +kernel) (by decide +kernel) xr_6_e rfl (by decide) (by decide) e108 ?_
  refine xc_i (k6 (d := d + 4)  ha1 e107) rfl (fun hi110 => ?_)
  refine xe_ifeq (off := 20) (t := 37) (by decide +kernel) (by decide) rfl hi110 (fun c111 => ?_) (fun c111 => ?_)
  · rw [if_pos c111] at h
    refine xW_lv rfl (l := []) (xsb_of trivial (show [5, 0, 1, 2, 3, 4].Nodup by decide)) ?_
    exact k185_37    h
  · rw [if_neg c111] at h
    refine xe_alr (ins := .aload 5) (len := 2) (i := 5) (by decide +kernel) rfl rfl rfl rfl rfl ?_
    obtain ⟨v112, e113, h⟩ := xbnd h
    refine xs_gr (i := 375) (c := 1) (k := 0) (by decide +kernel) (by decide) (by decide +kernel) e113 rfl ?_
    refine xe_ldn (ins := .iload_n 1) (len := 1) (by decide +kernel) rfl rfl rfl rfl ?_
    obtain ⟨v114, e115, h⟩ := xbnd h
    refine xs_aald (by decide +kernel) ha1 e115 rfl ?_
    refine xe_ldn (ins := .iload_n 2) (len := 1) (by decide +kernel) rfl rfl rfl rfl ?_
    refine xe_ldn (ins := .iload_n 3) (len := 1) (by decide +kernel) rfl rfl rfl rfl ?_
    refine xe_ldn (ins := .iload 4) (len := 2) (by decide +kernel) rfl rfl rfl rfl ?_
    obtain ⟨_, e117, h⟩ := xbnd h
    obtain ⟨R118, e116, h⟩ := xbnd h
    refine xs_cv (i := 288) (j := 15) (ar := [xI (a4), xI (a3), xI (a2)]) (rest := []) (r2 := xr_15) (by decide +kernel) (by decide +kernel) (by decide +kernel) xr_15_e rfl (by decide) (by decide) e117 ?_
    refine xc_i (k15 (d := d + 4)  ha2 ha3 ha4 e116) rfl (fun hi119 => ?_)
    refine xe_ifne (off := 11) (t := 45) (by decide +kernel) (by decide) rfl hi119 (fun c120 => ?_) (fun c120 => ?_)
    · rw [if_pos c120] at h
      refine xe_alr (ins := .aload 5) (len := 2) (i := 5) (by decide +kernel) rfl rfl rfl rfl rfl ?_
      obtain ⟨v121, e122, h⟩ := xbnd h
      refine xs_gr (i := 375) (c := 1) (k := 0) (by decide +kernel) (by decide) (by decide +kernel) e122 rfl ?_
      refine xe_ldn (ins := .iload_n 1) (len := 1) (by decide +kernel) rfl rfl rfl rfl ?_
      obtain ⟨v123, e124, h⟩ := xbnd h
      refine xs_aald (by decide +kernel) ha1 e124 rfl ?_
      obtain ⟨v125, e126, h⟩ := xbnd h
      refine xs_gr (i := 279) (c := 2) (k := 1) (by decide +kernel) (by decide) (by decide +kernel) e126 rfl ?_
      refine xe_ldn (ins := .iload_n 2) (len := 1) (by decide +kernel) rfl rfl rfl rfl ?_
      obtain ⟨v127, e128, h⟩ := xbnd h
      refine xs_aald (by decide +kernel) ha2 e128 rfl ?_
      refine xe_ldn (ins := .iload_n 3) (len := 1) (by decide +kernel) rfl rfl rfl rfl ?_
      refine xe_ldn (ins := .iload 4) (len := 2) (by decide +kernel) rfl rfl rfl rfl ?_
      obtain ⟨_, e130, h⟩ := xbnd h
      obtain ⟨R131, e129, h⟩ := xbnd h
      refine xs_cv (i := 292) (j := 70) (ar := [xI (a4), xI (a3)]) (rest := []) (r2 := xr_70) (by decide +kernel) (by decide +kernel) (by decide +kernel) xr_70_e rfl (by decide) (by decide) e130 ?_
      refine xc_l (k70 (d := d + 4)  ha3 ha4 e129) rfl (fun hi132 => ?_)
      cases h
      exact xe_ret_l (by decide +kernel) rfl ⟨rfl, rfl, fun v hv => by cases hv; exact hi132⟩
    · rw [if_neg c120] at h
      refine xW_lv rfl (l := []) (xsb_of trivial (show [5, 0, 1, 2, 3, 4].Nodup by decide)) ?_
      exact k185_37    h
-- ChangeHouse.line
def xr_188 : xj_mR := (11, yX11_line, cX11_line, 3, (Option.some Jvm.ClassFile.FieldType.int), 1, false, (7, 197), (1, 1))
set_option maxRecDepth 20000 in
theorem xr_188_e : xj_row 188 = some xr_188 := rfl
def f188_9   (f : Nat)  (M : xj_M) : Option (Int × xj_M) := (some (-1, M))
theorem k188_9 {d f : Nat}      {M : xj_M} {R : Int × xj_M}  (h : f188_9   f  M = some R) : xW (d + 0) (none, d + 0, none) xr_188 (9, [], [], M) (xQi R) := by
  unfold f188_9 at h
  refine xe_iconst (n := -1) (by decide +kernel) rfl ?_
  cases h
  exact xe_ret_i (ty := .int) (by decide +kernel) rfl rfl ⟨rfl, rfl, (show xin (-1) by decide)⟩
def f188  (f : Nat) (a0 : Nat) (a1 : Int) (M : xj_M) : Option (Int × xj_M) := (if (a1) < 0 then f188_9   f  M else (if (a1) < (4) then ((xq_gi 11 6 (a0) M).bind fun v103 => ((xq_pi 11 6 (a0) (a1) M).bind fun M105 => ((xq_pr 11 13 (a0) (0) M105).bind fun M107 => (some (v103, M107))))) else f188_9   f  M))
theorem k188 {d f : Nat}   {a0 : Nat} {a1 : Int} {M : xj_M} {R : Int × xj_M} (ha1 : xin a1) (h : f188  f a0 a1 M = some R) : xT (d + 1) 188 [xR_ a0, xI a1] M (xQi R) := by
  refine xT_m xr_188_e (X := (none, d + 0, none)) rfl (xa_1 (xR_cat _) (xa_1 (xI_cat _) xa_n)) (by decide) ?_
  unfold f188 at h
  refine xe_ldn (ins := .iload_n 1) (len := 1) (by decide +kernel) rfl rfl rfl rfl ?_
  refine xe_iflt (off := 8) (t := 9) (by decide +kernel) (by decide) rfl ha1 (fun c101 => ?_) (fun c101 => ?_)
  · rw [if_pos c101] at h
    refine xW_lv rfl (l := []) (xsb_of trivial (show [0, 1].Nodup by decide)) ?_
    exact k188_9    h
  · rw [if_neg c101] at h
    refine xe_ldn (ins := .iload_n 1) (len := 1) (by decide +kernel) rfl rfl rfl rfl ?_
    refine xe_iconst (n := 4) (by decide +kernel) rfl ?_
    refine xe_icmplt (off := 5) (t := 11) (by decide +kernel) (by decide) rfl ha1 (show xin (4) by decide) (fun c102 => ?_) (fun c102 => ?_)
    · rw [if_pos c102] at h
      refine xe_alr (ins := .aload_n 0) (len := 1) (i := 0) (by decide +kernel) rfl rfl rfl rfl rfl ?_
      obtain ⟨v103, e104, h⟩ := xbnd h
      refine xs_gi (i := 132) (c := 11) (k := 6) (by decide +kernel) (by decide) (by decide +kernel) e104 rfl ?_
      refine xe_isr (ins := .istore_n 2) (len := 1) (i := 2) (by decide +kernel) rfl rfl rfl (by decide) (xk_k (show ¬ (0 : Nat) = 2 by decide) (Or.inl (show ¬ (0 + 1 : Nat) = 2 by decide)) (xk_k (show ¬ (1 : Nat) = 2 by decide) (Or.inr (xI_cat _)) xk_n)) rfl ?_
      refine xe_alr (ins := .aload_n 0) (len := 1) (i := 0) (by decide +kernel) rfl rfl rfl rfl rfl ?_
      refine xe_ldn (ins := .iload_n 1) (len := 1) (by decide +kernel) rfl rfl rfl rfl ?_
      obtain ⟨M105, e106, h⟩ := xbnd h
      refine xs_p (i := 132) (c := 11) (k := 6) (by decide +kernel) (by decide +kernel) (by decide +kernel) e106 rfl ?_
      refine xe_alr (ins := .aload_n 0) (len := 1) (i := 0) (by decide +kernel) rfl rfl rfl rfl rfl ?_
      refine xe_pure (ins := .aconst_null) (len := 1) (by decide +kernel) rfl rfl rfl ?_
      obtain ⟨M107, e108, h⟩ := xbnd h
      refine xs_p (i := 244) (c := 11) (k := 13) (by decide +kernel) (by decide +kernel) (by decide +kernel) e108 rfl ?_
      refine xe_ldn (ins := .iload_n 2) (len := 1) (by decide +kernel) rfl rfl rfl rfl ?_
      cases h
      exact xe_ret_i (ty := .int) (by decide +kernel) rfl rfl ⟨rfl, rfl, (xq_gi_in e104)⟩
    · rw [if_neg c102] at h
      refine xW_lv rfl (l := []) (xsb_of trivial (show [0, 1].Nodup by decide)) ?_
      exact k188_9    h
-- ChangeHouse.met
def xr_191 : xj_mR := (11, yX11_met, cX11_met, 2, (Option.some Jvm.ClassFile.FieldType.long), 1, false, (8, 116), (1, 1))
set_option maxRecDepth 20000 in
theorem xr_191_e : xj_row 191 = some xr_191 := rfl
def f191_20   (f : Nat)  (M : xj_M) : Option ((Nat ⊕ Int) × xj_M) := (some (.inl 1, xj_new M (.inl ()) 6))
theorem k191_20 {d f : Nat}      {M : xj_M} {R : (Nat ⊕ Int) × xj_M}  (h : f191_20   f  M = some R) : xW (d + 5) (none, d + 5, none) xr_191 (20, [], [], M) (xQtl R) := by
  unfold f191_20 at h
  cases h
  exact xe_throw (i := 261) rfl (show 5 ≤ d + 5 by omega) (by decide +kernel) (by decide +kernel) (by decide +kernel) ⟨rfl, rfl, fun v hv => by cases hv⟩
def f191_48   (f : Nat) (y0 : Int) (M : xj_M) : Option ((Nat ⊕ Int) × xj_M) := (some (.inr (y0), M))
theorem k191_48 {d f : Nat}     {y0 : Int} {M : xj_M} {R : (Nat ⊕ Int) × xj_M} (hy0 : xiN y0) (h : f191_48   f y0 M = some R) : xW (d + 5) (none, d + 5, none) xr_191 (48, [], [xZ y0], M) (xQtl R) := by
  unfold f191_48 at h
  cases h
  exact xe_ret_l (by decide +kernel) rfl ⟨rfl, rfl, fun v hv => by cases hv; exact hy0⟩
def f191  (f : Nat) (a0 : Nat) (a1 : Int) (M : xj_M) : Option ((Nat ⊕ Int) × xj_M) := ((xq_gi 11 15 (a0) M).bind fun v101 => (if (v101) = (-1) then f191_20   f  M else (if (a1) < 0 then f191_20   f  M else ((xq_gi 11 16 (a0) M).bind fun v105 => (if (a1) ≤ (v105) then (if ¬ (a1) = 0 then ((xq_gr 11 14 (a0) M).bind fun v109 => ((xq_al (v109) (xwr ((a1) - (1))) M).bind fun v111 => f191_48   f (v111) M)) else ((xq_gi 11 15 (a0) M).bind fun v113 => f191_48   f (v113) M)) else f191_20   f  M)))))
theorem k191 {d f : Nat}   {a0 : Nat} {a1 : Int} {M : xj_M} {R : (Nat ⊕ Int) × xj_M} (ha1 : xin a1) (h : f191  f a0 a1 M = some R) : xT (d + 6) 191 [xR_ a0, xI a1] M (xQtl R) := by
  refine xT_m xr_191_e (X := (none, d + 5, none)) rfl (xa_1 (xR_cat _) (xa_1 (xI_cat _) xa_n)) (by decide) ?_
  unfold f191 at h
  refine xe_alr (ins := .aload_n 0) (len := 1) (i := 0) (by decide +kernel) rfl rfl rfl rfl rfl ?_
  obtain ⟨v101, e102, h⟩ := xbnd h
  refine xs_gi (i := 74) (c := 11) (k := 15) (by decide +kernel) (by decide) (by decide +kernel) e102 rfl ?_
  refine xe_iconst (n := -1) (by decide +kernel) rfl ?_
  refine xe_icmpeq (off := 15) (t := 20) (by decide +kernel) (by decide) rfl (xq_gi_in e102) (show xin (-1) by decide) (fun c103 => ?_) (fun c103 => ?_)
  · rw [if_pos c103] at h
    refine xW_lv rfl (l := []) (xsb_of trivial (show [0, 1].Nodup by decide)) ?_
    exact k191_20    h
  · rw [if_neg c103] at h
    refine xe_ldn (ins := .iload_n 1) (len := 1) (by decide +kernel) rfl rfl rfl rfl ?_
    refine xe_iflt (off := 11) (t := 20) (by decide +kernel) (by decide) rfl ha1 (fun c104 => ?_) (fun c104 => ?_)
    · rw [if_pos c104] at h
      refine xW_lv rfl (l := []) (xsb_of trivial (show [0, 1].Nodup by decide)) ?_
      exact k191_20    h
    · rw [if_neg c104] at h
      refine xe_ldn (ins := .iload_n 1) (len := 1) (by decide +kernel) rfl rfl rfl rfl ?_
      refine xe_alr (ins := .aload_n 0) (len := 1) (i := 0) (by decide +kernel) rfl rfl rfl rfl rfl ?_
      obtain ⟨v105, e106, h⟩ := xbnd h
      refine xs_gi (i := 415) (c := 11) (k := 16) (by decide +kernel) (by decide) (by decide +kernel) e106 rfl ?_
      refine xe_icmple (off := 11) (t := 28) (by decide +kernel) (by decide) rfl ha1 (xq_gi_in e106) (fun c107 => ?_) (fun c107 => ?_)
      · rw [if_pos c107] at h
        refine xe_ldn (ins := .iload_n 1) (len := 1) (by decide +kernel) rfl rfl rfl rfl ?_
        refine xe_ifne (off := 11) (t := 40) (by decide +kernel) (by decide) rfl ha1 (fun c108 => ?_) (fun c108 => ?_)
        · rw [if_pos c108] at h
          refine xe_alr (ins := .aload_n 0) (len := 1) (i := 0) (by decide +kernel) rfl rfl rfl rfl rfl ?_
          obtain ⟨v109, e110, h⟩ := xbnd h
          refine xs_gr (i := 70) (c := 11) (k := 14) (by decide +kernel) (by decide) (by decide +kernel) e110 rfl ?_
          refine xe_ldn (ins := .iload_n 1) (len := 1) (by decide +kernel) rfl rfl rfl rfl ?_
          refine xe_iconst (n := 1) (by decide +kernel) rfl ?_
          refine xe_isub (by decide +kernel) rfl ?_
          obtain ⟨v111, e112, h⟩ := xbnd h
          refine xs_lald (by decide +kernel) (xin_wr _) e112 rfl ?_
          refine xW_lv rfl (l := []) (xsb_of trivial (show [0, 1].Nodup by decide)) ?_
          exact k191_48   (xq_al_in e112) h
        · rw [if_neg c108] at h
          refine xe_alr (ins := .aload_n 0) (len := 1) (i := 0) (by decide +kernel) rfl rfl rfl rfl rfl ?_
          obtain ⟨v113, e114, h⟩ := xbnd h
          refine xs_gi (i := 74) (c := 11) (k := 15) (by decide +kernel) (by decide) (by decide +kernel) e114 rfl ?_
          refine xe_i2l (by decide +kernel) rfl (xq_gi_in e114) ?_
          refine xe_goto (off := 11) (nx := 48) (by decide +kernel) (by decide) ?_
          refine xW_lv rfl (l := []) (xsb_of trivial (show [0, 1].Nodup by decide)) ?_
          exact k191_48   (xin_N (xq_gi_in e114)) h
      · rw [if_neg c107] at h
        refine xW_lv rfl (l := []) (xsb_of trivial (show [0, 1].Nodup by decide)) ?_
        exact k191_20    h
-- ChangeHouse.reckon
def xr_192 : xj_mR := (11, yX11_reckon, cX11_reckon, 7, (Option.some Jvm.ClassFile.FieldType.long), 3, false, (6, 221), (1, 1))
set_option maxRecDepth 20000 in
theorem xr_192_e : xj_row 192 = some xr_192 := rfl
def f192_36   (f : Nat)  (M : xj_M) : Option (Int × xj_M) := (some (-8999999999999999998, M))
theorem k192_36 {d f : Nat}      {M : xj_M} {R : Int × xj_M}  (h : f192_36   f  M = some R) : xW (d + 0) (none, d + 0, none) xr_192 (36, [], [], M) (xQl R) := by
  unfold f192_36 at h
  refine xe_ldc2 (i := 420) (n := -8999999999999999998) (by decide +kernel) (by decide +kernel) rfl ?_
  cases h
  exact xe_ret_l (by decide +kernel) rfl ⟨rfl, rfl, (show xiN (-8999999999999999998) by decide)⟩
def f192_164   (f : Nat) (y0 : Int) (M : xj_M) : Option (Int × xj_M) := (some (y0, M))
theorem k192_164 {d f : Nat}     {y0 : Int} {M : xj_M} {R : Int × xj_M} (hy0 : xiN y0) (h : f192_164   f y0 M = some R) : xW (d + 0) (none, d + 0, none) xr_192 (164, [], [xZ y0], M) (xQl R) := by
  unfold f192_164 at h
  cases h
  exact xe_ret_l (by decide +kernel) rfl ⟨rfl, rfl, hy0⟩
def f192_156   (f : Nat)  (M : xj_M) : Option (Int × xj_M) := f192_164   f (-8999999999999999997) M
theorem k192_156 {d f : Nat}      {M : xj_M} {R : Int × xj_M}  (h : f192_156   f  M = some R) : xW (d + 0) (none, d + 0, none) xr_192 (156, [], [], M) (xQl R) := by
  unfold f192_156 at h
  refine xe_ldc2 (i := 428) (n := -8999999999999999997) (by decide +kernel) (by decide +kernel) rfl ?_
  refine xe_goto (off := 5) (nx := 164) (by decide +kernel) (by decide) ?_
  refine xW_lv rfl (l := []) (xsb_of trivial (show [].Nodup by decide)) ?_
  exact k192_164   (show xiN (-8999999999999999997) by decide) h
def f192_138   (f : Nat) (x5 : Int) (M : xj_M) : Option (Int × xj_M) := (if (1000000000000) < (x5) then f192_156   f  M else (if (-1000000000000) ≤ (x5) then f192_164   f (x5) M else f192_156   f  M))
theorem k192_138 {d f : Nat}     {x5 : Int} {M : xj_M} {R : Int × xj_M} (hx5 : xiN x5) (h : f192_138   f x5 M = some R) : xW (d + 0) (none, d + 0, none) xr_192 (138, [(5, xZ x5)], [], M) (xQl R) := by
  unfold f192_138 at h
  refine xe_ldn (ins := .lload 5) (len := 2) (by decide +kernel) rfl rfl rfl rfl ?_
  refine xe_ldc2 (i := 418) (n := 1000000000000) (by decide +kernel) (by decide +kernel) rfl ?_
  refine xe_lcmp (by decide +kernel) rfl hx5 (show xiN (1000000000000) by decide) ?_
  refine xe_ifgt (off := 12) (t := 156) (by decide +kernel) (by decide) rfl (xin_cmp8 _ _) (fun c101 => ?_) (fun c101 => ?_)
  · have c101 := xcmp8_gt.mp c101; rw [if_pos c101] at h
    refine xW_lv rfl (l := []) (xsb_of trivial (show [5].Nodup by decide)) ?_
    exact k192_156    h
  · have c101 := (not_congr xcmp8_gt).mp c101; rw [if_neg c101] at h
    refine xe_ldn (ins := .lload 5) (len := 2) (by decide +kernel) rfl rfl rfl rfl ?_
    refine xe_ldc2 (i := 360) (n := -1000000000000) (by decide +kernel) (by decide +kernel) rfl ?_
    refine xe_lcmp (by decide +kernel) rfl hx5 (show xiN (-1000000000000) by decide) ?_
    refine xe_ifge (off := 9) (t := 162) (by decide +kernel) (by decide) rfl (xin_cmp8 _ _) (fun c102 => ?_) (fun c102 => ?_)
    · have c102 := xcmp8_ge.mp c102; rw [if_pos c102] at h
      refine xe_ldn (ins := .lload 5) (len := 2) (by decide +kernel) rfl rfl rfl rfl ?_
      refine xW_lv rfl (l := []) (xsb_of trivial (show [5].Nodup by decide)) ?_
      exact k192_164   hx5 h
    · have c102 := (not_congr xcmp8_ge).mp c102; rw [if_neg c102] at h
      refine xW_lv rfl (l := []) (xsb_of trivial (show [5].Nodup by decide)) ?_
      exact k192_156    h
def f192_103   (f : Nat) (x1 : Int) (x3 : Int) (M : xj_M) : Option (Int × xj_M) := f192_138   f (xwl ((x1) * (x3))) M
theorem k192_103 {d f : Nat}     {x1 : Int} {x3 : Int} {M : xj_M} {R : Int × xj_M} (hx1 : xiN x1) (hx3 : xiN x3) (h : f192_103   f x1 x3 M = some R) : xW (d + 0) (none, d + 0, none) xr_192 (103, [(1, xZ x1), (3, xZ x3)], [], M) (xQl R) := by
  unfold f192_103 at h
  refine xe_ldn (ins := .lload_n 1) (len := 1) (by decide +kernel) rfl rfl rfl rfl ?_
  refine xe_ldn (ins := .lload_n 3) (len := 1) (by decide +kernel) rfl rfl rfl rfl ?_
  refine xe_lmul (by decide +kernel) rfl ?_
  refine xe_lsr (ins := .lstore 5) (len := 2) (i := 5) (by decide +kernel) rfl rfl rfl (by decide) (xk2_k (show ¬ (1 : Nat) = 5 by decide) (show ¬ (1 : Nat) = 5 + 1 by decide) (Or.inl (show ¬ (1 + 1 : Nat) = 5 by decide)) (xk2_k (show ¬ (3 : Nat) = 5 by decide) (show ¬ (3 : Nat) = 5 + 1 by decide) (Or.inl (show ¬ (3 + 1 : Nat) = 5 by decide)) xk2_n)) rfl ?_
  refine xe_goto (off := 30) (nx := 138) (by decide +kernel) (by decide) ?_
  refine xW_lv rfl (l := [(5, xZ (xwl ((x1) * (x3))))]) (xsb_of ⟨rfl, trivial⟩ (show [5, 1, 3].Nodup by decide)) ?_
  exact k192_138   (xiN_wl _) h
def f192_136   (f : Nat) (y0 : Int) (M : xj_M) : Option (Int × xj_M) := f192_138   f (y0) M
theorem k192_136 {d f : Nat}     {y0 : Int} {M : xj_M} {R : Int × xj_M} (hy0 : xiN y0) (h : f192_136   f y0 M = some R) : xW (d + 0) (none, d + 0, none) xr_192 (136, [], [xZ y0], M) (xQl R) := by
  unfold f192_136 at h
  refine xe_lsr (ins := .lstore 5) (len := 2) (i := 5) (by decide +kernel) rfl rfl rfl (by decide) xk2_n rfl ?_
  refine xW_lv rfl (l := [(5, xZ (y0))]) (xsb_of ⟨rfl, trivial⟩ (show [5].Nodup by decide)) ?_
  exact k192_138   hy0 h
def f192  (f : Nat) (a0 : Int) (a1 : Int) (a2 : Int) (M : xj_M) : Option (Int × xj_M) := (if (-1000000000000) ≤ (a1) then (if (-1000000000000) ≤ (a2) then (if (1000000000000) < (a1) then f192_36   f  M else (if (a2) ≤ (1000000000000) then (if ¬ (a0) = (43) then (if ¬ (a0) = (45) then (if ¬ (a0) = (42) then (if ¬ (a2) = (0) then (if ¬ (a0) = (47) then (if (a2) = 0 then none else f192_136   f (xrem8 (a1) (a2)) M) else (if (a2) = 0 then none else f192_136   f (xdiv8 (a1) (a2)) M)) else (some (-8999999999999999997, M))) else (if (a1) = (0) then f192_103   f (a1) (a2) M else (if (xabs8 (a1)) = 0 then none else (if (xabs8 (a2)) ≤ (xdiv8 (1000000000000) (xabs8 (a1))) then f192_103   f (a1) (a2) M else (some (-8999999999999999997, M)))))) else f192_138   f (xwl ((a1) - (a2))) M) else f192_138   f (xwl ((a1) + (a2))) M) else f192_36   f  M)) else (some (a2, M))) else (some (a1, M)))
theorem k192 {d f : Nat}   {a0 : Int} {a1 : Int} {a2 : Int} {M : xj_M} {R : Int × xj_M} (ha0 : xin a0) (ha1 : xiN a1) (ha2 : xiN a2) (h : f192  f a0 a1 a2 M = some R) : xT (d + 1) 192 [xI a0, xZ a1, xZ a2] M (xQl R) := by
  refine xT_m xr_192_e (X := (none, d + 0, none)) rfl (xa_1 (xI_cat _) (xa_2 (xZ_cat _) (xa_2 (xZ_cat _) xa_n))) (by decide) ?_
  unfold f192 at h
  refine xe_ldn (ins := .lload_n 1) (len := 1) (by decide +kernel) rfl rfl rfl rfl ?_
  refine xe_ldc2 (i := 360) (n := -1000000000000) (by decide +kernel) (by decide +kernel) rfl ?_
  refine xe_lcmp (by decide +kernel) rfl ha1 (show xiN (-1000000000000) by decide) ?_
  refine xe_ifge (off := 5) (t := 10) (by decide +kernel) (by decide) rfl (xin_cmp8 _ _) (fun c103 => ?_) (fun c103 => ?_)
  · have c103 := xcmp8_ge.mp c103; rw [if_pos c103] at h
    refine xe_ldn (ins := .lload_n 3) (len := 1) (by decide +kernel) rfl rfl rfl rfl ?_
    refine xe_ldc2 (i := 360) (n := -1000000000000) (by decide +kernel) (by decide +kernel) rfl ?_
    refine xe_lcmp (by decide +kernel) rfl ha2 (show xiN (-1000000000000) by decide) ?_
    refine xe_ifge (off := 5) (t := 20) (by decide +kernel) (by decide) rfl (xin_cmp8 _ _) (fun c104 => ?_) (fun c104 => ?_)
    · have c104 := xcmp8_ge.mp c104; rw [if_pos c104] at h
      refine xe_ldn (ins := .lload_n 1) (len := 1) (by decide +kernel) rfl rfl rfl rfl ?_
      refine xe_ldc2 (i := 418) (n := 1000000000000) (by decide +kernel) (by decide +kernel) rfl ?_
      refine xe_lcmp (by decide +kernel) rfl ha1 (show xiN (1000000000000) by decide) ?_
      refine xe_ifgt (off := 11) (t := 36) (by decide +kernel) (by decide) rfl (xin_cmp8 _ _) (fun c105 => ?_) (fun c105 => ?_)
      · have c105 := xcmp8_gt.mp c105; rw [if_pos c105] at h
        refine xW_lv rfl (l := []) (xsb_of trivial (show [0, 1, 3].Nodup by decide)) ?_
        exact k192_36    h
      · have c105 := (not_congr xcmp8_gt).mp c105; rw [if_neg c105] at h
        refine xe_ldn (ins := .lload_n 3) (len := 1) (by decide +kernel) rfl rfl rfl rfl ?_
        refine xe_ldc2 (i := 418) (n := 1000000000000) (by decide +kernel) (by decide +kernel) rfl ?_
        refine xe_lcmp (by decide +kernel) rfl ha2 (show xiN (1000000000000) by decide) ?_
        refine xe_ifle (off := 7) (t := 40) (by decide +kernel) (by decide) rfl (xin_cmp8 _ _) (fun c106 => ?_) (fun c106 => ?_)
        · have c106 := xcmp8_le.mp c106; rw [if_pos c106] at h
          refine xe_lconst (n := 0) (z := 0) (by decide +kernel) rfl rfl ?_
          refine xe_lsr (ins := .lstore 5) (len := 2) (i := 5) (by decide +kernel) rfl rfl rfl (by decide) (xk2_k (show ¬ (0 : Nat) = 5 by decide) (show ¬ (0 : Nat) = 5 + 1 by decide) (Or.inl (show ¬ (0 + 1 : Nat) = 5 by decide)) (xk2_k (show ¬ (1 : Nat) = 5 by decide) (show ¬ (1 : Nat) = 5 + 1 by decide) (Or.inl (show ¬ (1 + 1 : Nat) = 5 by decide)) (xk2_k (show ¬ (3 : Nat) = 5 by decide) (show ¬ (3 : Nat) = 5 + 1 by decide) (Or.inl (show ¬ (3 + 1 : Nat) = 5 by decide)) xk2_n))) rfl ?_
          refine xe_ldn (ins := .iload_n 0) (len := 1) (by decide +kernel) rfl rfl rfl rfl ?_
          refine xe_bipush (n := 43) (by decide +kernel) (by decide) rfl ?_
          refine xe_icmpne (off := 11) (t := 57) (by decide +kernel) (by decide) rfl ha0 (show xin (43) by decide) (fun c107 => ?_) (fun c107 => ?_)
          · rw [if_pos c107] at h
            refine xe_ldn (ins := .iload_n 0) (len := 1) (by decide +kernel) rfl rfl rfl rfl ?_
            refine xe_bipush (n := 45) (by decide +kernel) (by decide) rfl ?_
            refine xe_icmpne (off := 11) (t := 71) (by decide +kernel) (by decide) rfl ha0 (show xin (45) by decide) (fun c108 => ?_) (fun c108 => ?_)
            · rw [if_pos c108] at h
              refine xe_ldn (ins := .iload_n 0) (len := 1) (by decide +kernel) rfl rfl rfl rfl ?_
              refine xe_bipush (n := 42) (by decide +kernel) (by decide) rfl ?_
              refine xe_icmpne (off := 37) (t := 111) (by decide +kernel) (by decide) rfl ha0 (show xin (42) by decide) (fun c109 => ?_) (fun c109 => ?_)
              · rw [if_pos c109] at h
                refine xe_ldn (ins := .lload_n 3) (len := 1) (by decide +kernel) rfl rfl rfl rfl ?_
                refine xe_lconst (n := 0) (z := 0) (by decide +kernel) rfl rfl ?_
                refine xe_lcmp (by decide +kernel) rfl ha2 (show xiN (0) by decide) ?_
                refine xe_ifne (off := 7) (t := 121) (by decide +kernel) (by decide) rfl (xin_cmp8 _ _) (fun c110 => ?_) (fun c110 => ?_)
                · have c110 := xcmp8_ne.mp c110; rw [if_pos c110] at h
                  refine xe_ldn (ins := .iload_n 0) (len := 1) (by decide +kernel) rfl rfl rfl rfl ?_
                  refine xe_bipush (n := 47) (by decide +kernel) (by decide) rfl ?_
                  refine xe_icmpne (off := 9) (t := 133) (by decide +kernel) (by decide) rfl ha0 (show xin (47) by decide) (fun c111 => ?_) (fun c111 => ?_)
                  · rw [if_pos c111] at h
                    refine xe_ldn (ins := .lload_n 1) (len := 1) (by decide +kernel) rfl rfl rfl rfl ?_
                    refine xe_ldn (ins := .lload_n 3) (len := 1) (by decide +kernel) rfl rfl rfl rfl ?_
                    by_cases c112 : (a2) = 0
                    · rw [if_pos c112] at h; cases h
                    rw [if_neg c112] at h
                    refine xe_lrem (by decide +kernel) rfl ha2 c112 ?_
                    refine xW_lv rfl (l := []) (xsb_of trivial (show [5, 0, 1, 3].Nodup by decide)) ?_
                    exact k192_136   (xiN_of _) h
                  · rw [if_neg c111] at h
                    refine xe_ldn (ins := .lload_n 1) (len := 1) (by decide +kernel) rfl rfl rfl rfl ?_
                    refine xe_ldn (ins := .lload_n 3) (len := 1) (by decide +kernel) rfl rfl rfl rfl ?_
                    by_cases c113 : (a2) = 0
                    · rw [if_pos c113] at h; cases h
                    rw [if_neg c113] at h
                    refine xe_ldiv (by decide +kernel) rfl ha2 c113 ?_
                    refine xe_goto (off := 6) (nx := 136) (by decide +kernel) (by decide) ?_
                    refine xW_lv rfl (l := []) (xsb_of trivial (show [5, 0, 1, 3].Nodup by decide)) ?_
                    exact k192_136   (xiN_of _) h
                · have c110 := (not_congr xcmp8_ne).mp c110; rw [if_neg c110] at h
                  refine xe_ldc2 (i := 428) (n := -8999999999999999997) (by decide +kernel) (by decide +kernel) rfl ?_
                  cases h
                  exact xe_ret_l (by decide +kernel) rfl ⟨rfl, rfl, (show xiN (-8999999999999999997) by decide)⟩
              · rw [if_neg c109] at h
                refine xe_ldn (ins := .lload_n 1) (len := 1) (by decide +kernel) rfl rfl rfl rfl ?_
                refine xe_lconst (n := 0) (z := 0) (by decide +kernel) rfl rfl ?_
                refine xe_lcmp (by decide +kernel) rfl ha1 (show xiN (0) by decide) ?_
                refine xe_ifeq (off := 23) (t := 103) (by decide +kernel) (by decide) rfl (xin_cmp8 _ _) (fun c114 => ?_) (fun c114 => ?_)
                · have c114 := xcmp8_eq.mp c114; rw [if_pos c114] at h
                  refine xW_lv rfl (l := [(1, xZ (a1)), (3, xZ (a2))]) (xsb_of ⟨rfl, rfl, trivial⟩ (show [5, 0, 1, 3].Nodup by decide)) ?_
                  exact k192_103   ha1 ha2 h
                · have c114 := (not_congr xcmp8_eq).mp c114; rw [if_neg c114] at h
                  refine xe_ldn (ins := .lload_n 3) (len := 1) (by decide +kernel) rfl rfl rfl rfl ?_
                  refine xe_xabl (i := 422) (by decide +kernel) (by decide +kernel) (by decide +kernel) (by rfl) rfl ha2 ?_
                  refine xe_ldc2 (i := 418) (n := 1000000000000) (by decide +kernel) (by decide +kernel) rfl ?_
                  refine xe_ldn (ins := .lload_n 1) (len := 1) (by decide +kernel) rfl rfl rfl rfl ?_
                  refine xe_xabl (i := 422) (by decide +kernel) (by decide +kernel) (by decide +kernel) (by rfl) rfl ha1 ?_
                  by_cases c115 : (xabs8 (a1)) = 0
                  · rw [if_pos c115] at h; cases h
                  rw [if_neg c115] at h
                  refine xe_ldiv (by decide +kernel) rfl (xabs8_iN ha1) c115 ?_
                  refine xe_lcmp (by decide +kernel) rfl (xabs8_iN ha2) (xiN_of _) ?_
                  refine xe_ifle (off := 7) (t := 103) (by decide +kernel) (by decide) rfl (xin_cmp8 _ _) (fun c116 => ?_) (fun c116 => ?_)
                  · have c116 := xcmp8_le.mp c116; rw [if_pos c116] at h
                    refine xW_lv rfl (l := [(1, xZ (a1)), (3, xZ (a2))]) (xsb_of ⟨rfl, rfl, trivial⟩ (show [5, 0, 1, 3].Nodup by decide)) ?_
                    exact k192_103   ha1 ha2 h
                  · have c116 := (not_congr xcmp8_le).mp c116; rw [if_neg c116] at h
                    refine xe_ldc2 (i := 428) (n := -8999999999999999997) (by decide +kernel) (by decide +kernel) rfl ?_
                    cases h
                    exact xe_ret_l (by decide +kernel) rfl ⟨rfl, rfl, (show xiN (-8999999999999999997) by decide)⟩
            · rw [if_neg c108] at h
              refine xe_ldn (ins := .lload_n 1) (len := 1) (by decide +kernel) rfl rfl rfl rfl ?_
              refine xe_ldn (ins := .lload_n 3) (len := 1) (by decide +kernel) rfl rfl rfl rfl ?_
              refine xe_lsub (by decide +kernel) rfl ?_
              refine xe_lsr (ins := .lstore 5) (len := 2) (i := 5) (by decide +kernel) rfl rfl rfl (by decide) (xk2_d (Or.inl rfl) (xk2_k (show ¬ (0 : Nat) = 5 by decide) (show ¬ (0 : Nat) = 5 + 1 by decide) (Or.inl (show ¬ (0 + 1 : Nat) = 5 by decide)) (xk2_k (show ¬ (1 : Nat) = 5 by decide) (show ¬ (1 : Nat) = 5 + 1 by decide) (Or.inl (show ¬ (1 + 1 : Nat) = 5 by decide)) (xk2_k (show ¬ (3 : Nat) = 5 by decide) (show ¬ (3 : Nat) = 5 + 1 by decide) (Or.inl (show ¬ (3 + 1 : Nat) = 5 by decide)) xk2_n)))) rfl ?_
              refine xe_goto (off := 70) (nx := 138) (by decide +kernel) (by decide) ?_
              refine xW_lv rfl (l := [(5, xZ (xwl ((a1) - (a2))))]) (xsb_of ⟨rfl, trivial⟩ (show [5, 0, 1, 3].Nodup by decide)) ?_
              exact k192_138   (xiN_wl _) h
          · rw [if_neg c107] at h
            refine xe_ldn (ins := .lload_n 1) (len := 1) (by decide +kernel) rfl rfl rfl rfl ?_
            refine xe_ldn (ins := .lload_n 3) (len := 1) (by decide +kernel) rfl rfl rfl rfl ?_
            refine xe_ladd (by decide +kernel) rfl ?_
            refine xe_lsr (ins := .lstore 5) (len := 2) (i := 5) (by decide +kernel) rfl rfl rfl (by decide) (xk2_d (Or.inl rfl) (xk2_k (show ¬ (0 : Nat) = 5 by decide) (show ¬ (0 : Nat) = 5 + 1 by decide) (Or.inl (show ¬ (0 + 1 : Nat) = 5 by decide)) (xk2_k (show ¬ (1 : Nat) = 5 by decide) (show ¬ (1 : Nat) = 5 + 1 by decide) (Or.inl (show ¬ (1 + 1 : Nat) = 5 by decide)) (xk2_k (show ¬ (3 : Nat) = 5 by decide) (show ¬ (3 : Nat) = 5 + 1 by decide) (Or.inl (show ¬ (3 + 1 : Nat) = 5 by decide)) xk2_n)))) rfl ?_
            refine xe_goto (off := 84) (nx := 138) (by decide +kernel) (by decide) ?_
            refine xW_lv rfl (l := [(5, xZ (xwl ((a1) + (a2))))]) (xsb_of ⟨rfl, trivial⟩ (show [5, 0, 1, 3].Nodup by decide)) ?_
            exact k192_138   (xiN_wl _) h
        · have c106 := (not_congr xcmp8_le).mp c106; rw [if_neg c106] at h
          refine xW_lv rfl (l := []) (xsb_of trivial (show [0, 1, 3].Nodup by decide)) ?_
          exact k192_36    h
    · have c104 := (not_congr xcmp8_ge).mp c104; rw [if_neg c104] at h
      refine xe_ldn (ins := .lload_n 3) (len := 1) (by decide +kernel) rfl rfl rfl rfl ?_
      cases h
      exact xe_ret_l (by decide +kernel) rfl ⟨rfl, rfl, ha2⟩
  · have c103 := (not_congr xcmp8_ge).mp c103; rw [if_neg c103] at h
    refine xe_ldn (ins := .lload_n 1) (len := 1) (by decide +kernel) rfl rfl rfl rfl ?_
    cases h
    exact xe_ret_l (by decide +kernel) rfl ⟨rfl, rfl, ha1⟩
/-- Arrays.fill -/
def xr_381 : xj_mR := (17, yJ7_fill_d0a16, cJ7_fill_d0a16, 5, (Option.none : Option Jvm.ClassFile.FieldType), 2, false, (2, 221), (1, 10))
set_option maxRecDepth 20000 in
theorem xr_381_e : xj_row 381 = some xr_381 := rfl
def f381_6b  (r6 : Nat → Int → Int → Int → xj_M → Option (xj_M)) (f : Nat) (x0 : Nat) (x1 : Int) (x3 : Int) (x4 : Int) (M : xj_M) : Option (xj_M) := (if (x4) ≤ (x3) then (some M) else ((xq_sl (x0) (x3) (x1) M).bind fun M102 => r6 (x0) (x1) (xwr ((x3) + (1))) (x4) M102))
theorem k381_6b {d f : Nat}  {r6 : Nat → Int → Int → Int → xj_M → Option (xj_M)}  (hr6 : ∀ {x0 : Nat} {x1 : Int} {x3 : Int} {x4 : Int} {M : xj_M} {R : xj_M}, xiN x1 → xin x3 → xin x4 → r6 x0 x1 x3 x4 M = some R → xW (d + 0) (none, d + 0, none) xr_381 (6, [(0, xR_ x0), (1, xZ x1), (3, xI x3), (4, xI x4)], [], M) (xQv R)) {x0 : Nat} {x1 : Int} {x3 : Int} {x4 : Int} {M : xj_M} {R : xj_M} (hx1 : xiN x1) (hx3 : xin x3) (hx4 : xin x4) (h : f381_6b  r6 f x0 x1 x3 x4 M = some R) : xW (d + 0) (none, d + 0, none) xr_381 (6, [(0, xR_ x0), (1, xZ x1), (3, xI x3), (4, xI x4)], [], M) (xQv R) := by
  unfold f381_6b at h
  refine xe_ldn (ins := .iload_n 3) (len := 1) (by decide +kernel) rfl rfl rfl rfl ?_
  refine xe_ldn (ins := .iload 4) (len := 2) (by decide +kernel) rfl rfl rfl rfl ?_
  refine xe_icmpge (off := 13) (t := 22) (by decide +kernel) (by decide) rfl hx3 hx4 (fun c101 => ?_) (fun c101 => ?_)
  · rw [if_pos c101] at h
    cases h
    exact xe_ret_v (by decide +kernel) rfl ⟨rfl, rfl⟩
  · rw [if_neg c101] at h
    refine xe_alr (ins := .aload_n 0) (len := 1) (i := 0) (by decide +kernel) rfl rfl rfl rfl rfl ?_
    refine xe_ldn (ins := .iload_n 3) (len := 1) (by decide +kernel) rfl rfl rfl rfl ?_
    refine xe_ldn (ins := .lload_n 1) (len := 1) (by decide +kernel) rfl rfl rfl rfl ?_
    obtain ⟨M102, e103, h⟩ := xbnd h
    refine xs_last (by decide +kernel) hx3 e103 rfl ?_
    refine xe_iincr (i := 3) (n := 1) (by decide +kernel) (by decide) rfl (xk_k (show ¬ (0 : Nat) = 3 by decide) (Or.inl (show ¬ (0 + 1 : Nat) = 3 by decide)) (xk_k (show ¬ (1 : Nat) = 3 by decide) (Or.inl (show ¬ (1 + 1 : Nat) = 3 by decide)) (xk_d rfl (xk_k (show ¬ (4 : Nat) = 3 by decide) (Or.inl (show ¬ (4 + 1 : Nat) = 3 by decide)) xk_n)))) rfl ?_
    refine xe_goto (off := -13) (nx := 6) (by decide +kernel) (by decide) ?_
    refine xW_lv rfl (l := [(0, xR_ (x0)), (1, xZ (x1)), (3, xI (xwr ((x3) + (1)))), (4, xI (x4))]) (xsb_of ⟨rfl, rfl, rfl, rfl, trivial⟩ (show [3, 0, 1, 4].Nodup by decide)) ?_
    exact hr6 hx1 (xin_wr _) hx4 h
def f381_6   (f : Nat) : Nat → Nat → Int → Int → Int → xj_M → Option (xj_M)
  | 0, _, _, _, _, _ => none
  | n + 1, x0, x1, x3, x4, M => f381_6b   (f381_6   f n) f x0 x1 x3 x4 M
theorem k381_6 {d f : Nat}     : ∀ {n : Nat} {x0 : Nat} {x1 : Int} {x3 : Int} {x4 : Int} {M : xj_M} {R : xj_M}, xiN x1 → xin x3 → xin x4 → f381_6   f n x0 x1 x3 x4 M = some R → xW (d + 0) (none, d + 0, none) xr_381 (6, [(0, xR_ x0), (1, xZ x1), (3, xI x3), (4, xI x4)], [], M) (xQv R) := by
  intro n
  induction n with
  | zero => intros; rename_i h; cases h
  | succ n ih => intros; rename_i h; exact k381_6b   ih (by assumption) (by assumption) (by assumption) h
def f381  (f : Nat) (a0 : Nat) (a1 : Int) (M : xj_M) : Option (xj_M) := ((xq_ln (a0) M).bind fun v104 => f381_6   f f (a0) (a1) (0) (v104) M)
theorem k381 {d f : Nat}   {a0 : Nat} {a1 : Int} {M : xj_M} {R : xj_M} (ha1 : xiN a1) (h : f381  f a0 a1 M = some R) : xT (d + 1) 381 [xR_ a0, xZ a1] M (xQv R) := by
  refine xT_m xr_381_e (X := (none, d + 0, none)) rfl (xa_1 (xR_cat _) (xa_2 (xZ_cat _) xa_n)) (by decide) ?_
  unfold f381 at h
  refine xe_iconst (n := 0) (by decide +kernel) rfl ?_
  refine xe_isr (ins := .istore_n 3) (len := 1) (i := 3) (by decide +kernel) rfl rfl rfl (by decide) (xk_k (show ¬ (0 : Nat) = 3 by decide) (Or.inl (show ¬ (0 + 1 : Nat) = 3 by decide)) (xk_k (show ¬ (1 : Nat) = 3 by decide) (Or.inl (show ¬ (1 + 1 : Nat) = 3 by decide)) xk_n)) rfl ?_
  refine xe_alr (ins := .aload_n 0) (len := 1) (i := 0) (by decide +kernel) rfl rfl rfl rfl rfl ?_
  obtain ⟨v104, e105, h⟩ := xbnd h
  refine xs_alen rfl (by decide +kernel) e105 rfl ?_
  refine xe_isr (ins := .istore 4) (len := 2) (i := 4) (by decide +kernel) rfl rfl rfl (by decide) (xk_k (show ¬ (3 : Nat) = 4 by decide) (Or.inr (xI_cat _)) (xk_k (show ¬ (0 : Nat) = 4 by decide) (Or.inl (show ¬ (0 + 1 : Nat) = 4 by decide)) (xk_k (show ¬ (1 : Nat) = 4 by decide) (Or.inl (show ¬ (1 + 1 : Nat) = 4 by decide)) xk_n))) rfl ?_
  refine xW_lv rfl (l := [(0, xR_ (a0)), (1, xZ (a1)), (3, xI (0)), (4, xI (v104))]) (xsb_of ⟨rfl, rfl, rfl, rfl, trivial⟩ (show [4, 3, 0, 1].Nodup by decide)) ?_
  exact k381_6   ha1 (show xin (0) by decide) (xq_ln_in e105) h
/-- Arrays.fill -/
def xr_382 : xj_mR := (17, yJ7_fill_53178, cJ7_fill_53178, 4, (Option.none : Option Jvm.ClassFile.FieldType), 2, false, (6, 166), (1, 10))
set_option maxRecDepth 20000 in
theorem xr_382_e : xj_row 382 = some xr_382 := rfl
def f382_5b  (r5 : Nat → Int → Int → Int → xj_M → Option (xj_M)) (f : Nat) (x0 : Nat) (x1 : Int) (x2 : Int) (x3 : Int) (M : xj_M) : Option (xj_M) := (if (x3) ≤ (x2) then (some M) else ((xq_si (x0) (x2) (x1) M).bind fun M102 => r5 (x0) (x1) (xwr ((x2) + (1))) (x3) M102))
theorem k382_5b {d f : Nat}  {r5 : Nat → Int → Int → Int → xj_M → Option (xj_M)}  (hr5 : ∀ {x0 : Nat} {x1 : Int} {x2 : Int} {x3 : Int} {M : xj_M} {R : xj_M}, xin x1 → xin x2 → xin x3 → r5 x0 x1 x2 x3 M = some R → xW (d + 0) (none, d + 0, none) xr_382 (5, [(0, xR_ x0), (1, xI x1), (2, xI x2), (3, xI x3)], [], M) (xQv R)) {x0 : Nat} {x1 : Int} {x2 : Int} {x3 : Int} {M : xj_M} {R : xj_M} (hx1 : xin x1) (hx2 : xin x2) (hx3 : xin x3) (h : f382_5b  r5 f x0 x1 x2 x3 M = some R) : xW (d + 0) (none, d + 0, none) xr_382 (5, [(0, xR_ x0), (1, xI x1), (2, xI x2), (3, xI x3)], [], M) (xQv R) := by
  unfold f382_5b at h
  refine xe_ldn (ins := .iload_n 2) (len := 1) (by decide +kernel) rfl rfl rfl rfl ?_
  refine xe_ldn (ins := .iload_n 3) (len := 1) (by decide +kernel) rfl rfl rfl rfl ?_
  refine xe_icmpge (off := 13) (t := 20) (by decide +kernel) (by decide) rfl hx2 hx3 (fun c101 => ?_) (fun c101 => ?_)
  · rw [if_pos c101] at h
    cases h
    exact xe_ret_v (by decide +kernel) rfl ⟨rfl, rfl⟩
  · rw [if_neg c101] at h
    refine xe_alr (ins := .aload_n 0) (len := 1) (i := 0) (by decide +kernel) rfl rfl rfl rfl rfl ?_
    refine xe_ldn (ins := .iload_n 2) (len := 1) (by decide +kernel) rfl rfl rfl rfl ?_
    refine xe_ldn (ins := .iload_n 1) (len := 1) (by decide +kernel) rfl rfl rfl rfl ?_
    obtain ⟨M102, e103, h⟩ := xbnd h
    refine xs_iast (by decide +kernel) hx2 e103 rfl ?_
    refine xe_iincr (i := 2) (n := 1) (by decide +kernel) (by decide) rfl (xk_k (show ¬ (0 : Nat) = 2 by decide) (Or.inl (show ¬ (0 + 1 : Nat) = 2 by decide)) (xk_k (show ¬ (1 : Nat) = 2 by decide) (Or.inr (xI_cat _)) (xk_d rfl (xk_k (show ¬ (3 : Nat) = 2 by decide) (Or.inl (show ¬ (3 + 1 : Nat) = 2 by decide)) xk_n)))) rfl ?_
    refine xe_goto (off := -12) (nx := 5) (by decide +kernel) (by decide) ?_
    refine xW_lv rfl (l := [(0, xR_ (x0)), (1, xI (x1)), (2, xI (xwr ((x2) + (1)))), (3, xI (x3))]) (xsb_of ⟨rfl, rfl, rfl, rfl, trivial⟩ (show [2, 0, 1, 3].Nodup by decide)) ?_
    exact hr5 hx1 (xin_wr _) hx3 h
def f382_5   (f : Nat) : Nat → Nat → Int → Int → Int → xj_M → Option (xj_M)
  | 0, _, _, _, _, _ => none
  | n + 1, x0, x1, x2, x3, M => f382_5b   (f382_5   f n) f x0 x1 x2 x3 M
theorem k382_5 {d f : Nat}     : ∀ {n : Nat} {x0 : Nat} {x1 : Int} {x2 : Int} {x3 : Int} {M : xj_M} {R : xj_M}, xin x1 → xin x2 → xin x3 → f382_5   f n x0 x1 x2 x3 M = some R → xW (d + 0) (none, d + 0, none) xr_382 (5, [(0, xR_ x0), (1, xI x1), (2, xI x2), (3, xI x3)], [], M) (xQv R) := by
  intro n
  induction n with
  | zero => intros; rename_i h; cases h
  | succ n ih => intros; rename_i h; exact k382_5b   ih (by assumption) (by assumption) (by assumption) h
def f382  (f : Nat) (a0 : Nat) (a1 : Int) (M : xj_M) : Option (xj_M) := ((xq_ln (a0) M).bind fun v104 => f382_5   f f (a0) (a1) (0) (v104) M)
theorem k382 {d f : Nat}   {a0 : Nat} {a1 : Int} {M : xj_M} {R : xj_M} (ha1 : xin a1) (h : f382  f a0 a1 M = some R) : xT (d + 1) 382 [xR_ a0, xI a1] M (xQv R) := by
  refine xT_m xr_382_e (X := (none, d + 0, none)) rfl (xa_1 (xR_cat _) (xa_1 (xI_cat _) xa_n)) (by decide) ?_
  unfold f382 at h
  refine xe_iconst (n := 0) (by decide +kernel) rfl ?_
  refine xe_isr (ins := .istore_n 2) (len := 1) (i := 2) (by decide +kernel) rfl rfl rfl (by decide) (xk_k (show ¬ (0 : Nat) = 2 by decide) (Or.inl (show ¬ (0 + 1 : Nat) = 2 by decide)) (xk_k (show ¬ (1 : Nat) = 2 by decide) (Or.inr (xI_cat _)) xk_n)) rfl ?_
  refine xe_alr (ins := .aload_n 0) (len := 1) (i := 0) (by decide +kernel) rfl rfl rfl rfl rfl ?_
  obtain ⟨v104, e105, h⟩ := xbnd h
  refine xs_alen rfl (by decide +kernel) e105 rfl ?_
  refine xe_isr (ins := .istore_n 3) (len := 1) (i := 3) (by decide +kernel) rfl rfl rfl (by decide) (xk_k (show ¬ (2 : Nat) = 3 by decide) (Or.inr (xI_cat _)) (xk_k (show ¬ (0 : Nat) = 3 by decide) (Or.inl (show ¬ (0 + 1 : Nat) = 3 by decide)) (xk_k (show ¬ (1 : Nat) = 3 by decide) (Or.inl (show ¬ (1 + 1 : Nat) = 3 by decide)) xk_n))) rfl ?_
  refine xW_lv rfl (l := [(0, xR_ (a0)), (1, xI (a1)), (2, xI (0)), (3, xI (v104))]) (xsb_of ⟨rfl, rfl, rfl, rfl, trivial⟩ (show [3, 2, 0, 1].Nodup by decide)) ?_
  exact k382_5   ha1 (show xin (0) by decide) (xq_ln_in e105) h
/-- Arrays.copyOf -/
def xr_383 : xj_mR := (17, yJ7_copyOf_59c91, cJ7_copyOf_59c91, 3, (Option.some (Jvm.ClassFile.FieldType.array Jvm.ClassFile.FieldType.int)), 2, false, (5, 141), (1, 10))
set_option maxRecDepth 20000 in
theorem xr_383_e : xj_row 383 = some xr_383 := rfl
def f383  (f : Nat) (a0 : Nat) (a1 : Int) (M : xj_M) : Option (Nat × xj_M) := ((xq_ln (a0) M).bind fun v101 => (if ¬ (a1) = (v101) then ((xq_na 3 (a1) M).bind fun p104 => ((xq_ln (a0) p104.2).bind fun v106 => ((xq_cp (a0) (0) (p104.1) (0) (xmin (v106) (a1)) p104.2).bind fun M108 => (some (p104.1, M108))))) else ((xq_cl 3 (a0) M).bind fun p110 => ((xq_ca 3 (p110.1) p110.2).bind fun _ => (some (p110.1, p110.2))))))
theorem k383 {d f : Nat}   {a0 : Nat} {a1 : Int} {M : xj_M} {R : Nat × xj_M} (ha1 : xin a1) (h : f383  f a0 a1 M = some R) : xT (d + 1) 383 [xR_ a0, xI a1] M (yxQr R) := by
  refine xT_m xr_383_e (X := (none, d + 0, none)) rfl (xa_1 (xR_cat _) (xa_1 (xI_cat _) xa_n)) (by decide) ?_
  unfold f383 at h
  refine xe_ldn (ins := .iload_n 1) (len := 1) (by decide +kernel) rfl rfl rfl rfl ?_
  refine xe_alr (ins := .aload_n 0) (len := 1) (i := 0) (by decide +kernel) rfl rfl rfl rfl rfl ?_
  obtain ⟨v101, e102, h⟩ := xbnd h
  refine xs_alen rfl (by decide +kernel) e102 rfl ?_
  refine xe_icmpne (off := 11) (t := 14) (by decide +kernel) (by decide) rfl ha1 (xq_ln_in e102) (fun c103 => ?_) (fun c103 => ?_)
  · rw [if_pos c103] at h
    refine xe_ldn (ins := .iload_n 1) (len := 1) (by decide +kernel) rfl rfl rfl rfl ?_
    obtain ⟨p104, e105, h⟩ := xbnd h
    refine xs_na (kk := 3) (ty := .int) (x := p104.1) (M1 := p104.2) (by decide +kernel) rfl ha1 e105 rfl ?_
    refine xe_asr (ins := .astore_n 2) (len := 1) (i := 2) (by decide +kernel) rfl rfl rfl (by decide) (xk_k (show ¬ (0 : Nat) = 2 by decide) (Or.inl (show ¬ (0 + 1 : Nat) = 2 by decide)) (xk_k (show ¬ (1 : Nat) = 2 by decide) (Or.inr (xI_cat _)) xk_n)) rfl ?_
    refine xe_alr (ins := .aload_n 0) (len := 1) (i := 0) (by decide +kernel) rfl rfl rfl rfl rfl ?_
    refine xe_iconst (n := 0) (by decide +kernel) rfl ?_
    refine xe_alr (ins := .aload_n 2) (len := 1) (i := 2) (by decide +kernel) rfl rfl rfl rfl rfl ?_
    refine xe_iconst (n := 0) (by decide +kernel) rfl ?_
    refine xe_alr (ins := .aload_n 0) (len := 1) (i := 0) (by decide +kernel) rfl rfl rfl rfl rfl ?_
    obtain ⟨v106, e107, h⟩ := xbnd h
    refine xs_alen rfl (by decide +kernel) e107 rfl ?_
    refine xe_ldn (ins := .iload_n 1) (len := 1) (by decide +kernel) rfl rfl rfl rfl ?_
    refine xe_xmni (i := 304) (by decide +kernel) (by decide +kernel) (by decide +kernel) (by unfold xj_small; simp only [List.map_cons, List.map_nil, List.sum_cons, List.sum_nil, xR_cat, xI_cat, xZ_cat]; decide) rfl (xq_ln_in e107) ha1 ?_
    obtain ⟨M108, e109, h⟩ := xbnd h
    refine xs_cp (i := 150) (j := 0) (by decide +kernel) (by decide +kernel) (show xin (0) by decide) (show xin (0) by decide) (xmin_in (xq_ln_in e107) ha1) (by rfl) e109 rfl ?_
    refine xe_alr (ins := .aload_n 2) (len := 1) (i := 2) (by decide +kernel) rfl rfl rfl rfl rfl ?_
    cases h
    exact xe_ret_r (by decide +kernel) rfl rfl ⟨rfl, rfl⟩
  · rw [if_neg c103] at h
    refine xe_alr (ins := .aload_n 0) (len := 1) (i := 0) (by decide +kernel) rfl rfl rfl rfl rfl ?_
    obtain ⟨p110, e111, h⟩ := xbnd h
    refine xs_cl (i := 316) (kk := 3) (by decide +kernel) (by decide +kernel) (by rfl) e111 rfl ?_
    obtain ⟨_, e112, h⟩ := xbnd h
    refine xs_ca (i := 317) (kk := 3) (by decide +kernel) (by decide +kernel) e112 rfl ?_
    cases h
    exact xe_ret_r (by decide +kernel) rfl rfl ⟨rfl, rfl⟩
/-- Arrays.copyOf -/
def xr_384 : xj_mR := (17, yJ7_copyOf_c38d5, cJ7_copyOf_c38d5, 3, (Option.some (Jvm.ClassFile.FieldType.array Jvm.ClassFile.FieldType.long)), 2, false, (5, 155), (1, 10))
set_option maxRecDepth 20000 in
theorem xr_384_e : xj_row 384 = some xr_384 := rfl
def f384  (f : Nat) (a0 : Nat) (a1 : Int) (M : xj_M) : Option (Nat × xj_M) := ((xq_ln (a0) M).bind fun v101 => (if ¬ (a1) = (v101) then ((xq_na 4 (a1) M).bind fun p104 => ((xq_ln (a0) p104.2).bind fun v106 => ((xq_cp (a0) (0) (p104.1) (0) (xmin (v106) (a1)) p104.2).bind fun M108 => (some (p104.1, M108))))) else ((xq_cl 4 (a0) M).bind fun p110 => ((xq_ca 4 (p110.1) p110.2).bind fun _ => (some (p110.1, p110.2))))))
theorem k384 {d f : Nat}   {a0 : Nat} {a1 : Int} {M : xj_M} {R : Nat × xj_M} (ha1 : xin a1) (h : f384  f a0 a1 M = some R) : xT (d + 1) 384 [xR_ a0, xI a1] M (yxQr R) := by
  refine xT_m xr_384_e (X := (none, d + 0, none)) rfl (xa_1 (xR_cat _) (xa_1 (xI_cat _) xa_n)) (by decide) ?_
  unfold f384 at h
  refine xe_ldn (ins := .iload_n 1) (len := 1) (by decide +kernel) rfl rfl rfl rfl ?_
  refine xe_alr (ins := .aload_n 0) (len := 1) (i := 0) (by decide +kernel) rfl rfl rfl rfl rfl ?_
  obtain ⟨v101, e102, h⟩ := xbnd h
  refine xs_alen rfl (by decide +kernel) e102 rfl ?_
  refine xe_icmpne (off := 11) (t := 14) (by decide +kernel) (by decide) rfl ha1 (xq_ln_in e102) (fun c103 => ?_) (fun c103 => ?_)
  · rw [if_pos c103] at h
    refine xe_ldn (ins := .iload_n 1) (len := 1) (by decide +kernel) rfl rfl rfl rfl ?_
    obtain ⟨p104, e105, h⟩ := xbnd h
    refine xs_na (kk := 4) (ty := .long) (x := p104.1) (M1 := p104.2) (by decide +kernel) rfl ha1 e105 rfl ?_
    refine xe_asr (ins := .astore_n 2) (len := 1) (i := 2) (by decide +kernel) rfl rfl rfl (by decide) (xk_k (show ¬ (0 : Nat) = 2 by decide) (Or.inl (show ¬ (0 + 1 : Nat) = 2 by decide)) (xk_k (show ¬ (1 : Nat) = 2 by decide) (Or.inr (xI_cat _)) xk_n)) rfl ?_
    refine xe_alr (ins := .aload_n 0) (len := 1) (i := 0) (by decide +kernel) rfl rfl rfl rfl rfl ?_
    refine xe_iconst (n := 0) (by decide +kernel) rfl ?_
    refine xe_alr (ins := .aload_n 2) (len := 1) (i := 2) (by decide +kernel) rfl rfl rfl rfl rfl ?_
    refine xe_iconst (n := 0) (by decide +kernel) rfl ?_
    refine xe_alr (ins := .aload_n 0) (len := 1) (i := 0) (by decide +kernel) rfl rfl rfl rfl rfl ?_
    obtain ⟨v106, e107, h⟩ := xbnd h
    refine xs_alen rfl (by decide +kernel) e107 rfl ?_
    refine xe_ldn (ins := .iload_n 1) (len := 1) (by decide +kernel) rfl rfl rfl rfl ?_
    refine xe_xmni (i := 304) (by decide +kernel) (by decide +kernel) (by decide +kernel) (by unfold xj_small; simp only [List.map_cons, List.map_nil, List.sum_cons, List.sum_nil, xR_cat, xI_cat, xZ_cat]; decide) rfl (xq_ln_in e107) ha1 ?_
    obtain ⟨M108, e109, h⟩ := xbnd h
    refine xs_cp (i := 150) (j := 0) (by decide +kernel) (by decide +kernel) (show xin (0) by decide) (show xin (0) by decide) (xmin_in (xq_ln_in e107) ha1) (by rfl) e109 rfl ?_
    refine xe_alr (ins := .aload_n 2) (len := 1) (i := 2) (by decide +kernel) rfl rfl rfl rfl rfl ?_
    cases h
    exact xe_ret_r (by decide +kernel) rfl rfl ⟨rfl, rfl⟩
  · rw [if_neg c103] at h
    refine xe_alr (ins := .aload_n 0) (len := 1) (i := 0) (by decide +kernel) rfl rfl rfl rfl rfl ?_
    obtain ⟨p110, e111, h⟩ := xbnd h
    refine xs_cl (i := 319) (kk := 4) (by decide +kernel) (by decide +kernel) (by rfl) e111 rfl ?_
    obtain ⟨_, e112, h⟩ := xbnd h
    refine xs_ca (i := 320) (kk := 4) (by decide +kernel) (by decide +kernel) e112 rfl ?_
    cases h
    exact xe_ret_r (by decide +kernel) rfl rfl ⟨rfl, rfl⟩
-- ChangeHouse$Works.isInBounds
def xr_397 : xj_mR := (10, yX10_isInBounds, cX10_isInBounds, 3, (Option.some Jvm.ClassFile.FieldType.boolean), 2, false, (7, 28), (1, 5))
set_option maxRecDepth 20000 in
theorem xr_397_e : xj_row 397 = some xr_397 := rfl
def f397_30   (f : Nat) (y0 : Int) (M : xj_M) : Option (Int × xj_M) := (if (y0) = 0 ∨ (y0) = 1 then some (y0, M) else none)
theorem k397_30 {d f : Nat}     {y0 : Int} {M : xj_M} {R : Int × xj_M} (hy0 : xin y0) (h : f397_30   f y0 M = some R) : xW (d + 0) (none, d + 0, none) xr_397 (30, [], [xI y0], M) (xQi R) := by
  unfold f397_30 at h
  by_cases c101 : (y0) = 0 ∨ (y0) = 1
  · rw [if_pos c101] at h; cases h; exact xe_ret_i (ty := .boolean) (by decide +kernel) rfl (xbool c101) ⟨rfl, rfl, hy0⟩
  · rw [if_neg c101] at h; cases h
def f397_25   (f : Nat)  (M : xj_M) : Option (Int × xj_M) := f397_30   f (1) M
theorem k397_25 {d f : Nat}      {M : xj_M} {R : Int × xj_M}  (h : f397_25   f  M = some R) : xW (d + 0) (none, d + 0, none) xr_397 (25, [], [], M) (xQi R) := by
  unfold f397_25 at h
  refine xe_iconst (n := 1) (by decide +kernel) rfl ?_
  refine xe_goto (off := 4) (nx := 30) (by decide +kernel) (by decide) ?_
  refine xW_lv rfl (l := []) (xsb_of trivial (show [].Nodup by decide)) ?_
  exact k397_30   (show xin (1) by decide) h
def f397_29   (f : Nat)  (M : xj_M) : Option (Int × xj_M) := f397_30   f (0) M
theorem k397_29 {d f : Nat}      {M : xj_M} {R : Int × xj_M}  (h : f397_29   f  M = some R) : xW (d + 0) (none, d + 0, none) xr_397 (29, [], [], M) (xQi R) := by
  unfold f397_29 at h
  refine xe_iconst (n := 0) (by decide +kernel) rfl ?_
  refine xW_lv rfl (l := []) (xsb_of trivial (show [].Nodup by decide)) ?_
  exact k397_30   (show xin (0) by decide) h
def f397  (f : Nat) (a0 : Nat) (a1 : Int) (M : xj_M) : Option (Int × xj_M) := ((xq_gi 6 4 (a0) M).bind fun v102 => (if ¬ (v102) = (11) then f397_25   f  M else (if (a1) < (-1000000000000) then f397_29   f  M else (if (1000000000000) < (a1) then f397_29   f  M else f397_25   f  M))))
theorem k397 {d f : Nat}   {a0 : Nat} {a1 : Int} {M : xj_M} {R : Int × xj_M} (ha1 : xiN a1) (h : f397  f a0 a1 M = some R) : xT (d + 1) 397 [xR_ a0, xZ a1] M (xQi R) := by
  refine xT_m xr_397_e (X := (none, d + 0, none)) rfl (xa_1 (xR_cat _) (xa_2 (xZ_cat _) xa_n)) (by decide) ?_
  unfold f397 at h
  refine xe_alr (ins := .aload_n 0) (len := 1) (i := 0) (by decide +kernel) rfl rfl rfl rfl rfl ?_
  obtain ⟨v102, e103, h⟩ := xbnd h
  refine xs_gi (i := 248) (c := 6) (k := 4) (by decide +kernel) (by decide) (by decide +kernel) e103 rfl ?_
  refine xe_bipush (n := 11) (by decide +kernel) (by decide) rfl ?_
  refine xe_icmpne (off := 19) (t := 25) (by decide +kernel) (by decide) rfl (xq_gi_in e103) (show xin (11) by decide) (fun c104 => ?_) (fun c104 => ?_)
  · rw [if_pos c104] at h
    refine xW_lv rfl (l := []) (xsb_of trivial (show [0, 1].Nodup by decide)) ?_
    exact k397_25    h
  · rw [if_neg c104] at h
    refine xe_ldn (ins := .lload_n 1) (len := 1) (by decide +kernel) rfl rfl rfl rfl ?_
    refine xe_ldc2 (i := 286) (n := -1000000000000) (by decide +kernel) (by decide +kernel) rfl ?_
    refine xe_lcmp (by decide +kernel) rfl ha1 (show xiN (-1000000000000) by decide) ?_
    refine xe_iflt (off := 15) (t := 29) (by decide +kernel) (by decide) rfl (xin_cmp8 _ _) (fun c105 => ?_) (fun c105 => ?_)
    · have c105 := xcmp8_lt.mp c105; rw [if_pos c105] at h
      refine xW_lv rfl (l := []) (xsb_of trivial (show [0, 1].Nodup by decide)) ?_
      exact k397_29    h
    · have c105 := (not_congr xcmp8_lt).mp c105; rw [if_neg c105] at h
      refine xe_ldn (ins := .lload_n 1) (len := 1) (by decide +kernel) rfl rfl rfl rfl ?_
      refine xe_ldc2 (i := 257) (n := 1000000000000) (by decide +kernel) (by decide +kernel) rfl ?_
      refine xe_lcmp (by decide +kernel) rfl ha1 (show xiN (1000000000000) by decide) ?_
      refine xe_ifgt (off := 7) (t := 29) (by decide +kernel) (by decide) rfl (xin_cmp8 _ _) (fun c106 => ?_) (fun c106 => ?_)
      · have c106 := xcmp8_gt.mp c106; rw [if_pos c106] at h
        refine xW_lv rfl (l := []) (xsb_of trivial (show [0, 1].Nodup by decide)) ?_
        exact k397_29    h
      · have c106 := (not_congr xcmp8_gt).mp c106; rw [if_neg c106] at h
        refine xW_lv rfl (l := []) (xsb_of trivial (show [0, 1].Nodup by decide)) ?_
        exact k397_25    h
-- ChangeHouseLaw.value
def xr_1005 : xj_mR := (16, yL_value, cL_value, 6, (Option.some Jvm.ClassFile.FieldType.int), 5, false, (8, 14), (1, 0))
set_option maxRecDepth 20000 in
theorem xr_1005_e : xj_row 1005 = some xr_1005 := rfl
def f1005  (f : Nat) (a0 : Nat) (a1 : Int) (a2 : Int) (a3 : Int) (a4 : Nat) (M : xj_M) : Option (Int × xj_M) := ((xq_is 11 (a0) M).bind fun _ => ((f176 f (a0) (a1) (a2) (a3) M).bind fun R103 => xhd R103 1 ((some (1, R103.2))) (fun v104 => ((xq_sl (a4) (0) (v104) R103.2).bind fun M107 => (some (0, M107))))))
theorem k1005 {d f : Nat}   {a0 : Nat} {a1 : Int} {a2 : Int} {a3 : Int} {a4 : Nat} {M : xj_M} {R : Int × xj_M} (ha1 : xin a1) (ha2 : xin a2) (ha3 : xin a3) (h : f1005  f a0 a1 a2 a3 a4 M = some R) : xT (d + 7) 1005 [xR_ a0, xI a1, xI a2, xI a3, xR_ a4] M (xQi R) := by
  refine xT_m xr_1005_e (X := (some (0, 11, 14, 13, 1), d + 6, none)) rfl (xa_1 (xR_cat _) (xa_1 (xI_cat _) (xa_1 (xI_cat _) (xa_1 (xI_cat _) (xa_1 (xR_cat _) xa_n))))) (by decide) ?_
  unfold f1005 at h
  refine xe_alr (ins := .aload 4) (len := 2) (i := 4) (by decide +kernel) rfl rfl rfl rfl rfl ?_
  refine xe_iconst (n := 0) (by decide +kernel) rfl ?_
  refine xe_alr (ins := .aload_n 0) (len := 1) (i := 0) (by decide +kernel) rfl rfl rfl rfl rfl ?_
  refine xe_ldn (ins := .iload_n 1) (len := 1) (by decide +kernel) rfl rfl rfl rfl ?_
  refine xe_ldn (ins := .iload_n 2) (len := 1) (by decide +kernel) rfl rfl rfl rfl ?_
  refine xe_ldn (ins := .iload_n 3) (len := 1) (by decide +kernel) rfl rfl rfl rfl ?_
  obtain ⟨_, e102, h⟩ := xbnd h
  obtain ⟨R103, e101, h⟩ := xbnd h
  refine xs2_cv (kd := 0) (jj := 176) (by decide) (i := 15) (j := 176) (ar := [xI (a3), xI (a2), xI (a1)]) (rest := [xI (0), xR_ (a4)]) (r2 := xr_176) (by decide +kernel) (by decide +kernel) (by decide +kernel) xr_176_e rfl (by decide) (by simp only [List.map_cons, List.map_nil, List.sum_cons, List.sum_nil, xR_cat, xI_cat, xZ_cat]; decide) e102 ?_
  refine xct_l (k176 (d := d + 0) ha1 ha2 ha3 e101) rfl (fun e1 g105 => ?_) (fun v104 g105 hi106 => ?_)
  · obtain ⟨e2, h⟩ := xhd_l g105 h
    refine xK_han2 (t := (0, 11, 14, 13, 1)) (i := 5) rfl ⟨by decide, by decide, e2⟩ (by decide +kernel) (by decide) (xk_k (show ¬ (0 : Nat) = 5 by decide) (Or.inl (show ¬ (0 + 1 : Nat) = 5 by decide)) (xk_k (show ¬ (1 : Nat) = 5 by decide) (Or.inl (show ¬ (1 + 1 : Nat) = 5 by decide)) (xk_k (show ¬ (2 : Nat) = 5 by decide) (Or.inl (show ¬ (2 + 1 : Nat) = 5 by decide)) (xk_k (show ¬ (3 : Nat) = 5 by decide) (Or.inl (show ¬ (3 + 1 : Nat) = 5 by decide)) (xk_k (show ¬ (4 : Nat) = 5 by decide) (Or.inr (xR_cat _)) xk_n))))) ?_
    refine xe_iconst (n := 1) (by decide +kernel) rfl ?_
    cases h
    exact xe_ret_i (ty := .int) (by decide +kernel) rfl rfl ⟨rfl, rfl, (show xin (1) by decide)⟩
  · rw [xhd_r g105] at h
    obtain ⟨M107, e108, h⟩ := xbnd h
    refine xs_last (by decide +kernel) (show xin (0) by decide) e108 rfl ?_
    refine xe_goto (off := 7) (nx := 18) (by decide +kernel) (by decide) ?_
    refine xe_iconst (n := 0) (by decide +kernel) rfl ?_
    cases h
    exact xe_ret_i (ty := .int) (by decide +kernel) rfl rfl ⟨rfl, rfl, (show xin (0) by decide)⟩
-- ChangeHouseLaw.answer
def xr_1007 : xj_mR := (16, yL_answer, cL_answer, 5, (Option.some Jvm.ClassFile.FieldType.int), 4, false, (8, 43), (1, 0))
set_option maxRecDepth 20000 in
theorem xr_1007_e : xj_row 1007 = some xr_1007 := rfl
def f1007  (f : Nat) (a0 : Nat) (a1 : Int) (a2 : Int) (a3 : Nat) (M : xj_M) : Option (Int × xj_M) := ((xq_is 11 (a0) M).bind fun _ => ((f180 f (a0) (a1) (a2) M).bind fun R103 => xhd R103 1 ((some (1, R103.2))) (fun v104 => ((xq_sl (a3) (0) (v104) R103.2).bind fun M107 => (some (0, M107))))))
theorem k1007 {d f : Nat}   {a0 : Nat} {a1 : Int} {a2 : Int} {a3 : Nat} {M : xj_M} {R : Int × xj_M} (ha1 : xin a1) (ha2 : xin a2) (h : f1007  f a0 a1 a2 a3 M = some R) : xT (d + 7) 1007 [xR_ a0, xI a1, xI a2, xR_ a3] M (xQi R) := by
  refine xT_m xr_1007_e (X := (some (0, 9, 12, 13, 1), d + 6, none)) rfl (xa_1 (xR_cat _) (xa_1 (xI_cat _) (xa_1 (xI_cat _) (xa_1 (xR_cat _) xa_n)))) (by decide) ?_
  unfold f1007 at h
  refine xe_alr (ins := .aload_n 3) (len := 1) (i := 3) (by decide +kernel) rfl rfl rfl rfl rfl ?_
  refine xe_iconst (n := 0) (by decide +kernel) rfl ?_
  refine xe_alr (ins := .aload_n 0) (len := 1) (i := 0) (by decide +kernel) rfl rfl rfl rfl rfl ?_
  refine xe_ldn (ins := .iload_n 1) (len := 1) (by decide +kernel) rfl rfl rfl rfl ?_
  refine xe_ldn (ins := .iload_n 2) (len := 1) (by decide +kernel) rfl rfl rfl rfl ?_
  obtain ⟨_, e102, h⟩ := xbnd h
  obtain ⟨R103, e101, h⟩ := xbnd h
  refine xs2_cv (kd := 0) (jj := 180) (by decide) (i := 23) (j := 180) (ar := [xI (a2), xI (a1)]) (rest := [xI (0), xR_ (a3)]) (r2 := xr_180) (by decide +kernel) (by decide +kernel) (by decide +kernel) xr_180_e rfl (by decide) (by simp only [List.map_cons, List.map_nil, List.sum_cons, List.sum_nil, xR_cat, xI_cat, xZ_cat]; decide) e102 ?_
  refine xct_l (k180 (d := d + 0) ha1 ha2 e101) rfl (fun e1 g105 => ?_) (fun v104 g105 hi106 => ?_)
  · obtain ⟨e2, h⟩ := xhd_l g105 h
    refine xK_han2 (t := (0, 9, 12, 13, 1)) (i := 4) rfl ⟨by decide, by decide, e2⟩ (by decide +kernel) (by decide) (xk_k (show ¬ (0 : Nat) = 4 by decide) (Or.inl (show ¬ (0 + 1 : Nat) = 4 by decide)) (xk_k (show ¬ (1 : Nat) = 4 by decide) (Or.inl (show ¬ (1 + 1 : Nat) = 4 by decide)) (xk_k (show ¬ (2 : Nat) = 4 by decide) (Or.inl (show ¬ (2 + 1 : Nat) = 4 by decide)) (xk_k (show ¬ (3 : Nat) = 4 by decide) (Or.inr (xR_cat _)) xk_n)))) ?_
    refine xe_iconst (n := 1) (by decide +kernel) rfl ?_
    cases h
    exact xe_ret_i (ty := .int) (by decide +kernel) rfl rfl ⟨rfl, rfl, (show xin (1) by decide)⟩
  · rw [xhd_r g105] at h
    obtain ⟨M107, e108, h⟩ := xbnd h
    refine xs_last (by decide +kernel) (show xin (0) by decide) e108 rfl ?_
    refine xe_goto (off := 7) (nx := 16) (by decide +kernel) (by decide) ?_
    refine xe_iconst (n := 0) (by decide +kernel) rfl ?_
    cases h
    exact xe_ret_i (ty := .int) (by decide +kernel) rfl rfl ⟨rfl, rfl, (show xin (0) by decide)⟩
-- ChangeHouseLaw.rank
def xr_1008 : xj_mR := (16, yL_rank, cL_rank, 5, (Option.some Jvm.ClassFile.FieldType.int), 4, false, (8, 50), (1, 0))
set_option maxRecDepth 20000 in
theorem xr_1008_e : xj_row 1008 = some xr_1008 := rfl
def f1008  (f : Nat) (a0 : Nat) (a1 : Int) (a2 : Int) (a3 : Nat) (M : xj_M) : Option (Int × xj_M) := ((xq_is 11 (a0) M).bind fun _ => ((f181 f (a0) (a1) (a2) M).bind fun R103 => xhd R103 1 ((some (1, R103.2))) (fun v104 => ((xq_sl (a3) (0) (v104) R103.2).bind fun M107 => (some (0, M107))))))
theorem k1008 {d f : Nat}   {a0 : Nat} {a1 : Int} {a2 : Int} {a3 : Nat} {M : xj_M} {R : Int × xj_M} (ha1 : xin a1) (ha2 : xin a2) (h : f1008  f a0 a1 a2 a3 M = some R) : xT (d + 7) 1008 [xR_ a0, xI a1, xI a2, xR_ a3] M (xQi R) := by
  refine xT_m xr_1008_e (X := (some (0, 10, 13, 13, 1), d + 6, none)) rfl (xa_1 (xR_cat _) (xa_1 (xI_cat _) (xa_1 (xI_cat _) (xa_1 (xR_cat _) xa_n)))) (by decide) ?_
  unfold f1008 at h
  refine xe_alr (ins := .aload_n 3) (len := 1) (i := 3) (by decide +kernel) rfl rfl rfl rfl rfl ?_
  refine xe_iconst (n := 0) (by decide +kernel) rfl ?_
  refine xe_alr (ins := .aload_n 0) (len := 1) (i := 0) (by decide +kernel) rfl rfl rfl rfl rfl ?_
  refine xe_ldn (ins := .iload_n 1) (len := 1) (by decide +kernel) rfl rfl rfl rfl ?_
  refine xe_ldn (ins := .iload_n 2) (len := 1) (by decide +kernel) rfl rfl rfl rfl ?_
  obtain ⟨_, e102, h⟩ := xbnd h
  obtain ⟨R103, e101, h⟩ := xbnd h
  refine xs2_cv (kd := 0) (jj := 181) (by decide) (i := 26) (j := 181) (ar := [xI (a2), xI (a1)]) (rest := [xI (0), xR_ (a3)]) (r2 := xr_181) (by decide +kernel) (by decide +kernel) (by decide +kernel) xr_181_e rfl (by decide) (by simp only [List.map_cons, List.map_nil, List.sum_cons, List.sum_nil, xR_cat, xI_cat, xZ_cat]; decide) e102 ?_
  refine xct_i (k181 (d := d + 0) ha1 ha2 e101) rfl (fun e1 g105 => ?_) (fun v104 g105 hi106 => ?_)
  · obtain ⟨e2, h⟩ := xhd_l g105 h
    refine xK_han2 (t := (0, 10, 13, 13, 1)) (i := 4) rfl ⟨by decide, by decide, e2⟩ (by decide +kernel) (by decide) (xk_k (show ¬ (0 : Nat) = 4 by decide) (Or.inl (show ¬ (0 + 1 : Nat) = 4 by decide)) (xk_k (show ¬ (1 : Nat) = 4 by decide) (Or.inl (show ¬ (1 + 1 : Nat) = 4 by decide)) (xk_k (show ¬ (2 : Nat) = 4 by decide) (Or.inl (show ¬ (2 + 1 : Nat) = 4 by decide)) (xk_k (show ¬ (3 : Nat) = 4 by decide) (Or.inr (xR_cat _)) xk_n)))) ?_
    refine xe_iconst (n := 1) (by decide +kernel) rfl ?_
    cases h
    exact xe_ret_i (ty := .int) (by decide +kernel) rfl rfl ⟨rfl, rfl, (show xin (1) by decide)⟩
  · rw [xhd_r g105] at h
    refine xe_i2l (by decide +kernel) rfl hi106 ?_
    obtain ⟨M107, e108, h⟩ := xbnd h
    refine xs_last (by decide +kernel) (show xin (0) by decide) e108 rfl ?_
    refine xe_goto (off := 7) (nx := 17) (by decide +kernel) (by decide) ?_
    refine xe_iconst (n := 0) (by decide +kernel) rfl ?_
    cases h
    exact xe_ret_i (ty := .int) (by decide +kernel) rfl rfl ⟨rfl, rfl, (show xin (0) by decide)⟩
-- ChangeHouseLaw.sheet
def xr_1010 : xj_mR := (16, yL_sheet, cL_sheet, 6, (Option.some Jvm.ClassFile.FieldType.int), 5, false, (8, 95), (1, 0))
set_option maxRecDepth 20000 in
theorem xr_1010_e : xj_row 1010 = some xr_1010 := rfl
def f1010  (f : Nat) (a0 : Nat) (a1 : Int) (a2 : Int) (a3 : Int) (a4 : Nat) (M : xj_M) : Option (Int × xj_M) := ((xq_is 11 (a0) M).bind fun _ => ((f183 f (a0) (a1) (a2) (a3) M).bind fun R103 => xhd R103 1 ((some (1, R103.2))) (fun v104 => ((xq_sl (a4) (0) (v104) R103.2).bind fun M107 => (some (0, M107))))))
theorem k1010 {d f : Nat}   {a0 : Nat} {a1 : Int} {a2 : Int} {a3 : Int} {a4 : Nat} {M : xj_M} {R : Int × xj_M} (ha1 : xin a1) (ha2 : xin a2) (ha3 : xin a3) (h : f1010  f a0 a1 a2 a3 a4 M = some R) : xT (d + 7) 1010 [xR_ a0, xI a1, xI a2, xI a3, xR_ a4] M (xQi R) := by
  refine xT_m xr_1010_e (X := (some (0, 11, 14, 13, 1), d + 6, none)) rfl (xa_1 (xR_cat _) (xa_1 (xI_cat _) (xa_1 (xI_cat _) (xa_1 (xI_cat _) (xa_1 (xR_cat _) xa_n))))) (by decide) ?_
  unfold f1010 at h
  refine xe_alr (ins := .aload 4) (len := 2) (i := 4) (by decide +kernel) rfl rfl rfl rfl rfl ?_
  refine xe_iconst (n := 0) (by decide +kernel) rfl ?_
  refine xe_alr (ins := .aload_n 0) (len := 1) (i := 0) (by decide +kernel) rfl rfl rfl rfl rfl ?_
  refine xe_ldn (ins := .iload_n 1) (len := 1) (by decide +kernel) rfl rfl rfl rfl ?_
  refine xe_ldn (ins := .iload_n 2) (len := 1) (by decide +kernel) rfl rfl rfl rfl ?_
  refine xe_ldn (ins := .iload_n 3) (len := 1) (by decide +kernel) rfl rfl rfl rfl ?_
  obtain ⟨_, e102, h⟩ := xbnd h
  obtain ⟨R103, e101, h⟩ := xbnd h
  refine xs2_cv (kd := 0) (jj := 183) (by decide) (i := 33) (j := 183) (ar := [xI (a3), xI (a2), xI (a1)]) (rest := [xI (0), xR_ (a4)]) (r2 := xr_183) (by decide +kernel) (by decide +kernel) (by decide +kernel) xr_183_e rfl (by decide) (by simp only [List.map_cons, List.map_nil, List.sum_cons, List.sum_nil, xR_cat, xI_cat, xZ_cat]; decide) e102 ?_
  refine xct_l (k183 (d := d + 0) ha1 ha2 ha3 e101) rfl (fun e1 g105 => ?_) (fun v104 g105 hi106 => ?_)
  · obtain ⟨e2, h⟩ := xhd_l g105 h
    refine xK_han2 (t := (0, 11, 14, 13, 1)) (i := 5) rfl ⟨by decide, by decide, e2⟩ (by decide +kernel) (by decide) (xk_k (show ¬ (0 : Nat) = 5 by decide) (Or.inl (show ¬ (0 + 1 : Nat) = 5 by decide)) (xk_k (show ¬ (1 : Nat) = 5 by decide) (Or.inl (show ¬ (1 + 1 : Nat) = 5 by decide)) (xk_k (show ¬ (2 : Nat) = 5 by decide) (Or.inl (show ¬ (2 + 1 : Nat) = 5 by decide)) (xk_k (show ¬ (3 : Nat) = 5 by decide) (Or.inl (show ¬ (3 + 1 : Nat) = 5 by decide)) (xk_k (show ¬ (4 : Nat) = 5 by decide) (Or.inr (xR_cat _)) xk_n))))) ?_
    refine xe_iconst (n := 1) (by decide +kernel) rfl ?_
    cases h
    exact xe_ret_i (ty := .int) (by decide +kernel) rfl rfl ⟨rfl, rfl, (show xin (1) by decide)⟩
  · rw [xhd_r g105] at h
    obtain ⟨M107, e108, h⟩ := xbnd h
    refine xs_last (by decide +kernel) (show xin (0) by decide) e108 rfl ?_
    refine xe_goto (off := 7) (nx := 18) (by decide +kernel) (by decide) ?_
    refine xe_iconst (n := 0) (by decide +kernel) rfl ?_
    cases h
    exact xe_ret_i (ty := .int) (by decide +kernel) rfl rfl ⟨rfl, rfl, (show xin (0) by decide)⟩
-- ChangeHouseLaw.pastValue
def xr_1011 : xj_mR := (16, yL_pastValue, cL_pastValue, 7, (Option.some Jvm.ClassFile.FieldType.int), 6, false, (8, 105), (1, 0))
set_option maxRecDepth 20000 in
theorem xr_1011_e : xj_row 1011 = some xr_1011 := rfl
def f1011  (f : Nat) (a0 : Nat) (a1 : Int) (a2 : Int) (a3 : Int) (a4 : Int) (a5 : Nat) (M : xj_M) : Option (Int × xj_M) := ((xq_is 11 (a0) M).bind fun _ => ((f185 f (a0) (a1) (a2) (a3) (a4) M).bind fun R103 => xhd R103 1 ((some (1, R103.2))) (fun v104 => ((xq_sl (a5) (0) (v104) R103.2).bind fun M107 => (some (0, M107))))))
theorem k1011 {d f : Nat}   {a0 : Nat} {a1 : Int} {a2 : Int} {a3 : Int} {a4 : Int} {a5 : Nat} {M : xj_M} {R : Int × xj_M} (ha1 : xin a1) (ha2 : xin a2) (ha3 : xin a3) (ha4 : xin a4) (h : f1011  f a0 a1 a2 a3 a4 a5 M = some R) : xT (d + 7) 1011 [xR_ a0, xI a1, xI a2, xI a3, xI a4, xR_ a5] M (xQi R) := by
  refine xT_m xr_1011_e (X := (some (0, 13, 16, 13, 1), d + 6, none)) rfl (xa_1 (xR_cat _) (xa_1 (xI_cat _) (xa_1 (xI_cat _) (xa_1 (xI_cat _) (xa_1 (xI_cat _) (xa_1 (xR_cat _) xa_n)))))) (by decide) ?_
  unfold f1011 at h
  refine xe_alr (ins := .aload 5) (len := 2) (i := 5) (by decide +kernel) rfl rfl rfl rfl rfl ?_
  refine xe_iconst (n := 0) (by decide +kernel) rfl ?_
  refine xe_alr (ins := .aload_n 0) (len := 1) (i := 0) (by decide +kernel) rfl rfl rfl rfl rfl ?_
  refine xe_ldn (ins := .iload_n 1) (len := 1) (by decide +kernel) rfl rfl rfl rfl ?_
  refine xe_ldn (ins := .iload_n 2) (len := 1) (by decide +kernel) rfl rfl rfl rfl ?_
  refine xe_ldn (ins := .iload_n 3) (len := 1) (by decide +kernel) rfl rfl rfl rfl ?_
  refine xe_ldn (ins := .iload 4) (len := 2) (by decide +kernel) rfl rfl rfl rfl ?_
  obtain ⟨_, e102, h⟩ := xbnd h
  obtain ⟨R103, e101, h⟩ := xbnd h
  refine xs2_cv (kd := 0) (jj := 185) (by decide) (i := 36) (j := 185) (ar := [xI (a4), xI (a3), xI (a2), xI (a1)]) (rest := [xI (0), xR_ (a5)]) (r2 := xr_185) (by decide +kernel) (by decide +kernel) (by decide +kernel) xr_185_e rfl (by decide) (by simp only [List.map_cons, List.map_nil, List.sum_cons, List.sum_nil, xR_cat, xI_cat, xZ_cat]; decide) e102 ?_
  refine xct_l (k185 (d := d + 0) ha1 ha2 ha3 ha4 e101) rfl (fun e1 g105 => ?_) (fun v104 g105 hi106 => ?_)
  · obtain ⟨e2, h⟩ := xhd_l g105 h
    refine xK_han2 (t := (0, 13, 16, 13, 1)) (i := 6) rfl ⟨by decide, by decide, e2⟩ (by decide +kernel) (by decide) (xk_k (show ¬ (0 : Nat) = 6 by decide) (Or.inl (show ¬ (0 + 1 : Nat) = 6 by decide)) (xk_k (show ¬ (1 : Nat) = 6 by decide) (Or.inl (show ¬ (1 + 1 : Nat) = 6 by decide)) (xk_k (show ¬ (2 : Nat) = 6 by decide) (Or.inl (show ¬ (2 + 1 : Nat) = 6 by decide)) (xk_k (show ¬ (3 : Nat) = 6 by decide) (Or.inl (show ¬ (3 + 1 : Nat) = 6 by decide)) (xk_k (show ¬ (4 : Nat) = 6 by decide) (Or.inl (show ¬ (4 + 1 : Nat) = 6 by decide)) (xk_k (show ¬ (5 : Nat) = 6 by decide) (Or.inr (xR_cat _)) xk_n)))))) ?_
    refine xe_iconst (n := 1) (by decide +kernel) rfl ?_
    cases h
    exact xe_ret_i (ty := .int) (by decide +kernel) rfl rfl ⟨rfl, rfl, (show xin (1) by decide)⟩
  · rw [xhd_r g105] at h
    obtain ⟨M107, e108, h⟩ := xbnd h
    refine xs_last (by decide +kernel) (show xin (0) by decide) e108 rfl ?_
    refine xe_goto (off := 7) (nx := 20) (by decide +kernel) (by decide) ?_
    refine xe_iconst (n := 0) (by decide +kernel) rfl ?_
    cases h
    exact xe_ret_i (ty := .int) (by decide +kernel) rfl rfl ⟨rfl, rfl, (show xin (0) by decide)⟩
-- ChangeHouseLaw.met
def xr_1012 : xj_mR := (16, yL_met, cL_met, 4, (Option.some Jvm.ClassFile.FieldType.int), 3, false, (8, 112), (1, 0))
set_option maxRecDepth 20000 in
theorem xr_1012_e : xj_row 1012 = some xr_1012 := rfl
def f1012  (f : Nat) (a0 : Nat) (a1 : Int) (a2 : Nat) (M : xj_M) : Option (Int × xj_M) := ((xq_is 11 (a0) M).bind fun _ => ((f191 f (a0) (a1) M).bind fun R103 => xhd R103 1 ((some (1, R103.2))) (fun v104 => ((xq_sl (a2) (0) (v104) R103.2).bind fun M107 => (some (0, M107))))))
theorem k1012 {d f : Nat}   {a0 : Nat} {a1 : Int} {a2 : Nat} {M : xj_M} {R : Int × xj_M} (ha1 : xin a1) (h : f1012  f a0 a1 a2 M = some R) : xT (d + 7) 1012 [xR_ a0, xI a1, xR_ a2] M (xQi R) := by
  refine xT_m xr_1012_e (X := (some (0, 8, 11, 13, 1), d + 6, none)) rfl (xa_1 (xR_cat _) (xa_1 (xI_cat _) (xa_1 (xR_cat _) xa_n))) (by decide) ?_
  unfold f1012 at h
  refine xe_alr (ins := .aload_n 2) (len := 1) (i := 2) (by decide +kernel) rfl rfl rfl rfl rfl ?_
  refine xe_iconst (n := 0) (by decide +kernel) rfl ?_
  refine xe_alr (ins := .aload_n 0) (len := 1) (i := 0) (by decide +kernel) rfl rfl rfl rfl rfl ?_
  refine xe_ldn (ins := .iload_n 1) (len := 1) (by decide +kernel) rfl rfl rfl rfl ?_
  obtain ⟨_, e102, h⟩ := xbnd h
  obtain ⟨R103, e101, h⟩ := xbnd h
  refine xs2_cv (kd := 0) (jj := 191) (by decide) (i := 40) (j := 191) (ar := [xI (a1)]) (rest := [xI (0), xR_ (a2)]) (r2 := xr_191) (by decide +kernel) (by decide +kernel) (by decide +kernel) xr_191_e rfl (by decide) (by simp only [List.map_cons, List.map_nil, List.sum_cons, List.sum_nil, xR_cat, xI_cat, xZ_cat]; decide) e102 ?_
  refine xct_l (k191 (d := d + 0) ha1 e101) rfl (fun e1 g105 => ?_) (fun v104 g105 hi106 => ?_)
  · obtain ⟨e2, h⟩ := xhd_l g105 h
    refine xK_han (t := (0, 8, 11, 13, 1)) (i4 := 3) rfl ⟨by decide, by decide, e2⟩ (by decide +kernel) (by decide) (xk_k (show ¬ (0 : Nat) = 3 by decide) (Or.inl (show ¬ (0 + 1 : Nat) = 3 by decide)) (xk_k (show ¬ (1 : Nat) = 3 by decide) (Or.inl (show ¬ (1 + 1 : Nat) = 3 by decide)) (xk_k (show ¬ (2 : Nat) = 3 by decide) (Or.inr (xR_cat _)) xk_n))) ?_
    refine xe_iconst (n := 1) (by decide +kernel) rfl ?_
    cases h
    exact xe_ret_i (ty := .int) (by decide +kernel) rfl rfl ⟨rfl, rfl, (show xin (1) by decide)⟩
  · rw [xhd_r g105] at h
    obtain ⟨M107, e108, h⟩ := xbnd h
    refine xs_last (by decide +kernel) (show xin (0) by decide) e108 rfl ?_
    refine xe_goto (off := 6) (nx := 14) (by decide +kernel) (by decide) ?_
    refine xe_iconst (n := 0) (by decide +kernel) rfl ?_
    cases h
    exact xe_ret_i (ty := .int) (by decide +kernel) rfl rfl ⟨rfl, rfl, (show xin (0) by decide)⟩
-- ChangeHouse$Formula.addReads
def xr_1 : xj_mR := (0, yX0_addReads, cX0_addReads, 4, (Option.none : Option Jvm.ClassFile.FieldType), 2, false, (6, 40), (1, 28))
set_option maxRecDepth 20000 in
theorem xr_1_e : xj_row 1 = some xr_1 := rfl
def f1_34  (r2 : Nat → Int → Int → Int → xj_M → Option (xj_M)) (f : Nat) (x0 : Nat) (x1 : Int) (x2 : Int) (x3 : Int) (M : xj_M) : Option (xj_M) := r2 (x0) (x1) (x2) (xwr ((x3) + (1))) M
theorem k1_34 {d f : Nat}  {r2 : Nat → Int → Int → Int → xj_M → Option (xj_M)}  (hr2 : ∀ {x0 : Nat} {x1 : Int} {x2 : Int} {x3 : Int} {M : xj_M} {R : xj_M}, xin x1 → xin x2 → xin x3 → r2 x0 x1 x2 x3 M = some R → xW (d + 1) (none, d + 1, none) xr_1 (2, [(0, xR_ x0), (1, xI x1), (2, xI x2), (3, xI x3)], [], M) (xQv R)) {x0 : Nat} {x1 : Int} {x2 : Int} {x3 : Int} {M : xj_M} {R : xj_M} (hx1 : xin x1) (hx2 : xin x2) (hx3 : xin x3) (h : f1_34  r2 f x0 x1 x2 x3 M = some R) : xW (d + 1) (none, d + 1, none) xr_1 (34, [(0, xR_ x0), (1, xI x1), (2, xI x2), (3, xI x3)], [], M) (xQv R) := by
  unfold f1_34 at h
  refine xe_iincr (i := 3) (n := 1) (by decide +kernel) (by decide) rfl (xk_k (show ¬ (0 : Nat) = 3 by decide) (Or.inl (show ¬ (0 + 1 : Nat) = 3 by decide)) (xk_k (show ¬ (1 : Nat) = 3 by decide) (Or.inl (show ¬ (1 + 1 : Nat) = 3 by decide)) (xk_k (show ¬ (2 : Nat) = 3 by decide) (Or.inr (xI_cat _)) (xk_d rfl xk_n)))) rfl ?_
  refine xe_goto (off := -35) (nx := 2) (by decide +kernel) (by decide) ?_
  refine xW_lv rfl (l := [(0, xR_ (x0)), (1, xI (x1)), (2, xI (x2)), (3, xI (xwr ((x3) + (1))))]) (xsb_of ⟨rfl, rfl, rfl, rfl, trivial⟩ (show [3, 0, 1, 2].Nodup by decide)) ?_
  exact hr2 hx1 hx2 (xin_wr _) h
def f1_2b  (r2 : Nat → Int → Int → Int → xj_M → Option (xj_M)) (f : Nat) (x0 : Nat) (x1 : Int) (x2 : Int) (x3 : Int) (M : xj_M) : Option (xj_M) := (if (x2) < (x3) then (some M) else (if (xrem (x3) (6)) < (xrem (x1) (6)) then f1_34  r2 f (x0) (x1) (x2) (x3) M else (if (xrem (x2) (6)) < (xrem (x3) (6)) then f1_34  r2 f (x0) (x1) (x2) (x3) M else ((xq_is 0 (x0) M).bind fun _ => ((f2  f (x0) (x3) M).bind fun M110 => f1_34  r2 f (x0) (x1) (x2) (x3) M110)))))
theorem k1_2b {d f : Nat}  {r2 : Nat → Int → Int → Int → xj_M → Option (xj_M)}  (hr2 : ∀ {x0 : Nat} {x1 : Int} {x2 : Int} {x3 : Int} {M : xj_M} {R : xj_M}, xin x1 → xin x2 → xin x3 → r2 x0 x1 x2 x3 M = some R → xW (d + 1) (none, d + 1, none) xr_1 (2, [(0, xR_ x0), (1, xI x1), (2, xI x2), (3, xI x3)], [], M) (xQv R)) {x0 : Nat} {x1 : Int} {x2 : Int} {x3 : Int} {M : xj_M} {R : xj_M} (hx1 : xin x1) (hx2 : xin x2) (hx3 : xin x3) (h : f1_2b  r2 f x0 x1 x2 x3 M = some R) : xW (d + 1) (none, d + 1, none) xr_1 (2, [(0, xR_ x0), (1, xI x1), (2, xI x2), (3, xI x3)], [], M) (xQv R) := by
  unfold f1_2b at h
  refine xe_ldn (ins := .iload_n 3) (len := 1) (by decide +kernel) rfl rfl rfl rfl ?_
  refine xe_ldn (ins := .iload_n 2) (len := 1) (by decide +kernel) rfl rfl rfl rfl ?_
  refine xe_icmpgt (off := 36) (t := 40) (by decide +kernel) (by decide) rfl hx3 hx2 (fun c101 => ?_) (fun c101 => ?_)
  · rw [if_pos c101] at h
    cases h
    exact xe_ret_v (by decide +kernel) rfl ⟨rfl, rfl⟩
  · rw [if_neg c101] at h
    refine xe_ldn (ins := .iload_n 3) (len := 1) (by decide +kernel) rfl rfl rfl rfl ?_
    refine xe_bipush (n := 6) (by decide +kernel) (by decide) rfl ?_
    refine xe_irem (by decide +kernel) rfl (show xin (6) by decide) (by decide) ?_
    refine xe_ldn (ins := .iload_n 1) (len := 1) (by decide +kernel) rfl rfl rfl rfl ?_
    refine xe_bipush (n := 6) (by decide +kernel) (by decide) rfl ?_
    refine xe_irem (by decide +kernel) rfl (show xin (6) by decide) (by decide) ?_
    refine xe_icmplt (off := 19) (t := 34) (by decide +kernel) (by decide) rfl (xin_of _) (xin_of _) (fun c104 => ?_) (fun c104 => ?_)
    · rw [if_pos c104] at h
      refine xW_lv rfl (l := [(0, xR_ (x0)), (1, xI (x1)), (2, xI (x2)), (3, xI (x3))]) (xsb_of ⟨rfl, rfl, rfl, rfl, trivial⟩ (show [0, 1, 2, 3].Nodup by decide)) ?_
      exact k1_34  hr2 hx1 hx2 hx3 h
    · rw [if_neg c104] at h
      refine xe_ldn (ins := .iload_n 3) (len := 1) (by decide +kernel) rfl rfl rfl rfl ?_
      refine xe_bipush (n := 6) (by decide +kernel) (by decide) rfl ?_
      refine xe_irem (by decide +kernel) rfl (show xin (6) by decide) (by decide) ?_
      refine xe_ldn (ins := .iload_n 2) (len := 1) (by decide +kernel) rfl rfl rfl rfl ?_
      refine xe_bipush (n := 6) (by decide +kernel) (by decide) rfl ?_
      refine xe_irem (by decide +kernel) rfl (show xin (6) by decide) (by decide) ?_
      refine xe_icmpgt (off := 8) (t := 34) (by decide +kernel) (by decide) rfl (xin_of _) (xin_of _) (fun c107 => ?_) (fun c107 => ?_)
      · rw [if_pos c107] at h
        refine xW_lv rfl (l := [(0, xR_ (x0)), (1, xI (x1)), (2, xI (x2)), (3, xI (x3))]) (xsb_of ⟨rfl, rfl, rfl, rfl, trivial⟩ (show [0, 1, 2, 3].Nodup by decide)) ?_
        exact k1_34  hr2 hx1 hx2 hx3 h
      · rw [if_neg c107] at h
        refine xe_alr (ins := .aload_n 0) (len := 1) (i := 0) (by decide +kernel) rfl rfl rfl rfl rfl ?_
        refine xe_ldn (ins := .iload_n 3) (len := 1) (by decide +kernel) rfl rfl rfl rfl ?_
        obtain ⟨_, e109, h⟩ := xbnd h
        obtain ⟨M110, e108, h⟩ := xbnd h
        refine xs_cv (i := 19) (j := 2) (ar := [xI (x3)]) (rest := []) (r2 := xr_2) (by decide +kernel) (by decide +kernel) (by decide +kernel) xr_2_e rfl (by decide) (by decide) e109 ?_
        refine xc_v (k2 (d := d + 0)  hx3 e108) rfl ?_
        refine xW_lv rfl (l := [(0, xR_ (x0)), (1, xI (x1)), (2, xI (x2)), (3, xI (x3))]) (xsb_of ⟨rfl, rfl, rfl, rfl, trivial⟩ (show [0, 1, 2, 3].Nodup by decide)) ?_
        exact k1_34  hr2 hx1 hx2 hx3 h
def f1_2   (f : Nat) : Nat → Nat → Int → Int → Int → xj_M → Option (xj_M)
  | 0, _, _, _, _, _ => none
  | n + 1, x0, x1, x2, x3, M => f1_2b   (f1_2   f n) f x0 x1 x2 x3 M
theorem k1_2 {d f : Nat}     : ∀ {n : Nat} {x0 : Nat} {x1 : Int} {x2 : Int} {x3 : Int} {M : xj_M} {R : xj_M}, xin x1 → xin x2 → xin x3 → f1_2   f n x0 x1 x2 x3 M = some R → xW (d + 1) (none, d + 1, none) xr_1 (2, [(0, xR_ x0), (1, xI x1), (2, xI x2), (3, xI x3)], [], M) (xQv R) := by
  intro n
  induction n with
  | zero => intros; rename_i h; cases h
  | succ n ih => intros; rename_i h; exact k1_2b   ih (by assumption) (by assumption) (by assumption) h
def f1  (f : Nat) (a0 : Nat) (a1 : Int) (a2 : Int) (M : xj_M) : Option (xj_M) := f1_2   f f (a0) (a1) (a2) (a1) M
theorem k1 {d f : Nat}   {a0 : Nat} {a1 : Int} {a2 : Int} {M : xj_M} {R : xj_M} (ha1 : xin a1) (ha2 : xin a2) (h : f1  f a0 a1 a2 M = some R) : xT (d + 2) 1 [xR_ a0, xI a1, xI a2] M (xQv R) := by
  refine xT_m xr_1_e (X := (none, d + 1, none)) rfl (xa_1 (xR_cat _) (xa_1 (xI_cat _) (xa_1 (xI_cat _) xa_n))) (by decide) ?_
  unfold f1 at h
  refine xe_ldn (ins := .iload_n 1) (len := 1) (by decide +kernel) rfl rfl rfl rfl ?_
  refine xe_isr (ins := .istore_n 3) (len := 1) (i := 3) (by decide +kernel) rfl rfl rfl (by decide) (xk_k (show ¬ (0 : Nat) = 3 by decide) (Or.inl (show ¬ (0 + 1 : Nat) = 3 by decide)) (xk_k (show ¬ (1 : Nat) = 3 by decide) (Or.inl (show ¬ (1 + 1 : Nat) = 3 by decide)) (xk_k (show ¬ (2 : Nat) = 3 by decide) (Or.inr (xI_cat _)) xk_n))) rfl ?_
  refine xW_lv rfl (l := [(0, xR_ (a0)), (1, xI (a1)), (2, xI (a2)), (3, xI (a1))]) (xsb_of ⟨rfl, rfl, rfl, rfl, trivial⟩ (show [3, 0, 1, 2].Nodup by decide)) ?_
  exact k1_2   ha1 ha2 ha1 h
-- ChangeHouse$Line.addMissing
def xr_9 : xj_mR := (1, yX1_addMissing, cX1_addMissing, 7, (Option.none : Option Jvm.ClassFile.FieldType), 4, false, (7, 225), (1, 11))
set_option maxRecDepth 20000 in
theorem xr_9_e : xj_row 9 = some xr_9 := rfl
def f9_48  (r8 : Nat → Int → Int → Nat → Nat → Nat → Int → xj_M → Option (xj_M)) (f : Nat) (x0 : Nat) (x1 : Int) (x2 : Int) (x3 : Nat) (x4 : Nat) (x5 : Nat) (x6 : Int) (M : xj_M) : Option (xj_M) := r8 (x0) (x1) (x2) (x3) (x4) (x5) (xwr ((x6) + (1))) M
theorem k9_48 {d f : Nat}  {r8 : Nat → Int → Int → Nat → Nat → Nat → Int → xj_M → Option (xj_M)}  (hr8 : ∀ {x0 : Nat} {x1 : Int} {x2 : Int} {x3 : Nat} {x4 : Nat} {x5 : Nat} {x6 : Int} {M : xj_M} {R : xj_M}, xin x1 → xin x2 → xin x6 → r8 x0 x1 x2 x3 x4 x5 x6 M = some R → xW (d + 3) (none, d + 3, none) xr_9 (8, [(0, xR_ x0), (1, xI x1), (2, xI x2), (3, xR_ x3), (4, xR_ x4), (5, xR_ x5), (6, xI x6)], [], M) (xQv R)) {x0 : Nat} {x1 : Int} {x2 : Int} {x3 : Nat} {x4 : Nat} {x5 : Nat} {x6 : Int} {M : xj_M} {R : xj_M} (hx1 : xin x1) (hx2 : xin x2) (hx6 : xin x6) (h : f9_48  r8 f x0 x1 x2 x3 x4 x5 x6 M = some R) : xW (d + 3) (none, d + 3, none) xr_9 (48, [(0, xR_ x0), (1, xI x1), (2, xI x2), (3, xR_ x3), (4, xR_ x4), (5, xR_ x5), (6, xI x6)], [], M) (xQv R) := by
  unfold f9_48 at h
  refine xe_iincr (i := 6) (n := 1) (by decide +kernel) (by decide) rfl (xk_k (show ¬ (0 : Nat) = 6 by decide) (Or.inl (show ¬ (0 + 1 : Nat) = 6 by decide)) (xk_k (show ¬ (1 : Nat) = 6 by decide) (Or.inl (show ¬ (1 + 1 : Nat) = 6 by decide)) (xk_k (show ¬ (2 : Nat) = 6 by decide) (Or.inl (show ¬ (2 + 1 : Nat) = 6 by decide)) (xk_k (show ¬ (3 : Nat) = 6 by decide) (Or.inl (show ¬ (3 + 1 : Nat) = 6 by decide)) (xk_k (show ¬ (4 : Nat) = 6 by decide) (Or.inl (show ¬ (4 + 1 : Nat) = 6 by decide)) (xk_k (show ¬ (5 : Nat) = 6 by decide) (Or.inr (xR_cat _)) (xk_d rfl xk_n))))))) rfl ?_
  refine xe_goto (off := -43) (nx := 8) (by decide +kernel) (by decide) ?_
  refine xW_lv rfl (l := [(0, xR_ (x0)), (1, xI (x1)), (2, xI (x2)), (3, xR_ (x3)), (4, xR_ (x4)), (5, xR_ (x5)), (6, xI (xwr ((x6) + (1))))]) (xsb_of ⟨rfl, rfl, rfl, rfl, rfl, rfl, rfl, trivial⟩ (show [6, 0, 1, 2, 3, 4, 5].Nodup by decide)) ?_
  exact hr8 hx1 hx2 (xin_wr _) h
def f9_8b  (r8 : Nat → Int → Int → Nat → Nat → Nat → Int → xj_M → Option (xj_M)) (f : Nat) (x0 : Nat) (x1 : Int) (x2 : Int) (x3 : Nat) (x4 : Nat) (x5 : Nat) (x6 : Int) (M : xj_M) : Option (xj_M) := ((xq_gi 5 1 (x3) M).bind fun v101 => (if (v101) ≤ (x6) then (some M) else ((xq_is 5 (x3) M).bind fun _ => ((f78  f (x3) (x6) (x5) M).bind fun M106 => ((xq_is 5 (x4) M106).bind fun _ => ((f74  f (x4) (x5) M106).bind fun R110 => (if 0 ≤ (R110.1) then f9_48  r8 f (x0) (x1) (x2) (x3) (x4) (x5) (x6) R110.2 else ((xq_gi 5 0 (x3) R110.2).bind fun v113 => ((xq_is 1 (x0) R110.2).bind fun _ => ((f8  f (x0) (x1) (x2) (x5) (0) (v113) R110.2).bind fun M117 => f9_48  r8 f (x0) (x1) (x2) (x3) (x4) (x5) (x6) M117))))))))))
theorem k9_8b {d f : Nat}  {r8 : Nat → Int → Int → Nat → Nat → Nat → Int → xj_M → Option (xj_M)}  (hr8 : ∀ {x0 : Nat} {x1 : Int} {x2 : Int} {x3 : Nat} {x4 : Nat} {x5 : Nat} {x6 : Int} {M : xj_M} {R : xj_M}, xin x1 → xin x2 → xin x6 → r8 x0 x1 x2 x3 x4 x5 x6 M = some R → xW (d + 3) (none, d + 3, none) xr_9 (8, [(0, xR_ x0), (1, xI x1), (2, xI x2), (3, xR_ x3), (4, xR_ x4), (5, xR_ x5), (6, xI x6)], [], M) (xQv R)) {x0 : Nat} {x1 : Int} {x2 : Int} {x3 : Nat} {x4 : Nat} {x5 : Nat} {x6 : Int} {M : xj_M} {R : xj_M} (hx1 : xin x1) (hx2 : xin x2) (hx6 : xin x6) (h : f9_8b  r8 f x0 x1 x2 x3 x4 x5 x6 M = some R) : xW (d + 3) (none, d + 3, none) xr_9 (8, [(0, xR_ x0), (1, xI x1), (2, xI x2), (3, xR_ x3), (4, xR_ x4), (5, xR_ x5), (6, xI x6)], [], M) (xQv R) := by
  unfold f9_8b at h
  refine xe_ldn (ins := .iload 6) (len := 2) (by decide +kernel) rfl rfl rfl rfl ?_
  refine xe_alr (ins := .aload_n 3) (len := 1) (i := 3) (by decide +kernel) rfl rfl rfl rfl rfl ?_
  obtain ⟨v101, e102, h⟩ := xbnd h
  refine xs_gi (i := 67) (c := 5) (k := 1) (by decide +kernel) (by decide) (by decide +kernel) e102 rfl ?_
  refine xe_icmpge (off := 40) (t := 54) (by decide +kernel) (by decide) rfl hx6 (xq_gi_in e102) (fun c103 => ?_) (fun c103 => ?_)
  · rw [if_pos c103] at h
    cases h
    exact xe_ret_v (by decide +kernel) rfl ⟨rfl, rfl⟩
  · rw [if_neg c103] at h
    refine xe_alr (ins := .aload_n 3) (len := 1) (i := 3) (by decide +kernel) rfl rfl rfl rfl rfl ?_
    refine xe_ldn (ins := .iload 6) (len := 2) (by decide +kernel) rfl rfl rfl rfl ?_
    refine xe_alr (ins := .aload 5) (len := 2) (i := 5) (by decide +kernel) rfl rfl rfl rfl rfl ?_
    obtain ⟨_, e105, h⟩ := xbnd h
    obtain ⟨M106, e104, h⟩ := xbnd h
    refine xs_cv (i := 72) (j := 78) (ar := [xR_ (x5), xI (x6)]) (rest := []) (r2 := xr_78) (by decide +kernel) (by decide +kernel) (by decide +kernel) xr_78_e rfl (by decide) (by decide) e105 ?_
    refine xc_v (k78 (d := d + 2)  hx6 e104) rfl ?_
    refine xe_alr (ins := .aload 4) (len := 2) (i := 4) (by decide +kernel) rfl rfl rfl rfl rfl ?_
    refine xe_alr (ins := .aload 5) (len := 2) (i := 5) (by decide +kernel) rfl rfl rfl rfl rfl ?_
    obtain ⟨_, e109, h⟩ := xbnd h
    obtain ⟨R110, e108, h⟩ := xbnd h
    refine xs_cv (i := 76) (j := 74) (ar := [xR_ (x5)]) (rest := []) (r2 := xr_74) (by decide +kernel) (by decide +kernel) (by decide +kernel) xr_74_e rfl (by decide) (by decide) e109 ?_
    refine xc_i (k74 (d := d + 0)   e108) rfl (fun hi111 => ?_)
    refine xe_ifge (off := 16) (t := 48) (by decide +kernel) (by decide) rfl hi111 (fun c112 => ?_) (fun c112 => ?_)
    · rw [if_pos c112] at h
      refine xW_lv rfl (l := [(0, xR_ (x0)), (1, xI (x1)), (2, xI (x2)), (3, xR_ (x3)), (4, xR_ (x4)), (5, xR_ (x5)), (6, xI (x6))]) (xsb_of ⟨rfl, rfl, rfl, rfl, rfl, rfl, rfl, trivial⟩ (show [0, 1, 2, 3, 4, 5, 6].Nodup by decide)) ?_
      exact k9_48  hr8 hx1 hx2 hx6 h
    · rw [if_neg c112] at h
      refine xe_alr (ins := .aload_n 0) (len := 1) (i := 0) (by decide +kernel) rfl rfl rfl rfl rfl ?_
      refine xe_ldn (ins := .iload_n 1) (len := 1) (by decide +kernel) rfl rfl rfl rfl ?_
      refine xe_ldn (ins := .iload_n 2) (len := 1) (by decide +kernel) rfl rfl rfl rfl ?_
      refine xe_alr (ins := .aload 5) (len := 2) (i := 5) (by decide +kernel) rfl rfl rfl rfl rfl ?_
      refine xe_iconst (n := 0) (by decide +kernel) rfl ?_
      refine xe_alr (ins := .aload_n 3) (len := 1) (i := 3) (by decide +kernel) rfl rfl rfl rfl rfl ?_
      obtain ⟨v113, e114, h⟩ := xbnd h
      refine xs_gi (i := 80) (c := 5) (k := 0) (by decide +kernel) (by decide) (by decide +kernel) e114 rfl ?_
      obtain ⟨_, e116, h⟩ := xbnd h
      obtain ⟨M117, e115, h⟩ := xbnd h
      refine xs_cv (i := 83) (j := 8) (ar := [xI (v113), xI (0), xR_ (x5), xI (x2), xI (x1)]) (rest := []) (r2 := xr_8) (by decide +kernel) (by decide +kernel) (by decide +kernel) xr_8_e rfl (by decide) (by decide) e116 ?_
      refine xc_v (k8 (d := d + 2)  hx1 hx2 (show xin (0) by decide) (xq_gi_in e114) e115) rfl ?_
      refine xW_lv rfl (l := [(0, xR_ (x0)), (1, xI (x1)), (2, xI (x2)), (3, xR_ (x3)), (4, xR_ (x4)), (5, xR_ (x5)), (6, xI (x6))]) (xsb_of ⟨rfl, rfl, rfl, rfl, rfl, rfl, rfl, trivial⟩ (show [0, 1, 2, 3, 4, 5, 6].Nodup by decide)) ?_
      exact k9_48  hr8 hx1 hx2 hx6 h
def f9_8   (f : Nat) : Nat → Nat → Int → Int → Nat → Nat → Nat → Int → xj_M → Option (xj_M)
  | 0, _, _, _, _, _, _, _, _ => none
  | n + 1, x0, x1, x2, x3, x4, x5, x6, M => f9_8b   (f9_8   f n) f x0 x1 x2 x3 x4 x5 x6 M
theorem k9_8 {d f : Nat}     : ∀ {n : Nat} {x0 : Nat} {x1 : Int} {x2 : Int} {x3 : Nat} {x4 : Nat} {x5 : Nat} {x6 : Int} {M : xj_M} {R : xj_M}, xin x1 → xin x2 → xin x6 → f9_8   f n x0 x1 x2 x3 x4 x5 x6 M = some R → xW (d + 3) (none, d + 3, none) xr_9 (8, [(0, xR_ x0), (1, xI x1), (2, xI x2), (3, xR_ x3), (4, xR_ x4), (5, xR_ x5), (6, xI x6)], [], M) (xQv R) := by
  intro n
  induction n with
  | zero => intros; rename_i h; cases h
  | succ n ih => intros; rename_i h; exact k9_8b   ih (by assumption) (by assumption) (by assumption) h
def f9  (f : Nat) (a0 : Nat) (a1 : Int) (a2 : Int) (a3 : Nat) (a4 : Nat) (M : xj_M) : Option (xj_M) := ((xq_na 4 (4) M).bind fun p119 => f9_8   f f (a0) (a1) (a2) (a3) (a4) (p119.1) (0) p119.2)
theorem k9 {d f : Nat}   {a0 : Nat} {a1 : Int} {a2 : Int} {a3 : Nat} {a4 : Nat} {M : xj_M} {R : xj_M} (ha1 : xin a1) (ha2 : xin a2) (h : f9  f a0 a1 a2 a3 a4 M = some R) : xT (d + 4) 9 [xR_ a0, xI a1, xI a2, xR_ a3, xR_ a4] M (xQv R) := by
  refine xT_m xr_9_e (X := (none, d + 3, none)) rfl (xa_1 (xR_cat _) (xa_1 (xI_cat _) (xa_1 (xI_cat _) (xa_1 (xR_cat _) (xa_1 (xR_cat _) xa_n))))) (by decide) ?_
  unfold f9 at h
  refine xe_iconst (n := 4) (by decide +kernel) rfl ?_
  obtain ⟨p119, e120, h⟩ := xbnd h
  refine xs_na (kk := 4) (ty := .long) (x := p119.1) (M1 := p119.2) (by decide +kernel) rfl (show xin (4) by decide) e120 rfl ?_
  refine xe_asr (ins := .astore 5) (len := 2) (i := 5) (by decide +kernel) rfl rfl rfl (by decide) (xk_k (show ¬ (0 : Nat) = 5 by decide) (Or.inl (show ¬ (0 + 1 : Nat) = 5 by decide)) (xk_k (show ¬ (1 : Nat) = 5 by decide) (Or.inl (show ¬ (1 + 1 : Nat) = 5 by decide)) (xk_k (show ¬ (2 : Nat) = 5 by decide) (Or.inl (show ¬ (2 + 1 : Nat) = 5 by decide)) (xk_k (show ¬ (3 : Nat) = 5 by decide) (Or.inl (show ¬ (3 + 1 : Nat) = 5 by decide)) (xk_k (show ¬ (4 : Nat) = 5 by decide) (Or.inr (xR_cat _)) xk_n))))) rfl ?_
  refine xe_iconst (n := 0) (by decide +kernel) rfl ?_
  refine xe_isr (ins := .istore 6) (len := 2) (i := 6) (by decide +kernel) rfl rfl rfl (by decide) (xk_k (show ¬ (5 : Nat) = 6 by decide) (Or.inr (xR_cat _)) (xk_k (show ¬ (0 : Nat) = 6 by decide) (Or.inl (show ¬ (0 + 1 : Nat) = 6 by decide)) (xk_k (show ¬ (1 : Nat) = 6 by decide) (Or.inl (show ¬ (1 + 1 : Nat) = 6 by decide)) (xk_k (show ¬ (2 : Nat) = 6 by decide) (Or.inl (show ¬ (2 + 1 : Nat) = 6 by decide)) (xk_k (show ¬ (3 : Nat) = 6 by decide) (Or.inl (show ¬ (3 + 1 : Nat) = 6 by decide)) (xk_k (show ¬ (4 : Nat) = 6 by decide) (Or.inl (show ¬ (4 + 1 : Nat) = 6 by decide)) xk_n)))))) rfl ?_
  refine xW_lv rfl (l := [(0, xR_ (a0)), (1, xI (a1)), (2, xI (a2)), (3, xR_ (a3)), (4, xR_ (a4)), (5, xR_ (p119.1)), (6, xI (0))]) (xsb_of ⟨rfl, rfl, rfl, rfl, rfl, rfl, rfl, trivial⟩ (show [6, 5, 0, 1, 2, 3, 4].Nodup by decide)) ?_
  exact k9_8   ha1 ha2 (show xin (0) by decide) h
