/-! Mirrors (written by mk_mir.py) -/
-- ChangeHouseModel$Facts.copy
def xr_194 : xj_mR := (12, yX12_copy, cX12_copy, 4, (Option.none : Option Jvm.ClassFile.FieldType), 1, false, (9, 112), (1, 19))
set_option maxRecDepth 20000 in
theorem xr_194_e : xj_row 194 = some xr_194 := rfl
def f194_44b  (r10 : Nat → Nat → Int → xj_M → Option (xj_M)) (r44 : Nat → Nat → Int → Int → xj_M → Option (xj_M)) (f : Nat) (x0 : Nat) (x1 : Nat) (x2 : Int) (x3 : Int) (M : xj_M) : Option (xj_M) := (if (4) ≤ (x3) then r10 (x0) (x1) (xwr ((x2) + (1))) M else ((xq_gr 12 1 (x0) M).bind fun v102 => ((xq_gr 12 1 (x1) M).bind fun v104 => ((xq_al (v104) (xwr ((xwr ((4) * (x2))) + (x3))) M).bind fun v106 => ((xq_sl (v102) (xwr ((xwr ((4) * (x2))) + (x3))) (v106) M).bind fun M108 => r44 (x0) (x1) (x2) (xwr ((x3) + (1))) M108)))))
theorem k194_44b {d f : Nat}  {r10 : Nat → Nat → Int → xj_M → Option (xj_M)} {r44 : Nat → Nat → Int → Int → xj_M → Option (xj_M)}  (hr10 : ∀ {x0 : Nat} {x1 : Nat} {x2 : Int} {M : xj_M} {R : xj_M}, xin x2 → r10 x0 x1 x2 M = some R → xW (d + 0) (none, d + 0, none) xr_194 (10, [(0, xR_ x0), (1, xR_ x1), (2, xI x2)], [], M) (xQv R)) (hr44 : ∀ {x0 : Nat} {x1 : Nat} {x2 : Int} {x3 : Int} {M : xj_M} {R : xj_M}, xin x2 → xin x3 → r44 x0 x1 x2 x3 M = some R → xW (d + 0) (none, d + 0, none) xr_194 (44, [(0, xR_ x0), (1, xR_ x1), (2, xI x2), (3, xI x3)], [], M) (xQv R)) {x0 : Nat} {x1 : Nat} {x2 : Int} {x3 : Int} {M : xj_M} {R : xj_M} (hx2 : xin x2) (hx3 : xin x3) (h : f194_44b  r10 r44 f x0 x1 x2 x3 M = some R) : xW (d + 0) (none, d + 0, none) xr_194 (44, [(0, xR_ x0), (1, xR_ x1), (2, xI x2), (3, xI x3)], [], M) (xQv R) := by
  unfold f194_44b at h
  refine xe_ldn (ins := .iload_n 3) (len := 1) (by decide +kernel) rfl rfl rfl rfl ?_
  refine xe_iconst (n := 4) (by decide +kernel) rfl ?_
  refine xe_icmpge (off := 29) (t := 75) (by decide +kernel) (by decide) rfl hx3 (show xin (4) by decide) (fun c101 => ?_) (fun c101 => ?_)
  · rw [if_pos c101] at h
    refine xe_iincr (i := 2) (n := 1) (by decide +kernel) (by decide) rfl (xk_k (show ¬ (0 : Nat) = 2 by decide) (Or.inl (show ¬ (0 + 1 : Nat) = 2 by decide)) (xk_k (show ¬ (1 : Nat) = 2 by decide) (Or.inr (xR_cat _)) (xk_d rfl (xk_k (show ¬ (3 : Nat) = 2 by decide) (Or.inl (show ¬ (3 + 1 : Nat) = 2 by decide)) xk_n)))) rfl ?_
    refine xe_goto (off := -68) (nx := 10) (by decide +kernel) (by decide) ?_
    refine xW_lv rfl (l := [(0, xR_ (x0)), (1, xR_ (x1)), (2, xI (xwr ((x2) + (1))))]) (xsb_of ⟨rfl, rfl, rfl, trivial⟩ (show [2, 0, 1, 3].Nodup by decide)) ?_
    exact hr10 (xin_wr _) h
  · rw [if_neg c101] at h
    refine xe_alr (ins := .aload_n 0) (len := 1) (i := 0) (by decide +kernel) rfl rfl rfl rfl rfl ?_
    obtain ⟨v102, e103, h⟩ := xbnd h
    refine xs_gr (i := 15) (c := 12) (k := 1) (by decide +kernel) (by decide) (by decide +kernel) e103 rfl ?_
    refine xe_iconst (n := 4) (by decide +kernel) rfl ?_
    refine xe_ldn (ins := .iload_n 2) (len := 1) (by decide +kernel) rfl rfl rfl rfl ?_
    refine xe_imul (by decide +kernel) rfl ?_
    refine xe_ldn (ins := .iload_n 3) (len := 1) (by decide +kernel) rfl rfl rfl rfl ?_
    refine xe_iadd (by decide +kernel) rfl ?_
    refine xe_alr (ins := .aload_n 1) (len := 1) (i := 1) (by decide +kernel) rfl rfl rfl rfl rfl ?_
    obtain ⟨v104, e105, h⟩ := xbnd h
    refine xs_gr (i := 15) (c := 12) (k := 1) (by decide +kernel) (by decide) (by decide +kernel) e105 rfl ?_
    refine xe_iconst (n := 4) (by decide +kernel) rfl ?_
    refine xe_ldn (ins := .iload_n 2) (len := 1) (by decide +kernel) rfl rfl rfl rfl ?_
    refine xe_imul (by decide +kernel) rfl ?_
    refine xe_ldn (ins := .iload_n 3) (len := 1) (by decide +kernel) rfl rfl rfl rfl ?_
    refine xe_iadd (by decide +kernel) rfl ?_
    obtain ⟨v106, e107, h⟩ := xbnd h
    refine xs_lald (by decide +kernel) (xin_wr _) e107 rfl ?_
    obtain ⟨M108, e109, h⟩ := xbnd h
    refine xs_last (by decide +kernel) (xin_wr _) e109 rfl ?_
    refine xe_iincr (i := 3) (n := 1) (by decide +kernel) (by decide) rfl (xk_k (show ¬ (0 : Nat) = 3 by decide) (Or.inl (show ¬ (0 + 1 : Nat) = 3 by decide)) (xk_k (show ¬ (1 : Nat) = 3 by decide) (Or.inl (show ¬ (1 + 1 : Nat) = 3 by decide)) (xk_k (show ¬ (2 : Nat) = 3 by decide) (Or.inr (xI_cat _)) (xk_d rfl xk_n)))) rfl ?_
    refine xe_goto (off := -28) (nx := 44) (by decide +kernel) (by decide) ?_
    refine xW_lv rfl (l := [(0, xR_ (x0)), (1, xR_ (x1)), (2, xI (x2)), (3, xI (xwr ((x3) + (1))))]) (xsb_of ⟨rfl, rfl, rfl, rfl, trivial⟩ (show [3, 0, 1, 2].Nodup by decide)) ?_
    exact hr44 hx2 (xin_wr _) h
def f194_44  (r10 : Nat → Nat → Int → xj_M → Option (xj_M)) (f : Nat) : Nat → Nat → Nat → Int → Int → xj_M → Option (xj_M)
  | 0, _, _, _, _, _ => none
  | n + 1, x0, x1, x2, x3, M => f194_44b  r10 (f194_44  r10 f n) f x0 x1 x2 x3 M
theorem k194_44 {d f : Nat}  {r10 : Nat → Nat → Int → xj_M → Option (xj_M)}  (hr10 : ∀ {x0 : Nat} {x1 : Nat} {x2 : Int} {M : xj_M} {R : xj_M}, xin x2 → r10 x0 x1 x2 M = some R → xW (d + 0) (none, d + 0, none) xr_194 (10, [(0, xR_ x0), (1, xR_ x1), (2, xI x2)], [], M) (xQv R)) : ∀ {n : Nat} {x0 : Nat} {x1 : Nat} {x2 : Int} {x3 : Int} {M : xj_M} {R : xj_M}, xin x2 → xin x3 → f194_44  r10 f n x0 x1 x2 x3 M = some R → xW (d + 0) (none, d + 0, none) xr_194 (44, [(0, xR_ x0), (1, xR_ x1), (2, xI x2), (3, xI x3)], [], M) (xQv R) := by
  intro n
  induction n with
  | zero => intros; rename_i h; cases h
  | succ n ih => intros; rename_i h; exact k194_44b  hr10 ih (by assumption) (by assumption) h
def f194_10b  (r10 : Nat → Nat → Int → xj_M → Option (xj_M)) (f : Nat) (x0 : Nat) (x1 : Nat) (x2 : Int) (M : xj_M) : Option (xj_M) := ((xq_gi 12 3 (x0) M).bind fun v110 => (if (v110) ≤ (x2) then (some M) else ((xq_gr 12 0 (x0) M).bind fun v113 => ((xq_gr 12 0 (x1) M).bind fun v115 => ((xq_al (v115) (x2) M).bind fun v117 => ((xq_sl (v113) (x2) (v117) M).bind fun M119 => ((xq_gr 12 2 (x0) M119).bind fun v121 => ((xq_gr 12 2 (x1) M119).bind fun v123 => ((xq_ai 3 (v123) (x2) M119).bind fun v125 => ((xq_si (v121) (x2) (v125) M119).bind fun M127 => f194_44  r10 f f (x0) (x1) (x2) (0) M127))))))))))
theorem k194_10b {d f : Nat}  {r10 : Nat → Nat → Int → xj_M → Option (xj_M)}  (hr10 : ∀ {x0 : Nat} {x1 : Nat} {x2 : Int} {M : xj_M} {R : xj_M}, xin x2 → r10 x0 x1 x2 M = some R → xW (d + 0) (none, d + 0, none) xr_194 (10, [(0, xR_ x0), (1, xR_ x1), (2, xI x2)], [], M) (xQv R)) {x0 : Nat} {x1 : Nat} {x2 : Int} {M : xj_M} {R : xj_M} (hx2 : xin x2) (h : f194_10b  r10 f x0 x1 x2 M = some R) : xW (d + 0) (none, d + 0, none) xr_194 (10, [(0, xR_ x0), (1, xR_ x1), (2, xI x2)], [], M) (xQv R) := by
  unfold f194_10b at h
  refine xe_ldn (ins := .iload_n 2) (len := 1) (by decide +kernel) rfl rfl rfl rfl ?_
  refine xe_alr (ins := .aload_n 0) (len := 1) (i := 0) (by decide +kernel) rfl rfl rfl rfl rfl ?_
  obtain ⟨v110, e111, h⟩ := xbnd h
  refine xs_gi (i := 22) (c := 12) (k := 3) (by decide +kernel) (by decide) (by decide +kernel) e111 rfl ?_
  refine xe_icmpge (off := 66) (t := 81) (by decide +kernel) (by decide) rfl hx2 (xq_gi_in e111) (fun c112 => ?_) (fun c112 => ?_)
  · rw [if_pos c112] at h
    cases h
    exact xe_ret_v (by decide +kernel) rfl ⟨rfl, rfl⟩
  · rw [if_neg c112] at h
    refine xe_alr (ins := .aload_n 0) (len := 1) (i := 0) (by decide +kernel) rfl rfl rfl rfl rfl ?_
    obtain ⟨v113, e114, h⟩ := xbnd h
    refine xs_gr (i := 9) (c := 12) (k := 0) (by decide +kernel) (by decide) (by decide +kernel) e114 rfl ?_
    refine xe_ldn (ins := .iload_n 2) (len := 1) (by decide +kernel) rfl rfl rfl rfl ?_
    refine xe_alr (ins := .aload_n 1) (len := 1) (i := 1) (by decide +kernel) rfl rfl rfl rfl rfl ?_
    obtain ⟨v115, e116, h⟩ := xbnd h
    refine xs_gr (i := 9) (c := 12) (k := 0) (by decide +kernel) (by decide) (by decide +kernel) e116 rfl ?_
    refine xe_ldn (ins := .iload_n 2) (len := 1) (by decide +kernel) rfl rfl rfl rfl ?_
    obtain ⟨v117, e118, h⟩ := xbnd h
    refine xs_lald (by decide +kernel) hx2 e118 rfl ?_
    obtain ⟨M119, e120, h⟩ := xbnd h
    refine xs_last (by decide +kernel) hx2 e120 rfl ?_
    refine xe_alr (ins := .aload_n 0) (len := 1) (i := 0) (by decide +kernel) rfl rfl rfl rfl rfl ?_
    obtain ⟨v121, e122, h⟩ := xbnd h
    refine xs_gr (i := 18) (c := 12) (k := 2) (by decide +kernel) (by decide) (by decide +kernel) e122 rfl ?_
    refine xe_ldn (ins := .iload_n 2) (len := 1) (by decide +kernel) rfl rfl rfl rfl ?_
    refine xe_alr (ins := .aload_n 1) (len := 1) (i := 1) (by decide +kernel) rfl rfl rfl rfl rfl ?_
    obtain ⟨v123, e124, h⟩ := xbnd h
    refine xs_gr (i := 18) (c := 12) (k := 2) (by decide +kernel) (by decide) (by decide +kernel) e124 rfl ?_
    refine xe_ldn (ins := .iload_n 2) (len := 1) (by decide +kernel) rfl rfl rfl rfl ?_
    obtain ⟨v125, e126, h⟩ := xbnd h
    refine xs_iald rfl (by decide +kernel) hx2 e126 rfl ?_
    obtain ⟨M127, e128, h⟩ := xbnd h
    refine xs_iast (by decide +kernel) hx2 e128 rfl ?_
    refine xe_iconst (n := 0) (by decide +kernel) rfl ?_
    refine xe_isr (ins := .istore_n 3) (len := 1) (i := 3) (by decide +kernel) rfl rfl rfl (by decide) (xk_k (show ¬ (0 : Nat) = 3 by decide) (Or.inl (show ¬ (0 + 1 : Nat) = 3 by decide)) (xk_k (show ¬ (1 : Nat) = 3 by decide) (Or.inl (show ¬ (1 + 1 : Nat) = 3 by decide)) (xk_k (show ¬ (2 : Nat) = 3 by decide) (Or.inr (xI_cat _)) xk_n))) rfl ?_
    refine xW_lv rfl (l := [(0, xR_ (x0)), (1, xR_ (x1)), (2, xI (x2)), (3, xI (0))]) (xsb_of ⟨rfl, rfl, rfl, rfl, trivial⟩ (show [3, 0, 1, 2].Nodup by decide)) ?_
    exact k194_44  hr10 hx2 (show xin (0) by decide) h
def f194_10   (f : Nat) : Nat → Nat → Nat → Int → xj_M → Option (xj_M)
  | 0, _, _, _, _ => none
  | n + 1, x0, x1, x2, M => f194_10b   (f194_10   f n) f x0 x1 x2 M
theorem k194_10 {d f : Nat}     : ∀ {n : Nat} {x0 : Nat} {x1 : Nat} {x2 : Int} {M : xj_M} {R : xj_M}, xin x2 → f194_10   f n x0 x1 x2 M = some R → xW (d + 0) (none, d + 0, none) xr_194 (10, [(0, xR_ x0), (1, xR_ x1), (2, xI x2)], [], M) (xQv R) := by
  intro n
  induction n with
  | zero => intros; rename_i h; cases h
  | succ n ih => intros; rename_i h; exact k194_10b   ih (by assumption) h
def f194  (f : Nat) (a0 : Nat) (a1 : Nat) (M : xj_M) : Option (xj_M) := ((xq_gi 12 3 (a1) M).bind fun v129 => ((xq_pi 12 3 (a0) (v129) M).bind fun M131 => f194_10   f f (a0) (a1) (0) M131))
theorem k194 {d f : Nat}   {a0 : Nat} {a1 : Nat} {M : xj_M} {R : xj_M}  (h : f194  f a0 a1 M = some R) : xT (d + 1) 194 [xR_ a0, xR_ a1] M (xQv R) := by
  refine xT_m xr_194_e (X := (none, d + 0, none)) rfl (xa_1 (xR_cat _) (xa_1 (xR_cat _) xa_n)) (by decide) ?_
  unfold f194 at h
  refine xe_alr (ins := .aload_n 0) (len := 1) (i := 0) (by decide +kernel) rfl rfl rfl rfl rfl ?_
  refine xe_alr (ins := .aload_n 1) (len := 1) (i := 1) (by decide +kernel) rfl rfl rfl rfl rfl ?_
  obtain ⟨v129, e130, h⟩ := xbnd h
  refine xs_gi (i := 22) (c := 12) (k := 3) (by decide +kernel) (by decide) (by decide +kernel) e130 rfl ?_
  obtain ⟨M131, e132, h⟩ := xbnd h
  refine xs_p (i := 22) (c := 12) (k := 3) (by decide +kernel) (by decide +kernel) (by decide +kernel) e132 rfl ?_
  refine xe_iconst (n := 0) (by decide +kernel) rfl ?_
  refine xe_isr (ins := .istore_n 2) (len := 1) (i := 2) (by decide +kernel) rfl rfl rfl (by decide) (xk_k (show ¬ (0 : Nat) = 2 by decide) (Or.inl (show ¬ (0 + 1 : Nat) = 2 by decide)) (xk_k (show ¬ (1 : Nat) = 2 by decide) (Or.inr (xR_cat _)) xk_n)) rfl ?_
  refine xW_lv rfl (l := [(0, xR_ (a0)), (1, xR_ (a1)), (2, xI (0))]) (xsb_of ⟨rfl, rfl, rfl, trivial⟩ (show [2, 0, 1].Nodup by decide)) ?_
  exact k194_10   (show xin (0) by decide) h
-- ChangeHouseModel$Facts.compare
def xr_195 : xj_mR := (12, yX12_compare, cX12_compare, 11, (Option.some Jvm.ClassFile.FieldType.int), 8, false, (10, 40), (1, 19))
set_option maxRecDepth 20000 in
theorem xr_195_e : xj_row 195 = some xr_195 := rfl
def f195_19   (f : Nat) (y0 : Int) (M : xj_M) : Option (Int × xj_M) := (some (y0, M))
theorem k195_19 {d f : Nat}     {y0 : Int} {M : xj_M} {R : Int × xj_M} (hy0 : xin y0) (h : f195_19   f y0 M = some R) : xW (d + 0) (none, d + 0, none) xr_195 (19, [], [xI y0], M) (xQi R) := by
  unfold f195_19 at h
  cases h
  exact xe_ret_i (ty := .int) (by decide +kernel) rfl rfl ⟨rfl, rfl, hy0⟩
def f195_37   (f : Nat) (y0 : Int) (M : xj_M) : Option (Int × xj_M) := (some (y0, M))
theorem k195_37 {d f : Nat}     {y0 : Int} {M : xj_M} {R : Int × xj_M} (hy0 : xin y0) (h : f195_37   f y0 M = some R) : xW (d + 0) (none, d + 0, none) xr_195 (37, [], [xI y0], M) (xQi R) := by
  unfold f195_37 at h
  cases h
  exact xe_ret_i (ty := .int) (by decide +kernel) rfl rfl ⟨rfl, rfl, hy0⟩
def f195_90   (f : Nat) (y0 : Int) (M : xj_M) : Option (Int × xj_M) := (some (y0, M))
theorem k195_90 {d f : Nat}     {y0 : Int} {M : xj_M} {R : Int × xj_M} (hy0 : xin y0) (h : f195_90   f y0 M = some R) : xW (d + 0) (none, d + 0, none) xr_195 (90, [], [xI y0], M) (xQi R) := by
  unfold f195_90 at h
  cases h
  exact xe_ret_i (ty := .int) (by decide +kernel) rfl rfl ⟨rfl, rfl, hy0⟩
def f195_41b  (r41 : Int → Nat → Int → Nat → Int → Int → xj_M → Option (Int × xj_M)) (f : Nat) (x2 : Int) (x3 : Nat) (x4 : Int) (x8 : Nat) (x9 : Int) (x10 : Int) (M : xj_M) : Option (Int × xj_M) := (if (x2) ≤ (x10) then (some (0, M)) else ((xq_al (x3) (xwr ((x4) + (x10))) M).bind fun v102 => ((xq_al (x8) (xwr ((x9) + (x10))) M).bind fun v104 => (if (v102) = (v104) then r41 (x2) (x3) (x4) (x8) (x9) (xwr ((x10) + (1))) M else ((xq_al (x3) (xwr ((x4) + (x10))) M).bind fun v107 => ((xq_al (x8) (xwr ((x9) + (x10))) M).bind fun v109 => (if (v109) ≤ (v107) then f195_90   f (1) M else f195_90   f (-1) M)))))))
theorem k195_41b {d f : Nat}  {r41 : Int → Nat → Int → Nat → Int → Int → xj_M → Option (Int × xj_M)}  (hr41 : ∀ {x2 : Int} {x3 : Nat} {x4 : Int} {x8 : Nat} {x9 : Int} {x10 : Int} {M : xj_M} {R : Int × xj_M}, xin x2 → xin x4 → xin x9 → xin x10 → r41 x2 x3 x4 x8 x9 x10 M = some R → xW (d + 0) (none, d + 0, none) xr_195 (41, [(2, xI x2), (3, xR_ x3), (4, xI x4), (8, xR_ x8), (9, xI x9), (10, xI x10)], [], M) (xQi R)) {x2 : Int} {x3 : Nat} {x4 : Int} {x8 : Nat} {x9 : Int} {x10 : Int} {M : xj_M} {R : Int × xj_M} (hx2 : xin x2) (hx4 : xin x4) (hx9 : xin x9) (hx10 : xin x10) (h : f195_41b  r41 f x2 x3 x4 x8 x9 x10 M = some R) : xW (d + 0) (none, d + 0, none) xr_195 (41, [(2, xI x2), (3, xR_ x3), (4, xI x4), (8, xR_ x8), (9, xI x9), (10, xI x10)], [], M) (xQi R) := by
  unfold f195_41b at h
  refine xe_ldn (ins := .iload 10) (len := 2) (by decide +kernel) rfl rfl rfl rfl ?_
  refine xe_ldn (ins := .iload_n 2) (len := 1) (by decide +kernel) rfl rfl rfl rfl ?_
  refine xe_icmpge (off := 53) (t := 97) (by decide +kernel) (by decide) rfl hx10 hx2 (fun c101 => ?_) (fun c101 => ?_)
  · rw [if_pos c101] at h
    refine xe_iconst (n := 0) (by decide +kernel) rfl ?_
    cases h
    exact xe_ret_i (ty := .int) (by decide +kernel) rfl rfl ⟨rfl, rfl, (show xin (0) by decide)⟩
  · rw [if_neg c101] at h
    refine xe_alr (ins := .aload_n 3) (len := 1) (i := 3) (by decide +kernel) rfl rfl rfl rfl rfl ?_
    refine xe_ldn (ins := .iload 4) (len := 2) (by decide +kernel) rfl rfl rfl rfl ?_
    refine xe_ldn (ins := .iload 10) (len := 2) (by decide +kernel) rfl rfl rfl rfl ?_
    refine xe_iadd (by decide +kernel) rfl ?_
    obtain ⟨v102, e103, h⟩ := xbnd h
    refine xs_lald (by decide +kernel) (xin_wr _) e103 rfl ?_
    refine xe_alr (ins := .aload 8) (len := 2) (i := 8) (by decide +kernel) rfl rfl rfl rfl rfl ?_
    refine xe_ldn (ins := .iload 9) (len := 2) (by decide +kernel) rfl rfl rfl rfl ?_
    refine xe_ldn (ins := .iload 10) (len := 2) (by decide +kernel) rfl rfl rfl rfl ?_
    refine xe_iadd (by decide +kernel) rfl ?_
    obtain ⟨v104, e105, h⟩ := xbnd h
    refine xs_lald (by decide +kernel) (xin_wr _) e105 rfl ?_
    refine xe_lcmp (by decide +kernel) rfl (xq_al_in e103) (xq_al_in e105) ?_
    refine xe_ifeq (off := 28) (t := 91) (by decide +kernel) (by decide) rfl (xin_cmp8 _ _) (fun c106 => ?_) (fun c106 => ?_)
    · have c106 := xcmp8_eq.mp c106; rw [if_pos c106] at h
      refine xe_iincr (i := 10) (n := 1) (by decide +kernel) (by decide) rfl (xk_k (show ¬ (2 : Nat) = 10 by decide) (Or.inl (show ¬ (2 + 1 : Nat) = 10 by decide)) (xk_k (show ¬ (3 : Nat) = 10 by decide) (Or.inl (show ¬ (3 + 1 : Nat) = 10 by decide)) (xk_k (show ¬ (4 : Nat) = 10 by decide) (Or.inl (show ¬ (4 + 1 : Nat) = 10 by decide)) (xk_k (show ¬ (8 : Nat) = 10 by decide) (Or.inl (show ¬ (8 + 1 : Nat) = 10 by decide)) (xk_k (show ¬ (9 : Nat) = 10 by decide) (Or.inr (xI_cat _)) (xk_d rfl xk_n)))))) rfl ?_
      refine xe_goto (off := -53) (nx := 41) (by decide +kernel) (by decide) ?_
      refine xW_lv rfl (l := [(2, xI (x2)), (3, xR_ (x3)), (4, xI (x4)), (8, xR_ (x8)), (9, xI (x9)), (10, xI (xwr ((x10) + (1))))]) (xsb_of ⟨rfl, rfl, rfl, rfl, rfl, rfl, trivial⟩ (show [10, 2, 3, 4, 8, 9].Nodup by decide)) ?_
      exact hr41 hx2 hx4 hx9 (xin_wr _) h
    · have c106 := (not_congr xcmp8_eq).mp c106; rw [if_neg c106] at h
      refine xe_alr (ins := .aload_n 3) (len := 1) (i := 3) (by decide +kernel) rfl rfl rfl rfl rfl ?_
      refine xe_ldn (ins := .iload 4) (len := 2) (by decide +kernel) rfl rfl rfl rfl ?_
      refine xe_ldn (ins := .iload 10) (len := 2) (by decide +kernel) rfl rfl rfl rfl ?_
      refine xe_iadd (by decide +kernel) rfl ?_
      obtain ⟨v107, e108, h⟩ := xbnd h
      refine xs_lald (by decide +kernel) (xin_wr _) e108 rfl ?_
      refine xe_alr (ins := .aload 8) (len := 2) (i := 8) (by decide +kernel) rfl rfl rfl rfl rfl ?_
      refine xe_ldn (ins := .iload 9) (len := 2) (by decide +kernel) rfl rfl rfl rfl ?_
      refine xe_ldn (ins := .iload 10) (len := 2) (by decide +kernel) rfl rfl rfl rfl ?_
      refine xe_iadd (by decide +kernel) rfl ?_
      obtain ⟨v109, e110, h⟩ := xbnd h
      refine xs_lald (by decide +kernel) (xin_wr _) e110 rfl ?_
      refine xe_lcmp (by decide +kernel) rfl (xq_al_in e108) (xq_al_in e110) ?_
      refine xe_ifge (off := 7) (t := 89) (by decide +kernel) (by decide) rfl (xin_cmp8 _ _) (fun c111 => ?_) (fun c111 => ?_)
      · have c111 := xcmp8_ge.mp c111; rw [if_pos c111] at h
        refine xe_iconst (n := 1) (by decide +kernel) rfl ?_
        refine xW_lv rfl (l := []) (xsb_of trivial (show [2, 3, 4, 8, 9, 10].Nodup by decide)) ?_
        exact k195_90   (show xin (1) by decide) h
      · have c111 := (not_congr xcmp8_ge).mp c111; rw [if_neg c111] at h
        refine xe_iconst (n := -1) (by decide +kernel) rfl ?_
        refine xe_goto (off := 4) (nx := 90) (by decide +kernel) (by decide) ?_
        refine xW_lv rfl (l := []) (xsb_of trivial (show [2, 3, 4, 8, 9, 10].Nodup by decide)) ?_
        exact k195_90   (show xin (-1) by decide) h
def f195_41   (f : Nat) : Nat → Int → Nat → Int → Nat → Int → Int → xj_M → Option (Int × xj_M)
  | 0, _, _, _, _, _, _, _ => none
  | n + 1, x2, x3, x4, x8, x9, x10, M => f195_41b   (f195_41   f n) f x2 x3 x4 x8 x9 x10 M
theorem k195_41 {d f : Nat}     : ∀ {n : Nat} {x2 : Int} {x3 : Nat} {x4 : Int} {x8 : Nat} {x9 : Int} {x10 : Int} {M : xj_M} {R : Int × xj_M}, xin x2 → xin x4 → xin x9 → xin x10 → f195_41   f n x2 x3 x4 x8 x9 x10 M = some R → xW (d + 0) (none, d + 0, none) xr_195 (41, [(2, xI x2), (3, xR_ x3), (4, xI x4), (8, xR_ x8), (9, xI x9), (10, xI x10)], [], M) (xQi R) := by
  intro n
  induction n with
  | zero => intros; rename_i h; cases h
  | succ n ih => intros; rename_i h; exact k195_41b   ih (by assumption) (by assumption) (by assumption) (by assumption) h
def f195  (f : Nat) (a0 : Int) (a1 : Int) (a2 : Nat) (a3 : Int) (a4 : Int) (a5 : Int) (a6 : Nat) (a7 : Int) (M : xj_M) : Option (Int × xj_M) := (if (a0) = (a4) then (if (a1) = (a5) then f195_41   f f (a1) (a2) (a3) (a6) (a7) (0) M else (if (a5) ≤ (a1) then f195_37   f (1) M else f195_37   f (-1) M)) else (if (a4) ≤ (a0) then f195_19   f (1) M else f195_19   f (-1) M))
theorem k195 {d f : Nat}   {a0 : Int} {a1 : Int} {a2 : Nat} {a3 : Int} {a4 : Int} {a5 : Int} {a6 : Nat} {a7 : Int} {M : xj_M} {R : Int × xj_M} (ha0 : xiN a0) (ha1 : xin a1) (ha3 : xin a3) (ha4 : xiN a4) (ha5 : xin a5) (ha7 : xin a7) (h : f195  f a0 a1 a2 a3 a4 a5 a6 a7 M = some R) : xT (d + 1) 195 [xZ a0, xI a1, xR_ a2, xI a3, xZ a4, xI a5, xR_ a6, xI a7] M (xQi R) := by
  refine xT_m xr_195_e (X := (none, d + 0, none)) rfl (xa_2 (xZ_cat _) (xa_1 (xI_cat _) (xa_1 (xR_cat _) (xa_1 (xI_cat _) (xa_2 (xZ_cat _) (xa_1 (xI_cat _) (xa_1 (xR_cat _) (xa_1 (xI_cat _) xa_n)))))))) (by decide) ?_
  unfold f195 at h
  refine xe_ldn (ins := .lload_n 0) (len := 1) (by decide +kernel) rfl rfl rfl rfl ?_
  refine xe_ldn (ins := .lload 5) (len := 2) (by decide +kernel) rfl rfl rfl rfl ?_
  refine xe_lcmp (by decide +kernel) rfl ha0 ha4 ?_
  refine xe_ifeq (off := 16) (t := 20) (by decide +kernel) (by decide) rfl (xin_cmp8 _ _) (fun c112 => ?_) (fun c112 => ?_)
  · have c112 := xcmp8_eq.mp c112; rw [if_pos c112] at h
    refine xe_ldn (ins := .iload_n 2) (len := 1) (by decide +kernel) rfl rfl rfl rfl ?_
    refine xe_ldn (ins := .iload 7) (len := 2) (by decide +kernel) rfl rfl rfl rfl ?_
    refine xe_icmpeq (off := 15) (t := 38) (by decide +kernel) (by decide) rfl ha1 ha5 (fun c113 => ?_) (fun c113 => ?_)
    · rw [if_pos c113] at h
      refine xe_iconst (n := 0) (by decide +kernel) rfl ?_
      refine xe_isr (ins := .istore 10) (len := 2) (i := 10) (by decide +kernel) rfl rfl rfl (by decide) (xk_k (show ¬ (0 : Nat) = 10 by decide) (Or.inl (show ¬ (0 + 1 : Nat) = 10 by decide)) (xk_k (show ¬ (2 : Nat) = 10 by decide) (Or.inl (show ¬ (2 + 1 : Nat) = 10 by decide)) (xk_k (show ¬ (3 : Nat) = 10 by decide) (Or.inl (show ¬ (3 + 1 : Nat) = 10 by decide)) (xk_k (show ¬ (4 : Nat) = 10 by decide) (Or.inl (show ¬ (4 + 1 : Nat) = 10 by decide)) (xk_k (show ¬ (5 : Nat) = 10 by decide) (Or.inl (show ¬ (5 + 1 : Nat) = 10 by decide)) (xk_k (show ¬ (7 : Nat) = 10 by decide) (Or.inl (show ¬ (7 + 1 : Nat) = 10 by decide)) (xk_k (show ¬ (8 : Nat) = 10 by decide) (Or.inl (show ¬ (8 + 1 : Nat) = 10 by decide)) (xk_k (show ¬ (9 : Nat) = 10 by decide) (Or.inr (xI_cat _)) xk_n)))))))) rfl ?_
      refine xW_lv rfl (l := [(2, xI (a1)), (3, xR_ (a2)), (4, xI (a3)), (8, xR_ (a6)), (9, xI (a7)), (10, xI (0))]) (xsb_of ⟨rfl, rfl, rfl, rfl, rfl, rfl, trivial⟩ (show [10, 0, 2, 3, 4, 5, 7, 8, 9].Nodup by decide)) ?_
      exact k195_41   ha1 ha3 ha7 (show xin (0) by decide) h
    · rw [if_neg c113] at h
      refine xe_ldn (ins := .iload_n 2) (len := 1) (by decide +kernel) rfl rfl rfl rfl ?_
      refine xe_ldn (ins := .iload 7) (len := 2) (by decide +kernel) rfl rfl rfl rfl ?_
      refine xe_icmpge (off := 7) (t := 36) (by decide +kernel) (by decide) rfl ha1 ha5 (fun c114 => ?_) (fun c114 => ?_)
      · rw [if_pos c114] at h
        refine xe_iconst (n := 1) (by decide +kernel) rfl ?_
        refine xW_lv rfl (l := []) (xsb_of trivial (show [0, 2, 3, 4, 5, 7, 8, 9].Nodup by decide)) ?_
        exact k195_37   (show xin (1) by decide) h
      · rw [if_neg c114] at h
        refine xe_iconst (n := -1) (by decide +kernel) rfl ?_
        refine xe_goto (off := 4) (nx := 37) (by decide +kernel) (by decide) ?_
        refine xW_lv rfl (l := []) (xsb_of trivial (show [0, 2, 3, 4, 5, 7, 8, 9].Nodup by decide)) ?_
        exact k195_37   (show xin (-1) by decide) h
  · have c112 := (not_congr xcmp8_eq).mp c112; rw [if_neg c112] at h
    refine xe_ldn (ins := .lload_n 0) (len := 1) (by decide +kernel) rfl rfl rfl rfl ?_
    refine xe_ldn (ins := .lload 5) (len := 2) (by decide +kernel) rfl rfl rfl rfl ?_
    refine xe_lcmp (by decide +kernel) rfl ha0 ha4 ?_
    refine xe_ifge (off := 7) (t := 18) (by decide +kernel) (by decide) rfl (xin_cmp8 _ _) (fun c115 => ?_) (fun c115 => ?_)
    · have c115 := xcmp8_ge.mp c115; rw [if_pos c115] at h
      refine xe_iconst (n := 1) (by decide +kernel) rfl ?_
      refine xW_lv rfl (l := []) (xsb_of trivial (show [0, 2, 3, 4, 5, 7, 8, 9].Nodup by decide)) ?_
      exact k195_19   (show xin (1) by decide) h
    · have c115 := (not_congr xcmp8_ge).mp c115; rw [if_neg c115] at h
      refine xe_iconst (n := -1) (by decide +kernel) rfl ?_
      refine xe_goto (off := 4) (nx := 19) (by decide +kernel) (by decide) ?_
      refine xW_lv rfl (l := []) (xsb_of trivial (show [0, 2, 3, 4, 5, 7, 8, 9].Nodup by decide)) ?_
      exact k195_19   (show xin (-1) by decide) h
-- ChangeHouseModel$Facts.placeOf
def xr_196 : xj_mR := (12, yX12_placeOf, cX12_placeOf, 9, (Option.some Jvm.ClassFile.FieldType.int), 4, false, (10, 37), (1, 19))
set_option maxRecDepth 20000 in
theorem xr_196_e : xj_row 196 = some xr_196 := rfl
def f196_72  (r9 : Nat → Int → Int → Nat → Int → Int → Int → xj_M → Option (Int × xj_M)) (f : Nat) (x0 : Nat) (x1 : Int) (x3 : Int) (x4 : Nat) (x5 : Int) (x6 : Int) (x7 : Int) (M : xj_M) : Option (Int × xj_M) := r9 (x0) (x1) (x3) (x4) (x5) (x6) (x7) M
theorem k196_72 {d f : Nat}  {r9 : Nat → Int → Int → Nat → Int → Int → Int → xj_M → Option (Int × xj_M)}  (hr9 : ∀ {x0 : Nat} {x1 : Int} {x3 : Int} {x4 : Nat} {x5 : Int} {x6 : Int} {x7 : Int} {M : xj_M} {R : Int × xj_M}, xiN x1 → xin x3 → xin x5 → xin x6 → xin x7 → r9 x0 x1 x3 x4 x5 x6 x7 M = some R → xW (d + 1) (none, d + 1, none) xr_196 (9, [(0, xR_ x0), (1, xZ x1), (3, xI x3), (4, xR_ x4), (5, xI x5), (6, xI x6), (7, xI x7)], [], M) (xQi R)) {x0 : Nat} {x1 : Int} {x3 : Int} {x4 : Nat} {x5 : Int} {x6 : Int} {x7 : Int} {M : xj_M} {R : Int × xj_M} (hx1 : xiN x1) (hx3 : xin x3) (hx5 : xin x5) (hx6 : xin x6) (hx7 : xin x7) (h : f196_72  r9 f x0 x1 x3 x4 x5 x6 x7 M = some R) : xW (d + 1) (none, d + 1, none) xr_196 (72, [(0, xR_ x0), (1, xZ x1), (3, xI x3), (4, xR_ x4), (5, xI x5), (6, xI x6), (7, xI x7)], [], M) (xQi R) := by
  unfold f196_72 at h
  refine xe_goto (off := -63) (nx := 9) (by decide +kernel) (by decide) ?_
  refine xW_lv rfl (l := [(0, xR_ (x0)), (1, xZ (x1)), (3, xI (x3)), (4, xR_ (x4)), (5, xI (x5)), (6, xI (x6)), (7, xI (x7))]) (xsb_of ⟨rfl, rfl, rfl, rfl, rfl, rfl, rfl, trivial⟩ (show [0, 1, 3, 4, 5, 6, 7].Nodup by decide)) ?_
  exact hr9 hx1 hx3 hx5 hx6 hx7 h
def f196_9b  (r9 : Nat → Int → Int → Nat → Int → Int → Int → xj_M → Option (Int × xj_M)) (f : Nat) (x0 : Nat) (x1 : Int) (x3 : Int) (x4 : Nat) (x5 : Int) (x6 : Int) (x7 : Int) (M : xj_M) : Option (Int × xj_M) := (if (x7) ≤ (x6) then (some (x6, M)) else ((xq_gr 12 0 (x0) M).bind fun v102 => ((xq_al (v102) (xush (xwr ((x6) + (x7))) (1)) M).bind fun v104 => ((xq_gr 12 2 (x0) M).bind fun v106 => ((xq_ai 3 (v106) (xush (xwr ((x6) + (x7))) (1)) M).bind fun v108 => ((xq_gr 12 1 (x0) M).bind fun v110 => ((f195  f (v104) (v108) (v110) (xwr ((4) * (xush (xwr ((x6) + (x7))) (1)))) (x1) (x3) (x4) (x5) M).bind fun R113 => (if 0 ≤ (R113.1) then f196_72  r9 f (x0) (x1) (x3) (x4) (x5) (x6) (xush (xwr ((x6) + (x7))) (1)) R113.2 else f196_72  r9 f (x0) (x1) (x3) (x4) (x5) (xwr ((xush (xwr ((x6) + (x7))) (1)) + (1))) (x7) R113.2))))))))
theorem k196_9b {d f : Nat}  {r9 : Nat → Int → Int → Nat → Int → Int → Int → xj_M → Option (Int × xj_M)}  (hr9 : ∀ {x0 : Nat} {x1 : Int} {x3 : Int} {x4 : Nat} {x5 : Int} {x6 : Int} {x7 : Int} {M : xj_M} {R : Int × xj_M}, xiN x1 → xin x3 → xin x5 → xin x6 → xin x7 → r9 x0 x1 x3 x4 x5 x6 x7 M = some R → xW (d + 1) (none, d + 1, none) xr_196 (9, [(0, xR_ x0), (1, xZ x1), (3, xI x3), (4, xR_ x4), (5, xI x5), (6, xI x6), (7, xI x7)], [], M) (xQi R)) {x0 : Nat} {x1 : Int} {x3 : Int} {x4 : Nat} {x5 : Int} {x6 : Int} {x7 : Int} {M : xj_M} {R : Int × xj_M} (hx1 : xiN x1) (hx3 : xin x3) (hx5 : xin x5) (hx6 : xin x6) (hx7 : xin x7) (h : f196_9b  r9 f x0 x1 x3 x4 x5 x6 x7 M = some R) : xW (d + 1) (none, d + 1, none) xr_196 (9, [(0, xR_ x0), (1, xZ x1), (3, xI x3), (4, xR_ x4), (5, xI x5), (6, xI x6), (7, xI x7)], [], M) (xQi R) := by
  unfold f196_9b at h
  refine xe_ldn (ins := .iload 6) (len := 2) (by decide +kernel) rfl rfl rfl rfl ?_
  refine xe_ldn (ins := .iload 7) (len := 2) (by decide +kernel) rfl rfl rfl rfl ?_
  refine xe_icmpge (off := 62) (t := 75) (by decide +kernel) (by decide) rfl hx6 hx7 (fun c101 => ?_) (fun c101 => ?_)
  · rw [if_pos c101] at h
    refine xe_ldn (ins := .iload 6) (len := 2) (by decide +kernel) rfl rfl rfl rfl ?_
    cases h
    exact xe_ret_i (ty := .int) (by decide +kernel) rfl rfl ⟨rfl, rfl, hx6⟩
  · rw [if_neg c101] at h
    refine xe_ldn (ins := .iload 6) (len := 2) (by decide +kernel) rfl rfl rfl rfl ?_
    refine xe_ldn (ins := .iload 7) (len := 2) (by decide +kernel) rfl rfl rfl rfl ?_
    refine xe_iadd (by decide +kernel) rfl ?_
    refine xe_iconst (n := 1) (by decide +kernel) rfl ?_
    refine xe_iushr (by decide +kernel) rfl ?_
    refine xe_isr (ins := .istore 8) (len := 2) (i := 8) (by decide +kernel) rfl rfl rfl (by decide) (xk_k (show ¬ (0 : Nat) = 8 by decide) (Or.inl (show ¬ (0 + 1 : Nat) = 8 by decide)) (xk_k (show ¬ (1 : Nat) = 8 by decide) (Or.inl (show ¬ (1 + 1 : Nat) = 8 by decide)) (xk_k (show ¬ (3 : Nat) = 8 by decide) (Or.inl (show ¬ (3 + 1 : Nat) = 8 by decide)) (xk_k (show ¬ (4 : Nat) = 8 by decide) (Or.inl (show ¬ (4 + 1 : Nat) = 8 by decide)) (xk_k (show ¬ (5 : Nat) = 8 by decide) (Or.inl (show ¬ (5 + 1 : Nat) = 8 by decide)) (xk_k (show ¬ (6 : Nat) = 8 by decide) (Or.inl (show ¬ (6 + 1 : Nat) = 8 by decide)) (xk_k (show ¬ (7 : Nat) = 8 by decide) (Or.inr (xI_cat _)) xk_n))))))) rfl ?_
    refine xe_alr (ins := .aload_n 0) (len := 1) (i := 0) (by decide +kernel) rfl rfl rfl rfl rfl ?_
    obtain ⟨v102, e103, h⟩ := xbnd h
    refine xs_gr (i := 9) (c := 12) (k := 0) (by decide +kernel) (by decide) (by decide +kernel) e103 rfl ?_
    refine xe_ldn (ins := .iload 8) (len := 2) (by decide +kernel) rfl rfl rfl rfl ?_
    obtain ⟨v104, e105, h⟩ := xbnd h
    refine xs_lald (by decide +kernel) (xin_of _) e105 rfl ?_
    refine xe_alr (ins := .aload_n 0) (len := 1) (i := 0) (by decide +kernel) rfl rfl rfl rfl rfl ?_
    obtain ⟨v106, e107, h⟩ := xbnd h
    refine xs_gr (i := 18) (c := 12) (k := 2) (by decide +kernel) (by decide) (by decide +kernel) e107 rfl ?_
    refine xe_ldn (ins := .iload 8) (len := 2) (by decide +kernel) rfl rfl rfl rfl ?_
    obtain ⟨v108, e109, h⟩ := xbnd h
    refine xs_iald rfl (by decide +kernel) (xin_of _) e109 rfl ?_
    refine xe_alr (ins := .aload_n 0) (len := 1) (i := 0) (by decide +kernel) rfl rfl rfl rfl rfl ?_
    obtain ⟨v110, e111, h⟩ := xbnd h
    refine xs_gr (i := 15) (c := 12) (k := 1) (by decide +kernel) (by decide) (by decide +kernel) e111 rfl ?_
    refine xe_iconst (n := 4) (by decide +kernel) rfl ?_
    refine xe_ldn (ins := .iload 8) (len := 2) (by decide +kernel) rfl rfl rfl rfl ?_
    refine xe_imul (by decide +kernel) rfl ?_
    refine xe_ldn (ins := .lload_n 1) (len := 1) (by decide +kernel) rfl rfl rfl rfl ?_
    refine xe_ldn (ins := .iload_n 3) (len := 1) (by decide +kernel) rfl rfl rfl rfl ?_
    refine xe_alr (ins := .aload 4) (len := 2) (i := 4) (by decide +kernel) rfl rfl rfl rfl rfl ?_
    refine xe_ldn (ins := .iload 5) (len := 2) (by decide +kernel) rfl rfl rfl rfl ?_
    obtain ⟨R113, e112, h⟩ := xbnd h
    refine xs_cs (kd := 2) (by decide) (i := 26) (j := 195) (ar := [xI (x5), xR_ (x4), xI (x3), xZ (x1), xI (xwr ((4) * (xush (xwr ((x6) + (x7))) (1)))), xR_ (v110), xI (v108), xZ (v104)]) (rest := []) (r2 := xr_195) (by decide +kernel) (by decide +kernel) (by decide +kernel) xr_195_e rfl (by decide) ?_
    refine xc_i (k195 (d := d + 0)  (xq_al_in e105) (xq_ai_in e109) (xin_wr _) hx1 hx3 hx5 e112) rfl (fun hi114 => ?_)
    refine xe_ifge (off := 12) (t := 68) (by decide +kernel) (by decide) rfl hi114 (fun c115 => ?_) (fun c115 => ?_)
    · rw [if_pos c115] at h
      refine xe_ldn (ins := .iload 8) (len := 2) (by decide +kernel) rfl rfl rfl rfl ?_
      refine xe_isr (ins := .istore 7) (len := 2) (i := 7) (by decide +kernel) rfl rfl rfl (by decide) (xk_k (show ¬ (8 : Nat) = 7 by decide) (Or.inl (show ¬ (8 + 1 : Nat) = 7 by decide)) (xk_k (show ¬ (0 : Nat) = 7 by decide) (Or.inl (show ¬ (0 + 1 : Nat) = 7 by decide)) (xk_k (show ¬ (1 : Nat) = 7 by decide) (Or.inl (show ¬ (1 + 1 : Nat) = 7 by decide)) (xk_k (show ¬ (3 : Nat) = 7 by decide) (Or.inl (show ¬ (3 + 1 : Nat) = 7 by decide)) (xk_k (show ¬ (4 : Nat) = 7 by decide) (Or.inl (show ¬ (4 + 1 : Nat) = 7 by decide)) (xk_k (show ¬ (5 : Nat) = 7 by decide) (Or.inl (show ¬ (5 + 1 : Nat) = 7 by decide)) (xk_k (show ¬ (6 : Nat) = 7 by decide) (Or.inr (xI_cat _)) (xk_d rfl xk_n)))))))) rfl ?_
      refine xW_lv rfl (l := [(0, xR_ (x0)), (1, xZ (x1)), (3, xI (x3)), (4, xR_ (x4)), (5, xI (x5)), (6, xI (x6)), (7, xI (xush (xwr ((x6) + (x7))) (1)))]) (xsb_of ⟨rfl, rfl, rfl, rfl, rfl, rfl, rfl, trivial⟩ (show [7, 8, 0, 1, 3, 4, 5, 6].Nodup by decide)) ?_
      exact k196_72  hr9 hx1 hx3 hx5 hx6 (xin_of _) h
    · rw [if_neg c115] at h
      refine xe_ldn (ins := .iload 8) (len := 2) (by decide +kernel) rfl rfl rfl rfl ?_
      refine xe_iconst (n := 1) (by decide +kernel) rfl ?_
      refine xe_iadd (by decide +kernel) rfl ?_
      refine xe_isr (ins := .istore 6) (len := 2) (i := 6) (by decide +kernel) rfl rfl rfl (by decide) (xk_k (show ¬ (8 : Nat) = 6 by decide) (Or.inl (show ¬ (8 + 1 : Nat) = 6 by decide)) (xk_k (show ¬ (0 : Nat) = 6 by decide) (Or.inl (show ¬ (0 + 1 : Nat) = 6 by decide)) (xk_k (show ¬ (1 : Nat) = 6 by decide) (Or.inl (show ¬ (1 + 1 : Nat) = 6 by decide)) (xk_k (show ¬ (3 : Nat) = 6 by decide) (Or.inl (show ¬ (3 + 1 : Nat) = 6 by decide)) (xk_k (show ¬ (4 : Nat) = 6 by decide) (Or.inl (show ¬ (4 + 1 : Nat) = 6 by decide)) (xk_k (show ¬ (5 : Nat) = 6 by decide) (Or.inr (xI_cat _)) (xk_d rfl (xk_k (show ¬ (7 : Nat) = 6 by decide) (Or.inl (show ¬ (7 + 1 : Nat) = 6 by decide)) xk_n)))))))) rfl ?_
      refine xe_goto (off := 7) (nx := 72) (by decide +kernel) (by decide) ?_
      refine xW_lv rfl (l := [(0, xR_ (x0)), (1, xZ (x1)), (3, xI (x3)), (4, xR_ (x4)), (5, xI (x5)), (6, xI (xwr ((xush (xwr ((x6) + (x7))) (1)) + (1)))), (7, xI (x7))]) (xsb_of ⟨rfl, rfl, rfl, rfl, rfl, rfl, rfl, trivial⟩ (show [6, 8, 0, 1, 3, 4, 5, 7].Nodup by decide)) ?_
      exact k196_72  hr9 hx1 hx3 hx5 (xin_wr _) hx7 h
def f196_9   (f : Nat) : Nat → Nat → Int → Int → Nat → Int → Int → Int → xj_M → Option (Int × xj_M)
  | 0, _, _, _, _, _, _, _, _ => none
  | n + 1, x0, x1, x3, x4, x5, x6, x7, M => f196_9b   (f196_9   f n) f x0 x1 x3 x4 x5 x6 x7 M
theorem k196_9 {d f : Nat}     : ∀ {n : Nat} {x0 : Nat} {x1 : Int} {x3 : Int} {x4 : Nat} {x5 : Int} {x6 : Int} {x7 : Int} {M : xj_M} {R : Int × xj_M}, xiN x1 → xin x3 → xin x5 → xin x6 → xin x7 → f196_9   f n x0 x1 x3 x4 x5 x6 x7 M = some R → xW (d + 1) (none, d + 1, none) xr_196 (9, [(0, xR_ x0), (1, xZ x1), (3, xI x3), (4, xR_ x4), (5, xI x5), (6, xI x6), (7, xI x7)], [], M) (xQi R) := by
  intro n
  induction n with
  | zero => intros; rename_i h; cases h
  | succ n ih => intros; rename_i h; exact k196_9b   ih (by assumption) (by assumption) (by assumption) (by assumption) (by assumption) h
def f196  (f : Nat) (a0 : Nat) (a1 : Int) (a2 : Int) (a3 : Nat) (a4 : Int) (M : xj_M) : Option (Int × xj_M) := ((xq_gi 12 3 (a0) M).bind fun v116 => f196_9   f f (a0) (a1) (a2) (a3) (a4) (0) (v116) M)
theorem k196 {d f : Nat}   {a0 : Nat} {a1 : Int} {a2 : Int} {a3 : Nat} {a4 : Int} {M : xj_M} {R : Int × xj_M} (ha1 : xiN a1) (ha2 : xin a2) (ha4 : xin a4) (h : f196  f a0 a1 a2 a3 a4 M = some R) : xT (d + 2) 196 [xR_ a0, xZ a1, xI a2, xR_ a3, xI a4] M (xQi R) := by
  refine xT_m xr_196_e (X := (none, d + 1, none)) rfl (xa_1 (xR_cat _) (xa_2 (xZ_cat _) (xa_1 (xI_cat _) (xa_1 (xR_cat _) (xa_1 (xI_cat _) xa_n))))) (by decide) ?_
  unfold f196 at h
  refine xe_iconst (n := 0) (by decide +kernel) rfl ?_
  refine xe_isr (ins := .istore 6) (len := 2) (i := 6) (by decide +kernel) rfl rfl rfl (by decide) (xk_k (show ¬ (0 : Nat) = 6 by decide) (Or.inl (show ¬ (0 + 1 : Nat) = 6 by decide)) (xk_k (show ¬ (1 : Nat) = 6 by decide) (Or.inl (show ¬ (1 + 1 : Nat) = 6 by decide)) (xk_k (show ¬ (3 : Nat) = 6 by decide) (Or.inl (show ¬ (3 + 1 : Nat) = 6 by decide)) (xk_k (show ¬ (4 : Nat) = 6 by decide) (Or.inl (show ¬ (4 + 1 : Nat) = 6 by decide)) (xk_k (show ¬ (5 : Nat) = 6 by decide) (Or.inr (xI_cat _)) xk_n))))) rfl ?_
  refine xe_alr (ins := .aload_n 0) (len := 1) (i := 0) (by decide +kernel) rfl rfl rfl rfl rfl ?_
  obtain ⟨v116, e117, h⟩ := xbnd h
  refine xs_gi (i := 22) (c := 12) (k := 3) (by decide +kernel) (by decide) (by decide +kernel) e117 rfl ?_
  refine xe_isr (ins := .istore 7) (len := 2) (i := 7) (by decide +kernel) rfl rfl rfl (by decide) (xk_k (show ¬ (6 : Nat) = 7 by decide) (Or.inr (xI_cat _)) (xk_k (show ¬ (0 : Nat) = 7 by decide) (Or.inl (show ¬ (0 + 1 : Nat) = 7 by decide)) (xk_k (show ¬ (1 : Nat) = 7 by decide) (Or.inl (show ¬ (1 + 1 : Nat) = 7 by decide)) (xk_k (show ¬ (3 : Nat) = 7 by decide) (Or.inl (show ¬ (3 + 1 : Nat) = 7 by decide)) (xk_k (show ¬ (4 : Nat) = 7 by decide) (Or.inl (show ¬ (4 + 1 : Nat) = 7 by decide)) (xk_k (show ¬ (5 : Nat) = 7 by decide) (Or.inl (show ¬ (5 + 1 : Nat) = 7 by decide)) xk_n)))))) rfl ?_
  refine xW_lv rfl (l := [(0, xR_ (a0)), (1, xZ (a1)), (3, xI (a2)), (4, xR_ (a3)), (5, xI (a4)), (6, xI (0)), (7, xI (v116))]) (xsb_of ⟨rfl, rfl, rfl, rfl, rfl, rfl, rfl, trivial⟩ (show [7, 6, 0, 1, 3, 4, 5].Nodup by decide)) ?_
  exact k196_9   ha1 ha2 ha4 (show xin (0) by decide) (xq_gi_in e117) h
-- ChangeHouseModel$Facts.has
def xr_197 : xj_mR := (12, yX12_has, cX12_has, 7, (Option.some Jvm.ClassFile.FieldType.boolean), 4, false, (10, 56), (1, 19))
set_option maxRecDepth 20000 in
theorem xr_197_e : xj_row 197 = some xr_197 := rfl
def f197_60   (f : Nat) (y0 : Int) (M : xj_M) : Option (Int × xj_M) := (if (y0) = 0 ∨ (y0) = 1 then some (y0, M) else none)
theorem k197_60 {d f : Nat}     {y0 : Int} {M : xj_M} {R : Int × xj_M} (hy0 : xin y0) (h : f197_60   f y0 M = some R) : xW (d + 2) (none, d + 2, none) xr_197 (60, [], [xI y0], M) (xQi R) := by
  unfold f197_60 at h
  by_cases c101 : (y0) = 0 ∨ (y0) = 1
  · rw [if_pos c101] at h; cases h; exact xe_ret_i (ty := .boolean) (by decide +kernel) rfl (xbool c101) ⟨rfl, rfl, hy0⟩
  · rw [if_neg c101] at h; cases h
def f197_59   (f : Nat)  (M : xj_M) : Option (Int × xj_M) := f197_60   f (0) M
theorem k197_59 {d f : Nat}      {M : xj_M} {R : Int × xj_M}  (h : f197_59   f  M = some R) : xW (d + 2) (none, d + 2, none) xr_197 (59, [], [], M) (xQi R) := by
  unfold f197_59 at h
  refine xe_iconst (n := 0) (by decide +kernel) rfl ?_
  refine xW_lv rfl (l := []) (xsb_of trivial (show [].Nodup by decide)) ?_
  exact k197_60   (show xin (0) by decide) h
def f197  (f : Nat) (a0 : Nat) (a1 : Int) (a2 : Int) (a3 : Nat) (a4 : Int) (M : xj_M) : Option (Int × xj_M) := ((xq_is 12 (a0) M).bind fun _ => ((f196  f (a0) (a1) (a2) (a3) (a4) M).bind fun R104 => ((xq_gi 12 3 (a0) R104.2).bind fun v106 => (if (v106) ≤ (R104.1) then f197_59   f  R104.2 else ((xq_gr 12 0 (a0) R104.2).bind fun v109 => ((xq_al (v109) (R104.1) R104.2).bind fun v111 => ((xq_gr 12 2 (a0) R104.2).bind fun v113 => ((xq_ai 3 (v113) (R104.1) R104.2).bind fun v115 => ((xq_gr 12 1 (a0) R104.2).bind fun v117 => ((f195  f (v111) (v115) (v117) (xwr ((4) * (R104.1))) (a1) (a2) (a3) (a4) R104.2).bind fun R120 => (if ¬ (R120.1) = 0 then f197_59   f  R120.2 else f197_60   f (1) R120.2)))))))))))
theorem k197 {d f : Nat}   {a0 : Nat} {a1 : Int} {a2 : Int} {a3 : Nat} {a4 : Int} {M : xj_M} {R : Int × xj_M} (ha1 : xiN a1) (ha2 : xin a2) (ha4 : xin a4) (h : f197  f a0 a1 a2 a3 a4 M = some R) : xT (d + 3) 197 [xR_ a0, xZ a1, xI a2, xR_ a3, xI a4] M (xQi R) := by
  refine xT_m xr_197_e (X := (none, d + 2, none)) rfl (xa_1 (xR_cat _) (xa_2 (xZ_cat _) (xa_1 (xI_cat _) (xa_1 (xR_cat _) (xa_1 (xI_cat _) xa_n))))) (by decide) ?_
  unfold f197 at h
  refine xe_alr (ins := .aload_n 0) (len := 1) (i := 0) (by decide +kernel) rfl rfl rfl rfl rfl ?_
  refine xe_ldn (ins := .lload_n 1) (len := 1) (by decide +kernel) rfl rfl rfl rfl ?_
  refine xe_ldn (ins := .iload_n 3) (len := 1) (by decide +kernel) rfl rfl rfl rfl ?_
  refine xe_alr (ins := .aload 4) (len := 2) (i := 4) (by decide +kernel) rfl rfl rfl rfl rfl ?_
  refine xe_ldn (ins := .iload 5) (len := 2) (by decide +kernel) rfl rfl rfl rfl ?_
  obtain ⟨_, e103, h⟩ := xbnd h
  obtain ⟨R104, e102, h⟩ := xbnd h
  refine xs_cv (i := 30) (j := 196) (ar := [xI (a4), xR_ (a3), xI (a2), xZ (a1)]) (rest := []) (r2 := xr_196) (by decide +kernel) (by decide +kernel) (by decide +kernel) xr_196_e rfl (by decide) (by decide) e103 ?_
  refine xc_i (k196 (d := d + 0)  ha1 ha2 ha4 e102) rfl (fun hi105 => ?_)
  refine xe_isr (ins := .istore 6) (len := 2) (i := 6) (by decide +kernel) rfl rfl rfl (by decide) (xk_k (show ¬ (0 : Nat) = 6 by decide) (Or.inl (show ¬ (0 + 1 : Nat) = 6 by decide)) (xk_k (show ¬ (1 : Nat) = 6 by decide) (Or.inl (show ¬ (1 + 1 : Nat) = 6 by decide)) (xk_k (show ¬ (3 : Nat) = 6 by decide) (Or.inl (show ¬ (3 + 1 : Nat) = 6 by decide)) (xk_k (show ¬ (4 : Nat) = 6 by decide) (Or.inl (show ¬ (4 + 1 : Nat) = 6 by decide)) (xk_k (show ¬ (5 : Nat) = 6 by decide) (Or.inr (xI_cat _)) xk_n))))) rfl ?_
  refine xe_ldn (ins := .iload 6) (len := 2) (by decide +kernel) rfl rfl rfl rfl ?_
  refine xe_alr (ins := .aload_n 0) (len := 1) (i := 0) (by decide +kernel) rfl rfl rfl rfl rfl ?_
  obtain ⟨v106, e107, h⟩ := xbnd h
  refine xs_gi (i := 22) (c := 12) (k := 3) (by decide +kernel) (by decide) (by decide +kernel) e107 rfl ?_
  refine xe_icmpge (off := 41) (t := 59) (by decide +kernel) (by decide) rfl hi105 (xq_gi_in e107) (fun c108 => ?_) (fun c108 => ?_)
  · rw [if_pos c108] at h
    refine xW_lv rfl (l := []) (xsb_of trivial (show [6, 0, 1, 3, 4, 5].Nodup by decide)) ?_
    exact k197_59    h
  · rw [if_neg c108] at h
    refine xe_alr (ins := .aload_n 0) (len := 1) (i := 0) (by decide +kernel) rfl rfl rfl rfl rfl ?_
    obtain ⟨v109, e110, h⟩ := xbnd h
    refine xs_gr (i := 9) (c := 12) (k := 0) (by decide +kernel) (by decide) (by decide +kernel) e110 rfl ?_
    refine xe_ldn (ins := .iload 6) (len := 2) (by decide +kernel) rfl rfl rfl rfl ?_
    obtain ⟨v111, e112, h⟩ := xbnd h
    refine xs_lald (by decide +kernel) hi105 e112 rfl ?_
    refine xe_alr (ins := .aload_n 0) (len := 1) (i := 0) (by decide +kernel) rfl rfl rfl rfl rfl ?_
    obtain ⟨v113, e114, h⟩ := xbnd h
    refine xs_gr (i := 18) (c := 12) (k := 2) (by decide +kernel) (by decide) (by decide +kernel) e114 rfl ?_
    refine xe_ldn (ins := .iload 6) (len := 2) (by decide +kernel) rfl rfl rfl rfl ?_
    obtain ⟨v115, e116, h⟩ := xbnd h
    refine xs_iald rfl (by decide +kernel) hi105 e116 rfl ?_
    refine xe_alr (ins := .aload_n 0) (len := 1) (i := 0) (by decide +kernel) rfl rfl rfl rfl rfl ?_
    obtain ⟨v117, e118, h⟩ := xbnd h
    refine xs_gr (i := 15) (c := 12) (k := 1) (by decide +kernel) (by decide) (by decide +kernel) e118 rfl ?_
    refine xe_iconst (n := 4) (by decide +kernel) rfl ?_
    refine xe_ldn (ins := .iload 6) (len := 2) (by decide +kernel) rfl rfl rfl rfl ?_
    refine xe_imul (by decide +kernel) rfl ?_
    refine xe_ldn (ins := .lload_n 1) (len := 1) (by decide +kernel) rfl rfl rfl rfl ?_
    refine xe_ldn (ins := .iload_n 3) (len := 1) (by decide +kernel) rfl rfl rfl rfl ?_
    refine xe_alr (ins := .aload 4) (len := 2) (i := 4) (by decide +kernel) rfl rfl rfl rfl rfl ?_
    refine xe_ldn (ins := .iload 5) (len := 2) (by decide +kernel) rfl rfl rfl rfl ?_
    obtain ⟨R120, e119, h⟩ := xbnd h
    refine xs_cs (kd := 2) (by decide) (i := 26) (j := 195) (ar := [xI (a4), xR_ (a3), xI (a2), xZ (a1), xI (xwr ((4) * (R104.1))), xR_ (v117), xI (v115), xZ (v111)]) (rest := []) (r2 := xr_195) (by decide +kernel) (by decide +kernel) (by decide +kernel) xr_195_e rfl (by decide) ?_
    refine xc_i (k195 (d := d + 1)  (xq_al_in e112) (xq_ai_in e116) (xin_wr _) ha1 ha2 ha4 e119) rfl (fun hi121 => ?_)
    refine xe_ifne (off := 7) (t := 59) (by decide +kernel) (by decide) rfl hi121 (fun c122 => ?_) (fun c122 => ?_)
    · rw [if_pos c122] at h
      refine xW_lv rfl (l := []) (xsb_of trivial (show [6, 0, 1, 3, 4, 5].Nodup by decide)) ?_
      exact k197_59    h
    · rw [if_neg c122] at h
      refine xe_iconst (n := 1) (by decide +kernel) rfl ?_
      refine xe_goto (off := 4) (nx := 60) (by decide +kernel) (by decide) ?_
      refine xW_lv rfl (l := []) (xsb_of trivial (show [6, 0, 1, 3, 4, 5].Nodup by decide)) ?_
      exact k197_60   (show xin (1) by decide) h
-- ChangeHouseModel$Facts.move
def xr_200 : xj_mR := (12, yX12_move, cX12_move, 4, (Option.none : Option Jvm.ClassFile.FieldType), 2, false, (10, 44), (1, 19))
set_option maxRecDepth 20000 in
theorem xr_200_e : xj_row 200 = some xr_200 := rfl
def f200_26b  (r26 : Nat → Int → Int → Int → xj_M → Option (xj_M)) (f : Nat) (x0 : Nat) (x1 : Int) (x2 : Int) (x3 : Int) (M : xj_M) : Option (xj_M) := (if (4) ≤ (x3) then (some M) else ((xq_gr 12 1 (x0) M).bind fun v102 => ((xq_gr 12 1 (x0) M).bind fun v104 => ((xq_al (v104) (xwr ((xwr ((4) * (x1))) + (x3))) M).bind fun v106 => ((xq_sl (v102) (xwr ((xwr ((4) * (x2))) + (x3))) (v106) M).bind fun M108 => r26 (x0) (x1) (x2) (xwr ((x3) + (1))) M108)))))
theorem k200_26b {d f : Nat}  {r26 : Nat → Int → Int → Int → xj_M → Option (xj_M)}  (hr26 : ∀ {x0 : Nat} {x1 : Int} {x2 : Int} {x3 : Int} {M : xj_M} {R : xj_M}, xin x1 → xin x2 → xin x3 → r26 x0 x1 x2 x3 M = some R → xW (d + 0) (none, d + 0, none) xr_200 (26, [(0, xR_ x0), (1, xI x1), (2, xI x2), (3, xI x3)], [], M) (xQv R)) {x0 : Nat} {x1 : Int} {x2 : Int} {x3 : Int} {M : xj_M} {R : xj_M} (hx1 : xin x1) (hx2 : xin x2) (hx3 : xin x3) (h : f200_26b  r26 f x0 x1 x2 x3 M = some R) : xW (d + 0) (none, d + 0, none) xr_200 (26, [(0, xR_ x0), (1, xI x1), (2, xI x2), (3, xI x3)], [], M) (xQv R) := by
  unfold f200_26b at h
  refine xe_ldn (ins := .iload_n 3) (len := 1) (by decide +kernel) rfl rfl rfl rfl ?_
  refine xe_iconst (n := 4) (by decide +kernel) rfl ?_
  refine xe_icmpge (off := 29) (t := 57) (by decide +kernel) (by decide) rfl hx3 (show xin (4) by decide) (fun c101 => ?_) (fun c101 => ?_)
  · rw [if_pos c101] at h
    cases h
    exact xe_ret_v (by decide +kernel) rfl ⟨rfl, rfl⟩
  · rw [if_neg c101] at h
    refine xe_alr (ins := .aload_n 0) (len := 1) (i := 0) (by decide +kernel) rfl rfl rfl rfl rfl ?_
    obtain ⟨v102, e103, h⟩ := xbnd h
    refine xs_gr (i := 15) (c := 12) (k := 1) (by decide +kernel) (by decide) (by decide +kernel) e103 rfl ?_
    refine xe_iconst (n := 4) (by decide +kernel) rfl ?_
    refine xe_ldn (ins := .iload_n 2) (len := 1) (by decide +kernel) rfl rfl rfl rfl ?_
    refine xe_imul (by decide +kernel) rfl ?_
    refine xe_ldn (ins := .iload_n 3) (len := 1) (by decide +kernel) rfl rfl rfl rfl ?_
    refine xe_iadd (by decide +kernel) rfl ?_
    refine xe_alr (ins := .aload_n 0) (len := 1) (i := 0) (by decide +kernel) rfl rfl rfl rfl rfl ?_
    obtain ⟨v104, e105, h⟩ := xbnd h
    refine xs_gr (i := 15) (c := 12) (k := 1) (by decide +kernel) (by decide) (by decide +kernel) e105 rfl ?_
    refine xe_iconst (n := 4) (by decide +kernel) rfl ?_
    refine xe_ldn (ins := .iload_n 1) (len := 1) (by decide +kernel) rfl rfl rfl rfl ?_
    refine xe_imul (by decide +kernel) rfl ?_
    refine xe_ldn (ins := .iload_n 3) (len := 1) (by decide +kernel) rfl rfl rfl rfl ?_
    refine xe_iadd (by decide +kernel) rfl ?_
    obtain ⟨v106, e107, h⟩ := xbnd h
    refine xs_lald (by decide +kernel) (xin_wr _) e107 rfl ?_
    obtain ⟨M108, e109, h⟩ := xbnd h
    refine xs_last (by decide +kernel) (xin_wr _) e109 rfl ?_
    refine xe_iincr (i := 3) (n := 1) (by decide +kernel) (by decide) rfl (xk_k (show ¬ (0 : Nat) = 3 by decide) (Or.inl (show ¬ (0 + 1 : Nat) = 3 by decide)) (xk_k (show ¬ (1 : Nat) = 3 by decide) (Or.inl (show ¬ (1 + 1 : Nat) = 3 by decide)) (xk_k (show ¬ (2 : Nat) = 3 by decide) (Or.inr (xI_cat _)) (xk_d rfl xk_n)))) rfl ?_
    refine xe_goto (off := -28) (nx := 26) (by decide +kernel) (by decide) ?_
    refine xW_lv rfl (l := [(0, xR_ (x0)), (1, xI (x1)), (2, xI (x2)), (3, xI (xwr ((x3) + (1))))]) (xsb_of ⟨rfl, rfl, rfl, rfl, trivial⟩ (show [3, 0, 1, 2].Nodup by decide)) ?_
    exact hr26 hx1 hx2 (xin_wr _) h
def f200_26   (f : Nat) : Nat → Nat → Int → Int → Int → xj_M → Option (xj_M)
  | 0, _, _, _, _, _ => none
  | n + 1, x0, x1, x2, x3, M => f200_26b   (f200_26   f n) f x0 x1 x2 x3 M
theorem k200_26 {d f : Nat}     : ∀ {n : Nat} {x0 : Nat} {x1 : Int} {x2 : Int} {x3 : Int} {M : xj_M} {R : xj_M}, xin x1 → xin x2 → xin x3 → f200_26   f n x0 x1 x2 x3 M = some R → xW (d + 0) (none, d + 0, none) xr_200 (26, [(0, xR_ x0), (1, xI x1), (2, xI x2), (3, xI x3)], [], M) (xQv R) := by
  intro n
  induction n with
  | zero => intros; rename_i h; cases h
  | succ n ih => intros; rename_i h; exact k200_26b   ih (by assumption) (by assumption) (by assumption) h
def f200  (f : Nat) (a0 : Nat) (a1 : Int) (a2 : Int) (M : xj_M) : Option (xj_M) := ((xq_gr 12 0 (a0) M).bind fun v110 => ((xq_gr 12 0 (a0) M).bind fun v112 => ((xq_al (v112) (a1) M).bind fun v114 => ((xq_sl (v110) (a2) (v114) M).bind fun M116 => ((xq_gr 12 2 (a0) M116).bind fun v118 => ((xq_gr 12 2 (a0) M116).bind fun v120 => ((xq_ai 3 (v120) (a1) M116).bind fun v122 => ((xq_si (v118) (a2) (v122) M116).bind fun M124 => f200_26   f f (a0) (a1) (a2) (0) M124))))))))
theorem k200 {d f : Nat}   {a0 : Nat} {a1 : Int} {a2 : Int} {M : xj_M} {R : xj_M} (ha1 : xin a1) (ha2 : xin a2) (h : f200  f a0 a1 a2 M = some R) : xT (d + 1) 200 [xR_ a0, xI a1, xI a2] M (xQv R) := by
  refine xT_m xr_200_e (X := (none, d + 0, none)) rfl (xa_1 (xR_cat _) (xa_1 (xI_cat _) (xa_1 (xI_cat _) xa_n))) (by decide) ?_
  unfold f200 at h
  refine xe_alr (ins := .aload_n 0) (len := 1) (i := 0) (by decide +kernel) rfl rfl rfl rfl rfl ?_
  obtain ⟨v110, e111, h⟩ := xbnd h
  refine xs_gr (i := 9) (c := 12) (k := 0) (by decide +kernel) (by decide) (by decide +kernel) e111 rfl ?_
  refine xe_ldn (ins := .iload_n 2) (len := 1) (by decide +kernel) rfl rfl rfl rfl ?_
  refine xe_alr (ins := .aload_n 0) (len := 1) (i := 0) (by decide +kernel) rfl rfl rfl rfl rfl ?_
  obtain ⟨v112, e113, h⟩ := xbnd h
  refine xs_gr (i := 9) (c := 12) (k := 0) (by decide +kernel) (by decide) (by decide +kernel) e113 rfl ?_
  refine xe_ldn (ins := .iload_n 1) (len := 1) (by decide +kernel) rfl rfl rfl rfl ?_
  obtain ⟨v114, e115, h⟩ := xbnd h
  refine xs_lald (by decide +kernel) ha1 e115 rfl ?_
  obtain ⟨M116, e117, h⟩ := xbnd h
  refine xs_last (by decide +kernel) ha2 e117 rfl ?_
  refine xe_alr (ins := .aload_n 0) (len := 1) (i := 0) (by decide +kernel) rfl rfl rfl rfl rfl ?_
  obtain ⟨v118, e119, h⟩ := xbnd h
  refine xs_gr (i := 18) (c := 12) (k := 2) (by decide +kernel) (by decide) (by decide +kernel) e119 rfl ?_
  refine xe_ldn (ins := .iload_n 2) (len := 1) (by decide +kernel) rfl rfl rfl rfl ?_
  refine xe_alr (ins := .aload_n 0) (len := 1) (i := 0) (by decide +kernel) rfl rfl rfl rfl rfl ?_
  obtain ⟨v120, e121, h⟩ := xbnd h
  refine xs_gr (i := 18) (c := 12) (k := 2) (by decide +kernel) (by decide) (by decide +kernel) e121 rfl ?_
  refine xe_ldn (ins := .iload_n 1) (len := 1) (by decide +kernel) rfl rfl rfl rfl ?_
  obtain ⟨v122, e123, h⟩ := xbnd h
  refine xs_iald rfl (by decide +kernel) ha1 e123 rfl ?_
  obtain ⟨M124, e125, h⟩ := xbnd h
  refine xs_iast (by decide +kernel) ha2 e125 rfl ?_
  refine xe_iconst (n := 0) (by decide +kernel) rfl ?_
  refine xe_isr (ins := .istore_n 3) (len := 1) (i := 3) (by decide +kernel) rfl rfl rfl (by decide) (xk_k (show ¬ (0 : Nat) = 3 by decide) (Or.inl (show ¬ (0 + 1 : Nat) = 3 by decide)) (xk_k (show ¬ (1 : Nat) = 3 by decide) (Or.inl (show ¬ (1 + 1 : Nat) = 3 by decide)) (xk_k (show ¬ (2 : Nat) = 3 by decide) (Or.inr (xI_cat _)) xk_n))) rfl ?_
  refine xW_lv rfl (l := [(0, xR_ (a0)), (1, xI (a1)), (2, xI (a2)), (3, xI (0))]) (xsb_of ⟨rfl, rfl, rfl, rfl, trivial⟩ (show [3, 0, 1, 2].Nodup by decide)) ?_
  exact k200_26   ha1 ha2 (show xin (0) by decide) h
-- ChangeHouseModel$Line.forget
def xr_202 : xj_mR := (13, yX13_forget, cX13_forget, 2, (Option.none : Option Jvm.ClassFile.FieldType), 0, false, (10, 24), (1, 18))
set_option maxRecDepth 20000 in
theorem xr_202_e : xj_row 202 = some xr_202 := rfl
def f202_12b  (r12 : Nat → Int → xj_M → Option (xj_M)) (f : Nat) (x0 : Nat) (x1 : Int) (M : xj_M) : Option (xj_M) := (if (72) ≤ (x1) then (some M) else ((xq_gr 13 30 (x0) M).bind fun v102 => ((xq_si (v102) (x1) (-1) M).bind fun M104 => r12 (x0) (xwr ((x1) + (1))) M104)))
theorem k202_12b {d f : Nat}  {r12 : Nat → Int → xj_M → Option (xj_M)}  (hr12 : ∀ {x0 : Nat} {x1 : Int} {M : xj_M} {R : xj_M}, xin x1 → r12 x0 x1 M = some R → xW (d + 0) (none, d + 0, none) xr_202 (12, [(0, xR_ x0), (1, xI x1)], [], M) (xQv R)) {x0 : Nat} {x1 : Int} {M : xj_M} {R : xj_M} (hx1 : xin x1) (h : f202_12b  r12 f x0 x1 M = some R) : xW (d + 0) (none, d + 0, none) xr_202 (12, [(0, xR_ x0), (1, xI x1)], [], M) (xQv R) := by
  unfold f202_12b at h
  refine xe_ldn (ins := .iload_n 1) (len := 1) (by decide +kernel) rfl rfl rfl rfl ?_
  refine xe_bipush (n := 72) (by decide +kernel) (by decide) rfl ?_
  refine xe_icmpge (off := 16) (t := 31) (by decide +kernel) (by decide) rfl hx1 (show xin (72) by decide) (fun c101 => ?_) (fun c101 => ?_)
  · rw [if_pos c101] at h
    cases h
    exact xe_ret_v (by decide +kernel) rfl ⟨rfl, rfl⟩
  · rw [if_neg c101] at h
    refine xe_alr (ins := .aload_n 0) (len := 1) (i := 0) (by decide +kernel) rfl rfl rfl rfl rfl ?_
    obtain ⟨v102, e103, h⟩ := xbnd h
    refine xs_gr (i := 84) (c := 13) (k := 30) (by decide +kernel) (by decide) (by decide +kernel) e103 rfl ?_
    refine xe_ldn (ins := .iload_n 1) (len := 1) (by decide +kernel) rfl rfl rfl rfl ?_
    refine xe_iconst (n := -1) (by decide +kernel) rfl ?_
    obtain ⟨M104, e105, h⟩ := xbnd h
    refine xs_iast (by decide +kernel) hx1 e105 rfl ?_
    refine xe_iincr (i := 1) (n := 1) (by decide +kernel) (by decide) rfl (xk_k (show ¬ (0 : Nat) = 1 by decide) (Or.inr (xR_cat _)) (xk_d rfl xk_n)) rfl ?_
    refine xe_goto (off := -16) (nx := 12) (by decide +kernel) (by decide) ?_
    refine xW_lv rfl (l := [(0, xR_ (x0)), (1, xI (xwr ((x1) + (1))))]) (xsb_of ⟨rfl, rfl, trivial⟩ (show [1, 0].Nodup by decide)) ?_
    exact hr12 (xin_wr _) h
def f202_12   (f : Nat) : Nat → Nat → Int → xj_M → Option (xj_M)
  | 0, _, _, _ => none
  | n + 1, x0, x1, M => f202_12b   (f202_12   f n) f x0 x1 M
theorem k202_12 {d f : Nat}     : ∀ {n : Nat} {x0 : Nat} {x1 : Int} {M : xj_M} {R : xj_M}, xin x1 → f202_12   f n x0 x1 M = some R → xW (d + 0) (none, d + 0, none) xr_202 (12, [(0, xR_ x0), (1, xI x1)], [], M) (xQv R) := by
  intro n
  induction n with
  | zero => intros; rename_i h; cases h
  | succ n ih => intros; rename_i h; exact k202_12b   ih (by assumption) h
def f202  (f : Nat) (a0 : Nat) (M : xj_M) : Option (xj_M) := ((xq_pi 13 33 (a0) (0) M).bind fun M106 => ((xq_pi 13 34 (a0) (-1) M106).bind fun M108 => f202_12   f f (a0) (0) M108))
theorem k202 {d f : Nat}   {a0 : Nat} {M : xj_M} {R : xj_M}  (h : f202  f a0 M = some R) : xT (d + 1) 202 [xR_ a0] M (xQv R) := by
  refine xT_m xr_202_e (X := (none, d + 0, none)) rfl (xa_1 (xR_cat _) xa_n) (by decide) ?_
  unfold f202 at h
  refine xe_alr (ins := .aload_n 0) (len := 1) (i := 0) (by decide +kernel) rfl rfl rfl rfl rfl ?_
  refine xe_iconst (n := 0) (by decide +kernel) rfl ?_
  obtain ⟨M106, e107, h⟩ := xbnd h
  refine xs_p (i := 103) (c := 13) (k := 33) (by decide +kernel) (by decide +kernel) (by decide +kernel) e107 rfl ?_
  refine xe_alr (ins := .aload_n 0) (len := 1) (i := 0) (by decide +kernel) rfl rfl rfl rfl rfl ?_
  refine xe_iconst (n := -1) (by decide +kernel) rfl ?_
  obtain ⟨M108, e109, h⟩ := xbnd h
  refine xs_p (i := 93) (c := 13) (k := 34) (by decide +kernel) (by decide +kernel) (by decide +kernel) e109 rfl ?_
  refine xe_iconst (n := 0) (by decide +kernel) rfl ?_
  refine xe_isr (ins := .istore_n 1) (len := 1) (i := 1) (by decide +kernel) rfl rfl rfl (by decide) (xk_k (show ¬ (0 : Nat) = 1 by decide) (Or.inr (xR_cat _)) xk_n) rfl ?_
  refine xW_lv rfl (l := [(0, xR_ (a0)), (1, xI (0))]) (xsb_of ⟨rfl, rfl, trivial⟩ (show [1, 0].Nodup by decide)) ?_
  exact k202_12   (show xin (0) by decide) h
-- ChangeHouseModel$Line.forgetRound
def xr_203 : xj_mR := (13, yX13_forgetRound, cX13_forgetRound, 2, (Option.none : Option Jvm.ClassFile.FieldType), 0, false, (10, 48), (1, 18))
set_option maxRecDepth 20000 in
theorem xr_203_e : xj_row 203 = some xr_203 := rfl
def f203_7b  (r7 : Nat → Int → xj_M → Option (xj_M)) (f : Nat) (x0 : Nat) (x1 : Int) (M : xj_M) : Option (xj_M) := (if (16) ≤ (x1) then (some M) else ((xq_gr 13 22 (x0) M).bind fun v102 => ((xq_si (v102) (x1) (0) M).bind fun M104 => r7 (x0) (xwr ((x1) + (1))) M104)))
theorem k203_7b {d f : Nat}  {r7 : Nat → Int → xj_M → Option (xj_M)}  (hr7 : ∀ {x0 : Nat} {x1 : Int} {M : xj_M} {R : xj_M}, xin x1 → r7 x0 x1 M = some R → xW (d + 0) (none, d + 0, none) xr_203 (7, [(0, xR_ x0), (1, xI x1)], [], M) (xQv R)) {x0 : Nat} {x1 : Int} {M : xj_M} {R : xj_M} (hx1 : xin x1) (h : f203_7b  r7 f x0 x1 M = some R) : xW (d + 0) (none, d + 0, none) xr_203 (7, [(0, xR_ x0), (1, xI x1)], [], M) (xQv R) := by
  unfold f203_7b at h
  refine xe_ldn (ins := .iload_n 1) (len := 1) (by decide +kernel) rfl rfl rfl rfl ?_
  refine xe_bipush (n := 16) (by decide +kernel) (by decide) rfl ?_
  refine xe_icmpge (off := 16) (t := 26) (by decide +kernel) (by decide) rfl hx1 (show xin (16) by decide) (fun c101 => ?_) (fun c101 => ?_)
  · rw [if_pos c101] at h
    cases h
    exact xe_ret_v (by decide +kernel) rfl ⟨rfl, rfl⟩
  · rw [if_neg c101] at h
    refine xe_alr (ins := .aload_n 0) (len := 1) (i := 0) (by decide +kernel) rfl rfl rfl rfl rfl ?_
    obtain ⟨v102, e103, h⟩ := xbnd h
    refine xs_gr (i := 63) (c := 13) (k := 22) (by decide +kernel) (by decide) (by decide +kernel) e103 rfl ?_
    refine xe_ldn (ins := .iload_n 1) (len := 1) (by decide +kernel) rfl rfl rfl rfl ?_
    refine xe_iconst (n := 0) (by decide +kernel) rfl ?_
    obtain ⟨M104, e105, h⟩ := xbnd h
    refine xs_iast (by decide +kernel) hx1 e105 rfl ?_
    refine xe_iincr (i := 1) (n := 1) (by decide +kernel) (by decide) rfl (xk_k (show ¬ (0 : Nat) = 1 by decide) (Or.inr (xR_cat _)) (xk_d rfl xk_n)) rfl ?_
    refine xe_goto (off := -16) (nx := 7) (by decide +kernel) (by decide) ?_
    refine xW_lv rfl (l := [(0, xR_ (x0)), (1, xI (xwr ((x1) + (1))))]) (xsb_of ⟨rfl, rfl, trivial⟩ (show [1, 0].Nodup by decide)) ?_
    exact hr7 (xin_wr _) h
def f203_7   (f : Nat) : Nat → Nat → Int → xj_M → Option (xj_M)
  | 0, _, _, _ => none
  | n + 1, x0, x1, M => f203_7b   (f203_7   f n) f x0 x1 M
theorem k203_7 {d f : Nat}     : ∀ {n : Nat} {x0 : Nat} {x1 : Int} {M : xj_M} {R : xj_M}, xin x1 → f203_7   f n x0 x1 M = some R → xW (d + 0) (none, d + 0, none) xr_203 (7, [(0, xR_ x0), (1, xI x1)], [], M) (xQv R) := by
  intro n
  induction n with
  | zero => intros; rename_i h; cases h
  | succ n ih => intros; rename_i h; exact k203_7b   ih (by assumption) h
def f203  (f : Nat) (a0 : Nat) (M : xj_M) : Option (xj_M) := ((xq_pi 13 27 (a0) (0) M).bind fun M106 => f203_7   f f (a0) (0) M106)
theorem k203 {d f : Nat}   {a0 : Nat} {M : xj_M} {R : xj_M}  (h : f203  f a0 M = some R) : xT (d + 1) 203 [xR_ a0] M (xQv R) := by
  refine xT_m xr_203_e (X := (none, d + 0, none)) rfl (xa_1 (xR_cat _) xa_n) (by decide) ?_
  unfold f203 at h
  refine xe_alr (ins := .aload_n 0) (len := 1) (i := 0) (by decide +kernel) rfl rfl rfl rfl rfl ?_
  refine xe_iconst (n := 0) (by decide +kernel) rfl ?_
  obtain ⟨M106, e107, h⟩ := xbnd h
  refine xs_p (i := 106) (c := 13) (k := 27) (by decide +kernel) (by decide +kernel) (by decide +kernel) e107 rfl ?_
  refine xe_iconst (n := 0) (by decide +kernel) rfl ?_
  refine xe_isr (ins := .istore_n 1) (len := 1) (i := 1) (by decide +kernel) rfl rfl rfl (by decide) (xk_k (show ¬ (0 : Nat) = 1 by decide) (Or.inr (xR_cat _)) xk_n) rfl ?_
  refine xW_lv rfl (l := [(0, xR_ (a0)), (1, xI (0))]) (xsb_of ⟨rfl, rfl, trivial⟩ (show [1, 0].Nodup by decide)) ?_
  exact k203_7   (show xin (0) by decide) h
-- ChangeHouseModel$Program.predicateOf
def xr_205 : xj_mR := (14, yX14_predicateOf, cX14_predicateOf, 4, (Option.some Jvm.ClassFile.FieldType.int), 1, false, (8, 229), (1, 17))
set_option maxRecDepth 20000 in
theorem xr_205_e : xj_row 205 = some xr_205 := rfl
def f205_2b  (r2 : Nat → Int → Int → xj_M → Option (Int × xj_M)) (f : Nat) (x0 : Nat) (x1 : Int) (x3 : Int) (M : xj_M) : Option (Int × xj_M) := ((xq_gi 14 8 (x0) M).bind fun v101 => (if (v101) ≤ (x3) then (some (-1, M)) else ((xq_gr 14 0 (x0) M).bind fun v104 => ((xq_al (v104) (x3) M).bind fun v106 => (if ¬ (v106) = (x1) then r2 (x0) (x1) (xwr ((x3) + (1))) M else (some (x3, M)))))))
theorem k205_2b {d f : Nat}  {r2 : Nat → Int → Int → xj_M → Option (Int × xj_M)}  (hr2 : ∀ {x0 : Nat} {x1 : Int} {x3 : Int} {M : xj_M} {R : Int × xj_M}, xiN x1 → xin x3 → r2 x0 x1 x3 M = some R → xW (d + 0) (none, d + 0, none) xr_205 (2, [(0, xR_ x0), (1, xZ x1), (3, xI x3)], [], M) (xQi R)) {x0 : Nat} {x1 : Int} {x3 : Int} {M : xj_M} {R : Int × xj_M} (hx1 : xiN x1) (hx3 : xin x3) (h : f205_2b  r2 f x0 x1 x3 M = some R) : xW (d + 0) (none, d + 0, none) xr_205 (2, [(0, xR_ x0), (1, xZ x1), (3, xI x3)], [], M) (xQi R) := by
  unfold f205_2b at h
  refine xe_ldn (ins := .iload_n 3) (len := 1) (by decide +kernel) rfl rfl rfl rfl ?_
  refine xe_alr (ins := .aload_n 0) (len := 1) (i := 0) (by decide +kernel) rfl rfl rfl rfl rfl ?_
  obtain ⟨v101, e102, h⟩ := xbnd h
  refine xs_gi (i := 116) (c := 14) (k := 8) (by decide +kernel) (by decide) (by decide +kernel) e102 rfl ?_
  refine xe_icmpge (off := 22) (t := 29) (by decide +kernel) (by decide) rfl hx3 (xq_gi_in e102) (fun c103 => ?_) (fun c103 => ?_)
  · rw [if_pos c103] at h
    refine xe_iconst (n := -1) (by decide +kernel) rfl ?_
    cases h
    exact xe_ret_i (ty := .int) (by decide +kernel) rfl rfl ⟨rfl, rfl, (show xin (-1) by decide)⟩
  · rw [if_neg c103] at h
    refine xe_alr (ins := .aload_n 0) (len := 1) (i := 0) (by decide +kernel) rfl rfl rfl rfl rfl ?_
    obtain ⟨v104, e105, h⟩ := xbnd h
    refine xs_gr (i := 9) (c := 14) (k := 0) (by decide +kernel) (by decide) (by decide +kernel) e105 rfl ?_
    refine xe_ldn (ins := .iload_n 3) (len := 1) (by decide +kernel) rfl rfl rfl rfl ?_
    obtain ⟨v106, e107, h⟩ := xbnd h
    refine xs_lald (by decide +kernel) hx3 e107 rfl ?_
    refine xe_ldn (ins := .lload_n 1) (len := 1) (by decide +kernel) rfl rfl rfl rfl ?_
    refine xe_lcmp (by decide +kernel) rfl (xq_al_in e107) hx1 ?_
    refine xe_ifne (off := 5) (t := 23) (by decide +kernel) (by decide) rfl (xin_cmp8 _ _) (fun c108 => ?_) (fun c108 => ?_)
    · have c108 := xcmp8_ne.mp c108; rw [if_pos c108] at h
      refine xe_iincr (i := 3) (n := 1) (by decide +kernel) (by decide) rfl (xk_k (show ¬ (0 : Nat) = 3 by decide) (Or.inl (show ¬ (0 + 1 : Nat) = 3 by decide)) (xk_k (show ¬ (1 : Nat) = 3 by decide) (Or.inl (show ¬ (1 + 1 : Nat) = 3 by decide)) (xk_d rfl xk_n))) rfl ?_
      refine xe_goto (off := -24) (nx := 2) (by decide +kernel) (by decide) ?_
      refine xW_lv rfl (l := [(0, xR_ (x0)), (1, xZ (x1)), (3, xI (xwr ((x3) + (1))))]) (xsb_of ⟨rfl, rfl, rfl, trivial⟩ (show [3, 0, 1].Nodup by decide)) ?_
      exact hr2 hx1 (xin_wr _) h
    · have c108 := (not_congr xcmp8_ne).mp c108; rw [if_neg c108] at h
      refine xe_ldn (ins := .iload_n 3) (len := 1) (by decide +kernel) rfl rfl rfl rfl ?_
      cases h
      exact xe_ret_i (ty := .int) (by decide +kernel) rfl rfl ⟨rfl, rfl, hx3⟩
def f205_2   (f : Nat) : Nat → Nat → Int → Int → xj_M → Option (Int × xj_M)
  | 0, _, _, _, _ => none
  | n + 1, x0, x1, x3, M => f205_2b   (f205_2   f n) f x0 x1 x3 M
theorem k205_2 {d f : Nat}     : ∀ {n : Nat} {x0 : Nat} {x1 : Int} {x3 : Int} {M : xj_M} {R : Int × xj_M}, xiN x1 → xin x3 → f205_2   f n x0 x1 x3 M = some R → xW (d + 0) (none, d + 0, none) xr_205 (2, [(0, xR_ x0), (1, xZ x1), (3, xI x3)], [], M) (xQi R) := by
  intro n
  induction n with
  | zero => intros; rename_i h; cases h
  | succ n ih => intros; rename_i h; exact k205_2b   ih (by assumption) (by assumption) h
def f205  (f : Nat) (a0 : Nat) (a1 : Int) (M : xj_M) : Option (Int × xj_M) := f205_2   f f (a0) (a1) (0) M
theorem k205 {d f : Nat}   {a0 : Nat} {a1 : Int} {M : xj_M} {R : Int × xj_M} (ha1 : xiN a1) (h : f205  f a0 a1 M = some R) : xT (d + 1) 205 [xR_ a0, xZ a1] M (xQi R) := by
  refine xT_m xr_205_e (X := (none, d + 0, none)) rfl (xa_1 (xR_cat _) (xa_2 (xZ_cat _) xa_n)) (by decide) ?_
  unfold f205 at h
  refine xe_iconst (n := 0) (by decide +kernel) rfl ?_
  refine xe_isr (ins := .istore_n 3) (len := 1) (i := 3) (by decide +kernel) rfl rfl rfl (by decide) (xk_k (show ¬ (0 : Nat) = 3 by decide) (Or.inl (show ¬ (0 + 1 : Nat) = 3 by decide)) (xk_k (show ¬ (1 : Nat) = 3 by decide) (Or.inl (show ¬ (1 + 1 : Nat) = 3 by decide)) xk_n)) rfl ?_
  refine xW_lv rfl (l := [(0, xR_ (a0)), (1, xZ (a1)), (3, xI (0))]) (xsb_of ⟨rfl, rfl, rfl, trivial⟩ (show [3, 0, 1].Nodup by decide)) ?_
  exact k205_2   ha1 (show xin (0) by decide) h
-- ChangeHouseModel.isSmall
def xr_206 : xj_mR := (15, yX15_isSmall, cX15_isSmall, 1, (Option.some Jvm.ClassFile.FieldType.boolean), 1, false, (8, 148), (1, 12))
set_option maxRecDepth 20000 in
theorem xr_206_e : xj_row 206 = some xr_206 := rfl
def f206_17   (f : Nat) (y0 : Int) (M : xj_M) : Option (Int × xj_M) := (if (y0) = 0 ∨ (y0) = 1 then some (y0, M) else none)
theorem k206_17 {d f : Nat}     {y0 : Int} {M : xj_M} {R : Int × xj_M} (hy0 : xin y0) (h : f206_17   f y0 M = some R) : xW (d + 0) (none, d + 0, none) xr_206 (17, [], [xI y0], M) (xQi R) := by
  unfold f206_17 at h
  by_cases c101 : (y0) = 0 ∨ (y0) = 1
  · rw [if_pos c101] at h; cases h; exact xe_ret_i (ty := .boolean) (by decide +kernel) rfl (xbool c101) ⟨rfl, rfl, hy0⟩
  · rw [if_neg c101] at h; cases h
def f206_16   (f : Nat)  (M : xj_M) : Option (Int × xj_M) := f206_17   f (0) M
theorem k206_16 {d f : Nat}      {M : xj_M} {R : Int × xj_M}  (h : f206_16   f  M = some R) : xW (d + 0) (none, d + 0, none) xr_206 (16, [], [], M) (xQi R) := by
  unfold f206_16 at h
  refine xe_iconst (n := 0) (by decide +kernel) rfl ?_
  refine xW_lv rfl (l := []) (xsb_of trivial (show [].Nodup by decide)) ?_
  exact k206_17   (show xin (0) by decide) h
def f206  (f : Nat) (a0 : Int) (M : xj_M) : Option (Int × xj_M) := (if (a0) < (97) then f206_16   f  M else (if (122) < (a0) then f206_16   f  M else f206_17   f (1) M))
theorem k206 {d f : Nat}   {a0 : Int} {M : xj_M} {R : Int × xj_M} (ha0 : xin a0) (h : f206  f a0 M = some R) : xT (d + 1) 206 [xI a0] M (xQi R) := by
  refine xT_m xr_206_e (X := (none, d + 0, none)) rfl (xa_1 (xI_cat _) xa_n) (by decide) ?_
  unfold f206 at h
  refine xe_ldn (ins := .iload_n 0) (len := 1) (by decide +kernel) rfl rfl rfl rfl ?_
  refine xe_bipush (n := 97) (by decide +kernel) (by decide) rfl ?_
  refine xe_icmplt (off := 13) (t := 16) (by decide +kernel) (by decide) rfl ha0 (show xin (97) by decide) (fun c102 => ?_) (fun c102 => ?_)
  · rw [if_pos c102] at h
    refine xW_lv rfl (l := []) (xsb_of trivial (show [0].Nodup by decide)) ?_
    exact k206_16    h
  · rw [if_neg c102] at h
    refine xe_ldn (ins := .iload_n 0) (len := 1) (by decide +kernel) rfl rfl rfl rfl ?_
    refine xe_bipush (n := 122) (by decide +kernel) (by decide) rfl ?_
    refine xe_icmpgt (off := 7) (t := 16) (by decide +kernel) (by decide) rfl ha0 (show xin (122) by decide) (fun c103 => ?_) (fun c103 => ?_)
    · rw [if_pos c103] at h
      refine xW_lv rfl (l := []) (xsb_of trivial (show [0].Nodup by decide)) ?_
      exact k206_16    h
    · rw [if_neg c103] at h
      refine xe_iconst (n := 1) (by decide +kernel) rfl ?_
      refine xe_goto (off := 4) (nx := 17) (by decide +kernel) (by decide) ?_
      refine xW_lv rfl (l := []) (xsb_of trivial (show [0].Nodup by decide)) ?_
      exact k206_17   (show xin (1) by decide) h
-- ChangeHouseModel.isGreat
def xr_207 : xj_mR := (15, yX15_isGreat, cX15_isGreat, 1, (Option.some Jvm.ClassFile.FieldType.boolean), 1, false, (8, 165), (1, 12))
set_option maxRecDepth 20000 in
theorem xr_207_e : xj_row 207 = some xr_207 := rfl
def f207_17   (f : Nat) (y0 : Int) (M : xj_M) : Option (Int × xj_M) := (if (y0) = 0 ∨ (y0) = 1 then some (y0, M) else none)
theorem k207_17 {d f : Nat}     {y0 : Int} {M : xj_M} {R : Int × xj_M} (hy0 : xin y0) (h : f207_17   f y0 M = some R) : xW (d + 0) (none, d + 0, none) xr_207 (17, [], [xI y0], M) (xQi R) := by
  unfold f207_17 at h
  by_cases c101 : (y0) = 0 ∨ (y0) = 1
  · rw [if_pos c101] at h; cases h; exact xe_ret_i (ty := .boolean) (by decide +kernel) rfl (xbool c101) ⟨rfl, rfl, hy0⟩
  · rw [if_neg c101] at h; cases h
def f207_16   (f : Nat)  (M : xj_M) : Option (Int × xj_M) := f207_17   f (0) M
theorem k207_16 {d f : Nat}      {M : xj_M} {R : Int × xj_M}  (h : f207_16   f  M = some R) : xW (d + 0) (none, d + 0, none) xr_207 (16, [], [], M) (xQi R) := by
  unfold f207_16 at h
  refine xe_iconst (n := 0) (by decide +kernel) rfl ?_
  refine xW_lv rfl (l := []) (xsb_of trivial (show [].Nodup by decide)) ?_
  exact k207_17   (show xin (0) by decide) h
def f207  (f : Nat) (a0 : Int) (M : xj_M) : Option (Int × xj_M) := (if (a0) < (65) then f207_16   f  M else (if (90) < (a0) then f207_16   f  M else f207_17   f (1) M))
theorem k207 {d f : Nat}   {a0 : Int} {M : xj_M} {R : Int × xj_M} (ha0 : xin a0) (h : f207  f a0 M = some R) : xT (d + 1) 207 [xI a0] M (xQi R) := by
  refine xT_m xr_207_e (X := (none, d + 0, none)) rfl (xa_1 (xI_cat _) xa_n) (by decide) ?_
  unfold f207 at h
  refine xe_ldn (ins := .iload_n 0) (len := 1) (by decide +kernel) rfl rfl rfl rfl ?_
  refine xe_bipush (n := 65) (by decide +kernel) (by decide) rfl ?_
  refine xe_icmplt (off := 13) (t := 16) (by decide +kernel) (by decide) rfl ha0 (show xin (65) by decide) (fun c102 => ?_) (fun c102 => ?_)
  · rw [if_pos c102] at h
    refine xW_lv rfl (l := []) (xsb_of trivial (show [0].Nodup by decide)) ?_
    exact k207_16    h
  · rw [if_neg c102] at h
    refine xe_ldn (ins := .iload_n 0) (len := 1) (by decide +kernel) rfl rfl rfl rfl ?_
    refine xe_bipush (n := 90) (by decide +kernel) (by decide) rfl ?_
    refine xe_icmpgt (off := 7) (t := 16) (by decide +kernel) (by decide) rfl ha0 (show xin (90) by decide) (fun c103 => ?_) (fun c103 => ?_)
    · rw [if_pos c103] at h
      refine xW_lv rfl (l := []) (xsb_of trivial (show [0].Nodup by decide)) ?_
      exact k207_16    h
    · rw [if_neg c103] at h
      refine xe_iconst (n := 1) (by decide +kernel) rfl ?_
      refine xe_goto (off := 4) (nx := 17) (by decide +kernel) (by decide) ?_
      refine xW_lv rfl (l := []) (xsb_of trivial (show [0].Nodup by decide)) ?_
      exact k207_17   (show xin (1) by decide) h
-- ChangeHouseModel.isDigit
def xr_208 : xj_mR := (15, yX15_isDigit, cX15_isDigit, 1, (Option.some Jvm.ClassFile.FieldType.boolean), 1, false, (8, 155), (1, 12))
set_option maxRecDepth 20000 in
theorem xr_208_e : xj_row 208 = some xr_208 := rfl
def f208_17   (f : Nat) (y0 : Int) (M : xj_M) : Option (Int × xj_M) := (if (y0) = 0 ∨ (y0) = 1 then some (y0, M) else none)
theorem k208_17 {d f : Nat}     {y0 : Int} {M : xj_M} {R : Int × xj_M} (hy0 : xin y0) (h : f208_17   f y0 M = some R) : xW (d + 0) (none, d + 0, none) xr_208 (17, [], [xI y0], M) (xQi R) := by
  unfold f208_17 at h
  by_cases c101 : (y0) = 0 ∨ (y0) = 1
  · rw [if_pos c101] at h; cases h; exact xe_ret_i (ty := .boolean) (by decide +kernel) rfl (xbool c101) ⟨rfl, rfl, hy0⟩
  · rw [if_neg c101] at h; cases h
def f208_16   (f : Nat)  (M : xj_M) : Option (Int × xj_M) := f208_17   f (0) M
theorem k208_16 {d f : Nat}      {M : xj_M} {R : Int × xj_M}  (h : f208_16   f  M = some R) : xW (d + 0) (none, d + 0, none) xr_208 (16, [], [], M) (xQi R) := by
  unfold f208_16 at h
  refine xe_iconst (n := 0) (by decide +kernel) rfl ?_
  refine xW_lv rfl (l := []) (xsb_of trivial (show [].Nodup by decide)) ?_
  exact k208_17   (show xin (0) by decide) h
def f208  (f : Nat) (a0 : Int) (M : xj_M) : Option (Int × xj_M) := (if (a0) < (48) then f208_16   f  M else (if (57) < (a0) then f208_16   f  M else f208_17   f (1) M))
theorem k208 {d f : Nat}   {a0 : Int} {M : xj_M} {R : Int × xj_M} (ha0 : xin a0) (h : f208  f a0 M = some R) : xT (d + 1) 208 [xI a0] M (xQi R) := by
  refine xT_m xr_208_e (X := (none, d + 0, none)) rfl (xa_1 (xI_cat _) xa_n) (by decide) ?_
  unfold f208 at h
  refine xe_ldn (ins := .iload_n 0) (len := 1) (by decide +kernel) rfl rfl rfl rfl ?_
  refine xe_bipush (n := 48) (by decide +kernel) (by decide) rfl ?_
  refine xe_icmplt (off := 13) (t := 16) (by decide +kernel) (by decide) rfl ha0 (show xin (48) by decide) (fun c102 => ?_) (fun c102 => ?_)
  · rw [if_pos c102] at h
    refine xW_lv rfl (l := []) (xsb_of trivial (show [0].Nodup by decide)) ?_
    exact k208_16    h
  · rw [if_neg c102] at h
    refine xe_ldn (ins := .iload_n 0) (len := 1) (by decide +kernel) rfl rfl rfl rfl ?_
    refine xe_bipush (n := 57) (by decide +kernel) (by decide) rfl ?_
    refine xe_icmpgt (off := 7) (t := 16) (by decide +kernel) (by decide) rfl ha0 (show xin (57) by decide) (fun c103 => ?_) (fun c103 => ?_)
    · rw [if_pos c103] at h
      refine xW_lv rfl (l := []) (xsb_of trivial (show [0].Nodup by decide)) ?_
      exact k208_16    h
    · rw [if_neg c103] at h
      refine xe_iconst (n := 1) (by decide +kernel) rfl ?_
      refine xe_goto (off := 4) (nx := 17) (by decide +kernel) (by decide) ?_
      refine xW_lv rfl (l := []) (xsb_of trivial (show [0].Nodup by decide)) ?_
      exact k208_17   (show xin (1) by decide) h
-- ChangeHouseModel.see
def xr_209 : xj_mR := (15, yX15_see, cX15_see, 2, (Option.some Jvm.ClassFile.FieldType.int), 1, false, (8, 145), (1, 12))
set_option maxRecDepth 20000 in
theorem xr_209_e : xj_row 209 = some xr_209 := rfl
def f209_22   (f : Nat) (y0 : Int) (M : xj_M) : Option (Int × xj_M) := (some (y0, M))
theorem k209_22 {d f : Nat}     {y0 : Int} {M : xj_M} {R : Int × xj_M} (hy0 : xin y0) (h : f209_22   f y0 M = some R) : xW (d + 0) (none, d + 0, none) xr_209 (22, [], [xI y0], M) (xQi R) := by
  unfold f209_22 at h
  cases h
  exact xe_ret_i (ty := .int) (by decide +kernel) rfl rfl ⟨rfl, rfl, hy0⟩
def f209  (f : Nat) (a0 : Nat) (a1 : Int) (M : xj_M) : Option (Int × xj_M) := ((xq_gi 15 1 (a0) M).bind fun v101 => (if (v101) ≤ (a1) then f209_22   f (-1) M else ((xq_gr 15 0 (a0) M).bind fun v104 => ((xq_ab (v104) (a1) M).bind fun v106 => f209_22   f (xand (v106) (255)) M))))
theorem k209 {d f : Nat}   {a0 : Nat} {a1 : Int} {M : xj_M} {R : Int × xj_M} (ha1 : xin a1) (h : f209  f a0 a1 M = some R) : xT (d + 1) 209 [xR_ a0, xI a1] M (xQi R) := by
  refine xT_m xr_209_e (X := (none, d + 0, none)) rfl (xa_1 (xR_cat _) (xa_1 (xI_cat _) xa_n)) (by decide) ?_
  unfold f209 at h
  refine xe_ldn (ins := .iload_n 1) (len := 1) (by decide +kernel) rfl rfl rfl rfl ?_
  refine xe_alr (ins := .aload_n 0) (len := 1) (i := 0) (by decide +kernel) rfl rfl rfl rfl rfl ?_
  obtain ⟨v101, e102, h⟩ := xbnd h
  refine xs_gi (i := 3) (c := 15) (k := 1) (by decide +kernel) (by decide) (by decide +kernel) e102 rfl ?_
  refine xe_icmpge (off := 16) (t := 21) (by decide +kernel) (by decide) rfl ha1 (xq_gi_in e102) (fun c103 => ?_) (fun c103 => ?_)
  · rw [if_pos c103] at h
    refine xe_iconst (n := -1) (by decide +kernel) rfl ?_
    refine xW_lv rfl (l := []) (xsb_of trivial (show [0, 1].Nodup by decide)) ?_
    exact k209_22   (show xin (-1) by decide) h
  · rw [if_neg c103] at h
    refine xe_alr (ins := .aload_n 0) (len := 1) (i := 0) (by decide +kernel) rfl rfl rfl rfl rfl ?_
    obtain ⟨v104, e105, h⟩ := xbnd h
    refine xs_gr (i := 7) (c := 15) (k := 0) (by decide +kernel) (by decide) (by decide +kernel) e105 rfl ?_
    refine xe_ldn (ins := .iload_n 1) (len := 1) (by decide +kernel) rfl rfl rfl rfl ?_
    obtain ⟨v106, e107, h⟩ := xbnd h
    refine xs_bald (by decide +kernel) ha1 e107 rfl ?_
    refine xe_sipush (n := 255) (by decide +kernel) (by decide) rfl ?_
    refine xe_iand (by decide +kernel) rfl ?_
    refine xe_goto (off := 4) (nx := 22) (by decide +kernel) (by decide) ?_
    refine xW_lv rfl (l := []) (xsb_of trivial (show [0, 1].Nodup by decide)) ?_
    exact k209_22   (xin_of _) h
-- ChangeHouseModel.fail
def xr_210 : xj_mR := (15, yX15_fail, cX15_fail, 2, (Option.none : Option Jvm.ClassFile.FieldType), 1, false, (8, 209), (1, 12))
set_option maxRecDepth 20000 in
theorem xr_210_e : xj_row 210 = some xr_210 := rfl
def f210_13   (f : Nat)  (M : xj_M) : Option (xj_M) := (some M)
theorem k210_13 {d f : Nat}      {M : xj_M} {R : xj_M}  (h : f210_13   f  M = some R) : xW (d + 0) (none, d + 0, none) xr_210 (13, [], [], M) (xQv R) := by
  unfold f210_13 at h
  cases h
  exact xe_ret_v (by decide +kernel) rfl ⟨rfl, rfl⟩
def f210  (f : Nat) (a0 : Nat) (a1 : Int) (M : xj_M) : Option (xj_M) := ((xq_gi 15 7 (a0) M).bind fun v101 => (if ¬ (v101) = (-1) then f210_13   f  M else ((xq_pi 15 7 (a0) (a1) M).bind fun M104 => f210_13   f  M104)))
theorem k210 {d f : Nat}   {a0 : Nat} {a1 : Int} {M : xj_M} {R : xj_M} (ha1 : xin a1) (h : f210  f a0 a1 M = some R) : xT (d + 1) 210 [xR_ a0, xI a1] M (xQv R) := by
  refine xT_m xr_210_e (X := (none, d + 0, none)) rfl (xa_1 (xR_cat _) (xa_1 (xI_cat _) xa_n)) (by decide) ?_
  unfold f210 at h
  refine xe_alr (ins := .aload_n 0) (len := 1) (i := 0) (by decide +kernel) rfl rfl rfl rfl rfl ?_
  obtain ⟨v101, e102, h⟩ := xbnd h
  refine xs_gi (i := 11) (c := 15) (k := 7) (by decide +kernel) (by decide) (by decide +kernel) e102 rfl ?_
  refine xe_iconst (n := -1) (by decide +kernel) rfl ?_
  refine xe_icmpne (off := 8) (t := 13) (by decide +kernel) (by decide) rfl (xq_gi_in e102) (show xin (-1) by decide) (fun c103 => ?_) (fun c103 => ?_)
  · rw [if_pos c103] at h
    refine xW_lv rfl (l := []) (xsb_of trivial (show [0, 1].Nodup by decide)) ?_
    exact k210_13    h
  · rw [if_neg c103] at h
    refine xe_alr (ins := .aload_n 0) (len := 1) (i := 0) (by decide +kernel) rfl rfl rfl rfl rfl ?_
    refine xe_ldn (ins := .iload_n 1) (len := 1) (by decide +kernel) rfl rfl rfl rfl ?_
    obtain ⟨M104, e105, h⟩ := xbnd h
    refine xs_p (i := 11) (c := 15) (k := 7) (by decide +kernel) (by decide +kernel) (by decide +kernel) e105 rfl ?_
    refine xW_lv rfl (l := []) (xsb_of trivial (show [0, 1].Nodup by decide)) ?_
    exact k210_13    h
-- ChangeHouseModel.bad
def xr_211 : xj_mR := (15, yX15_bad, cX15_bad, 1, (Option.some Jvm.ClassFile.FieldType.boolean), 0, false, (8, 189), (1, 12))
set_option maxRecDepth 20000 in
theorem xr_211_e : xj_row 211 = some xr_211 := rfl
def f211_13   (f : Nat) (y0 : Int) (M : xj_M) : Option (Int × xj_M) := (if (y0) = 0 ∨ (y0) = 1 then some (y0, M) else none)
theorem k211_13 {d f : Nat}     {y0 : Int} {M : xj_M} {R : Int × xj_M} (hy0 : xin y0) (h : f211_13   f y0 M = some R) : xW (d + 0) (none, d + 0, none) xr_211 (13, [], [xI y0], M) (xQi R) := by
  unfold f211_13 at h
  by_cases c101 : (y0) = 0 ∨ (y0) = 1
  · rw [if_pos c101] at h; cases h; exact xe_ret_i (ty := .boolean) (by decide +kernel) rfl (xbool c101) ⟨rfl, rfl, hy0⟩
  · rw [if_neg c101] at h; cases h
def f211  (f : Nat) (a0 : Nat) (M : xj_M) : Option (Int × xj_M) := ((xq_gi 15 7 (a0) M).bind fun v102 => (if (v102) = (-1) then f211_13   f (0) M else f211_13   f (1) M))
theorem k211 {d f : Nat}   {a0 : Nat} {M : xj_M} {R : Int × xj_M}  (h : f211  f a0 M = some R) : xT (d + 1) 211 [xR_ a0] M (xQi R) := by
  refine xT_m xr_211_e (X := (none, d + 0, none)) rfl (xa_1 (xR_cat _) xa_n) (by decide) ?_
  unfold f211 at h
  refine xe_alr (ins := .aload_n 0) (len := 1) (i := 0) (by decide +kernel) rfl rfl rfl rfl rfl ?_
  obtain ⟨v102, e103, h⟩ := xbnd h
  refine xs_gi (i := 11) (c := 15) (k := 7) (by decide +kernel) (by decide) (by decide +kernel) e103 rfl ?_
  refine xe_iconst (n := -1) (by decide +kernel) rfl ?_
  refine xe_icmpeq (off := 7) (t := 12) (by decide +kernel) (by decide) rfl (xq_gi_in e103) (show xin (-1) by decide) (fun c104 => ?_) (fun c104 => ?_)
  · rw [if_pos c104] at h
    refine xe_iconst (n := 0) (by decide +kernel) rfl ?_
    refine xW_lv rfl (l := []) (xsb_of trivial (show [0].Nodup by decide)) ?_
    exact k211_13   (show xin (0) by decide) h
  · rw [if_neg c104] at h
    refine xe_iconst (n := 1) (by decide +kernel) rfl ?_
    refine xe_goto (off := 4) (nx := 13) (by decide +kernel) (by decide) ?_
    refine xW_lv rfl (l := []) (xsb_of trivial (show [0].Nodup by decide)) ?_
    exact k211_13   (show xin (1) by decide) h
-- ChangeHouseModel.digitOf
def xr_215 : xj_mR := (15, yX15_digitOf, cX15_digitOf, 1, (Option.some Jvm.ClassFile.FieldType.int), 1, false, (8, 159), (1, 12))
set_option maxRecDepth 20000 in
theorem xr_215_e : xj_row 215 = some xr_215 := rfl
def f215_51   (f : Nat) (y0 : Int) (M : xj_M) : Option (Int × xj_M) := (some (y0, M))
theorem k215_51 {d f : Nat}     {y0 : Int} {M : xj_M} {R : Int × xj_M} (hy0 : xin y0) (h : f215_51   f y0 M = some R) : xW (d + 1) (none, d + 1, none) xr_215 (51, [], [xI y0], M) (xQi R) := by
  unfold f215_51 at h
  cases h
  exact xe_ret_i (ty := .int) (by decide +kernel) rfl rfl ⟨rfl, rfl, hy0⟩
def f215  (f : Nat) (a0 : Int) (M : xj_M) : Option (Int × xj_M) := ((f206  f (a0) M).bind fun R102 => (if (R102.1) = 0 then ((f208  f (a0) R102.2).bind fun R106 => (if (R106.1) = 0 then (if ¬ (a0) = (95) then f215_51   f (xwr ((xwr ((38) + (a0))) - (65))) R106.2 else f215_51   f (37) R106.2) else f215_51   f (xwr ((xwr ((27) + (a0))) - (48))) R106.2)) else f215_51   f (xwr ((xwr ((1) + (a0))) - (97))) R102.2))
theorem k215 {d f : Nat}   {a0 : Int} {M : xj_M} {R : Int × xj_M} (ha0 : xin a0) (h : f215  f a0 M = some R) : xT (d + 2) 215 [xI a0] M (xQi R) := by
  refine xT_m xr_215_e (X := (none, d + 1, none)) rfl (xa_1 (xI_cat _) xa_n) (by decide) ?_
  unfold f215 at h
  refine xe_ldn (ins := .iload_n 0) (len := 1) (by decide +kernel) rfl rfl rfl rfl ?_
  obtain ⟨R102, e101, h⟩ := xbnd h
  refine xs_cs (kd := 2) (by decide) (i := 49) (j := 206) (ar := [xI (a0)]) (rest := []) (r2 := xr_206) (by decide +kernel) (by decide +kernel) (by decide +kernel) xr_206_e rfl (by decide) ?_
  refine xc_i (k206 (d := d + 0)  ha0 e101) rfl (fun hi103 => ?_)
  refine xe_ifeq (off := 12) (t := 16) (by decide +kernel) (by decide) rfl hi103 (fun c104 => ?_) (fun c104 => ?_)
  · rw [if_pos c104] at h
    refine xe_ldn (ins := .iload_n 0) (len := 1) (by decide +kernel) rfl rfl rfl rfl ?_
    obtain ⟨R106, e105, h⟩ := xbnd h
    refine xs_cs (kd := 2) (by decide) (i := 62) (j := 208) (ar := [xI (a0)]) (rest := []) (r2 := xr_208) (by decide +kernel) (by decide +kernel) (by decide +kernel) xr_208_e rfl (by decide) ?_
    refine xc_i (k208 (d := d + 0)  ha0 e105) rfl (fun hi107 => ?_)
    refine xe_ifeq (off := 13) (t := 33) (by decide +kernel) (by decide) rfl hi107 (fun c108 => ?_) (fun c108 => ?_)
    · rw [if_pos c108] at h
      refine xe_ldn (ins := .iload_n 0) (len := 1) (by decide +kernel) rfl rfl rfl rfl ?_
      refine xe_bipush (n := 95) (by decide +kernel) (by decide) rfl ?_
      refine xe_icmpne (off := 8) (t := 44) (by decide +kernel) (by decide) rfl ha0 (show xin (95) by decide) (fun c109 => ?_) (fun c109 => ?_)
      · rw [if_pos c109] at h
        refine xe_bipush (n := 38) (by decide +kernel) (by decide) rfl ?_
        refine xe_ldn (ins := .iload_n 0) (len := 1) (by decide +kernel) rfl rfl rfl rfl ?_
        refine xe_iadd (by decide +kernel) rfl ?_
        refine xe_bipush (n := 65) (by decide +kernel) (by decide) rfl ?_
        refine xe_isub (by decide +kernel) rfl ?_
        refine xW_lv rfl (l := []) (xsb_of trivial (show [0].Nodup by decide)) ?_
        exact k215_51   (xin_wr _) h
      · rw [if_neg c109] at h
        refine xe_bipush (n := 37) (by decide +kernel) (by decide) rfl ?_
        refine xe_goto (off := 10) (nx := 51) (by decide +kernel) (by decide) ?_
        refine xW_lv rfl (l := []) (xsb_of trivial (show [0].Nodup by decide)) ?_
        exact k215_51   (show xin (37) by decide) h
    · rw [if_neg c108] at h
      refine xe_bipush (n := 27) (by decide +kernel) (by decide) rfl ?_
      refine xe_ldn (ins := .iload_n 0) (len := 1) (by decide +kernel) rfl rfl rfl rfl ?_
      refine xe_iadd (by decide +kernel) rfl ?_
      refine xe_bipush (n := 48) (by decide +kernel) (by decide) rfl ?_
      refine xe_isub (by decide +kernel) rfl ?_
      refine xe_goto (off := 21) (nx := 51) (by decide +kernel) (by decide) ?_
      refine xW_lv rfl (l := []) (xsb_of trivial (show [0].Nodup by decide)) ?_
      exact k215_51   (xin_wr _) h
  · rw [if_neg c104] at h
    refine xe_iconst (n := 1) (by decide +kernel) rfl ?_
    refine xe_ldn (ins := .iload_n 0) (len := 1) (by decide +kernel) rfl rfl rfl rfl ?_
    refine xe_iadd (by decide +kernel) rfl ?_
    refine xe_bipush (n := 97) (by decide +kernel) (by decide) rfl ?_
    refine xe_isub (by decide +kernel) rfl ?_
    refine xe_goto (off := 38) (nx := 51) (by decide +kernel) (by decide) ?_
    refine xW_lv rfl (l := []) (xsb_of trivial (show [0].Nodup by decide)) ?_
    exact k215_51   (xin_wr _) h
-- ChangeHouseModel.lexName
def xr_216 : xj_mR := (15, yX15_lexName, cX15_lexName, 4, (Option.none : Option Jvm.ClassFile.FieldType), 0, false, (8, 152), (1, 12))
set_option maxRecDepth 20000 in
theorem xr_216_e : xj_row 216 = some xr_216 := rfl
def f216_116  (r17 : Nat → Int → Int → xj_M → Option (xj_M)) (f : Nat) (x0 : Nat) (x1 : Int) (x2 : Int) (M : xj_M) : Option (xj_M) := r17 (x0) (x1) (xwr ((x2) + (1))) M
theorem k216_116 {d f : Nat}  {r17 : Nat → Int → Int → xj_M → Option (xj_M)}  (hr17 : ∀ {x0 : Nat} {x1 : Int} {x2 : Int} {M : xj_M} {R : xj_M}, xin x1 → xin x2 → r17 x0 x1 x2 M = some R → xW (d + 2) (none, d + 2, none) xr_216 (17, [(0, xR_ x0), (1, xI x1), (2, xI x2)], [], M) (xQv R)) {x0 : Nat} {x1 : Int} {x2 : Int} {M : xj_M} {R : xj_M} (hx1 : xin x1) (hx2 : xin x2) (h : f216_116  r17 f x0 x1 x2 M = some R) : xW (d + 2) (none, d + 2, none) xr_216 (116, [(0, xR_ x0), (1, xI x1), (2, xI x2)], [], M) (xQv R) := by
  unfold f216_116 at h
  refine xe_iincr (i := 2) (n := 1) (by decide +kernel) (by decide) rfl (xk_k (show ¬ (0 : Nat) = 2 by decide) (Or.inl (show ¬ (0 + 1 : Nat) = 2 by decide)) (xk_k (show ¬ (1 : Nat) = 2 by decide) (Or.inr (xI_cat _)) (xk_d rfl xk_n))) rfl ?_
  refine xe_goto (off := -102) (nx := 17) (by decide +kernel) (by decide) ?_
  refine xW_lv rfl (l := [(0, xR_ (x0)), (1, xI (x1)), (2, xI (xwr ((x2) + (1))))]) (xsb_of ⟨rfl, rfl, rfl, trivial⟩ (show [2, 0, 1].Nodup by decide)) ?_
  exact hr17 hx1 (xin_wr _) h
def f216_85  (r17 : Nat → Int → Int → xj_M → Option (xj_M)) (f : Nat) (x0 : Nat) (x2 : Int) (y0 : Int) (M : xj_M) : Option (xj_M) := ((xq_gi 15 6 (x0) M).bind fun v101 => (if ¬ (v101) = (-1) then f216_116  r17 f (x0) (y0) (x2) M else ((xq_gl 15 9 (x0) M).bind fun v104 => ((xq_is 15 (x0) M).bind fun _ => ((f209  f (x0) (x2) M).bind fun R108 => ((f215  f (R108.1) R108.2).bind fun R111 => ((xq_pl 15 9 (x0) (xwl ((xwl ((38) * (v104))) + (R111.1))) R111.2).bind fun M113 => f216_116  r17 f (x0) (y0) (x2) M113)))))))
theorem k216_85 {d f : Nat}  {r17 : Nat → Int → Int → xj_M → Option (xj_M)}  (hr17 : ∀ {x0 : Nat} {x1 : Int} {x2 : Int} {M : xj_M} {R : xj_M}, xin x1 → xin x2 → r17 x0 x1 x2 M = some R → xW (d + 2) (none, d + 2, none) xr_216 (17, [(0, xR_ x0), (1, xI x1), (2, xI x2)], [], M) (xQv R)) {x0 : Nat} {x2 : Int} {y0 : Int} {M : xj_M} {R : xj_M} (hx2 : xin x2) (hy0 : xin y0) (h : f216_85  r17 f x0 x2 y0 M = some R) : xW (d + 2) (none, d + 2, none) xr_216 (85, [(0, xR_ x0), (2, xI x2)], [xI y0], M) (xQv R) := by
  unfold f216_85 at h
  refine xe_isr (ins := .istore_n 1) (len := 1) (i := 1) (by decide +kernel) rfl rfl rfl (by decide) (xk_k (show ¬ (0 : Nat) = 1 by decide) (Or.inr (xR_cat _)) (xk_k (show ¬ (2 : Nat) = 1 by decide) (Or.inl (show ¬ (2 + 1 : Nat) = 1 by decide)) xk_n)) rfl ?_
  refine xe_alr (ins := .aload_n 0) (len := 1) (i := 0) (by decide +kernel) rfl rfl rfl rfl rfl ?_
  obtain ⟨v101, e102, h⟩ := xbnd h
  refine xs_gi (i := 32) (c := 15) (k := 6) (by decide +kernel) (by decide) (by decide +kernel) e102 rfl ?_
  refine xe_iconst (n := -1) (by decide +kernel) rfl ?_
  refine xe_icmpne (off := 25) (t := 116) (by decide +kernel) (by decide) rfl (xq_gi_in e102) (show xin (-1) by decide) (fun c103 => ?_) (fun c103 => ?_)
  · rw [if_pos c103] at h
    refine xW_lv rfl (l := [(0, xR_ (x0)), (1, xI (y0)), (2, xI (x2))]) (xsb_of ⟨rfl, rfl, rfl, trivial⟩ (show [1, 0, 2].Nodup by decide)) ?_
    exact k216_116  hr17 hy0 hx2 h
  · rw [if_neg c103] at h
    refine xe_alr (ins := .aload_n 0) (len := 1) (i := 0) (by decide +kernel) rfl rfl rfl rfl rfl ?_
    refine xe_ldc2 (i := 75) (n := 38) (by decide +kernel) (by decide +kernel) rfl ?_
    refine xe_alr (ins := .aload_n 0) (len := 1) (i := 0) (by decide +kernel) rfl rfl rfl rfl rfl ?_
    obtain ⟨v104, e105, h⟩ := xbnd h
    refine xs_gl (i := 71) (c := 15) (k := 9) (by decide +kernel) (by decide) (by decide +kernel) e105 rfl ?_
    refine xe_lmul (by decide +kernel) rfl ?_
    refine xe_alr (ins := .aload_n 0) (len := 1) (i := 0) (by decide +kernel) rfl rfl rfl rfl rfl ?_
    refine xe_ldn (ins := .iload_n 2) (len := 1) (by decide +kernel) rfl rfl rfl rfl ?_
    obtain ⟨_, e107, h⟩ := xbnd h
    obtain ⟨R108, e106, h⟩ := xbnd h
    refine xs_cv (i := 39) (j := 209) (ar := [xI (x2)]) (rest := [xZ (xwl ((38) * (v104))), xR_ (x0)]) (r2 := xr_209) (by decide +kernel) (by decide +kernel) (by decide +kernel) xr_209_e rfl (by decide) (by simp only [List.map_cons, List.map_nil, List.sum_cons, List.sum_nil, xR_cat, xI_cat, xZ_cat]; decide) e107 ?_
    refine xc_i (k209 (d := d + 1)  hx2 e106) rfl (fun hi109 => ?_)
    obtain ⟨R111, e110, h⟩ := xbnd h
    refine xs_cs (kd := 2) (by decide) (i := 77) (j := 215) (ar := [xI (R108.1)]) (rest := [xZ (xwl ((38) * (v104))), xR_ (x0)]) (r2 := xr_215) (by decide +kernel) (by decide +kernel) (by decide +kernel) xr_215_e rfl (by simp only [List.map_cons, List.map_nil, List.sum_cons, List.sum_nil, xR_cat, xI_cat, xZ_cat]; decide) ?_
    refine xc_i (k215 (d := d + 0)  hi109 e110) rfl (fun hi112 => ?_)
    refine xe_i2l (by decide +kernel) rfl hi112 ?_
    refine xe_ladd (by decide +kernel) rfl ?_
    obtain ⟨M113, e114, h⟩ := xbnd h
    refine xs_p (i := 71) (c := 15) (k := 9) (by decide +kernel) (by decide +kernel) (by decide +kernel) e114 rfl ?_
    refine xW_lv rfl (l := [(0, xR_ (x0)), (1, xI (y0)), (2, xI (x2))]) (xsb_of ⟨rfl, rfl, rfl, trivial⟩ (show [1, 0, 2].Nodup by decide)) ?_
    exact k216_116  hr17 hy0 hx2 h
def f216_84  (r17 : Nat → Int → Int → xj_M → Option (xj_M)) (f : Nat) (x0 : Nat) (x2 : Int) (M : xj_M) : Option (xj_M) := f216_85  r17 f (x0) (x2) (0) M
theorem k216_84 {d f : Nat}  {r17 : Nat → Int → Int → xj_M → Option (xj_M)}  (hr17 : ∀ {x0 : Nat} {x1 : Int} {x2 : Int} {M : xj_M} {R : xj_M}, xin x1 → xin x2 → r17 x0 x1 x2 M = some R → xW (d + 2) (none, d + 2, none) xr_216 (17, [(0, xR_ x0), (1, xI x1), (2, xI x2)], [], M) (xQv R)) {x0 : Nat} {x2 : Int} {M : xj_M} {R : xj_M} (hx2 : xin x2) (h : f216_84  r17 f x0 x2 M = some R) : xW (d + 2) (none, d + 2, none) xr_216 (84, [(0, xR_ x0), (2, xI x2)], [], M) (xQv R) := by
  unfold f216_84 at h
  refine xe_iconst (n := 0) (by decide +kernel) rfl ?_
  refine xW_lv rfl (l := [(0, xR_ (x0)), (2, xI (x2))]) (xsb_of ⟨rfl, rfl, trivial⟩ (show [0, 2].Nodup by decide)) ?_
  exact k216_85  hr17 hx2 (show xin (0) by decide) h
def f216_65  (r17 : Nat → Int → Int → xj_M → Option (xj_M)) (f : Nat) (x0 : Nat) (x1 : Int) (x2 : Int) (M : xj_M) : Option (xj_M) := (if (x1) = 0 then f216_84  r17 f (x0) (x2) M else ((xq_is 15 (x0) M).bind fun _ => ((f209  f (x0) (x2) M).bind fun R118 => ((f206  f (R118.1) R118.2).bind fun R121 => (if (R121.1) = 0 then f216_84  r17 f (x0) (x2) R121.2 else f216_85  r17 f (x0) (x2) (1) R121.2)))))
theorem k216_65 {d f : Nat}  {r17 : Nat → Int → Int → xj_M → Option (xj_M)}  (hr17 : ∀ {x0 : Nat} {x1 : Int} {x2 : Int} {M : xj_M} {R : xj_M}, xin x1 → xin x2 → r17 x0 x1 x2 M = some R → xW (d + 2) (none, d + 2, none) xr_216 (17, [(0, xR_ x0), (1, xI x1), (2, xI x2)], [], M) (xQv R)) {x0 : Nat} {x1 : Int} {x2 : Int} {M : xj_M} {R : xj_M} (hx1 : xin x1) (hx2 : xin x2) (h : f216_65  r17 f x0 x1 x2 M = some R) : xW (d + 2) (none, d + 2, none) xr_216 (65, [(0, xR_ x0), (1, xI x1), (2, xI x2)], [], M) (xQv R) := by
  unfold f216_65 at h
  refine xe_ldn (ins := .iload_n 1) (len := 1) (by decide +kernel) rfl rfl rfl rfl ?_
  refine xe_ifeq (off := 18) (t := 84) (by decide +kernel) (by decide) rfl hx1 (fun c115 => ?_) (fun c115 => ?_)
  · rw [if_pos c115] at h
    refine xW_lv rfl (l := [(0, xR_ (x0)), (2, xI (x2))]) (xsb_of ⟨rfl, rfl, trivial⟩ (show [0, 1, 2].Nodup by decide)) ?_
    exact k216_84  hr17 hx2 h
  · rw [if_neg c115] at h
    refine xe_alr (ins := .aload_n 0) (len := 1) (i := 0) (by decide +kernel) rfl rfl rfl rfl rfl ?_
    refine xe_ldn (ins := .iload_n 2) (len := 1) (by decide +kernel) rfl rfl rfl rfl ?_
    obtain ⟨_, e117, h⟩ := xbnd h
    obtain ⟨R118, e116, h⟩ := xbnd h
    refine xs_cv (i := 39) (j := 209) (ar := [xI (x2)]) (rest := []) (r2 := xr_209) (by decide +kernel) (by decide +kernel) (by decide +kernel) xr_209_e rfl (by decide) (by decide) e117 ?_
    refine xc_i (k209 (d := d + 1)  hx2 e116) rfl (fun hi119 => ?_)
    obtain ⟨R121, e120, h⟩ := xbnd h
    refine xs_cs (kd := 2) (by decide) (i := 49) (j := 206) (ar := [xI (R118.1)]) (rest := []) (r2 := xr_206) (by decide +kernel) (by decide +kernel) (by decide +kernel) xr_206_e rfl (by decide) ?_
    refine xc_i (k206 (d := d + 1)  hi119 e120) rfl (fun hi122 => ?_)
    refine xe_ifeq (off := 7) (t := 84) (by decide +kernel) (by decide) rfl hi122 (fun c123 => ?_) (fun c123 => ?_)
    · rw [if_pos c123] at h
      refine xW_lv rfl (l := [(0, xR_ (x0)), (2, xI (x2))]) (xsb_of ⟨rfl, rfl, trivial⟩ (show [0, 1, 2].Nodup by decide)) ?_
      exact k216_84  hr17 hx2 h
    · rw [if_neg c123] at h
      refine xe_iconst (n := 1) (by decide +kernel) rfl ?_
      refine xe_goto (off := 4) (nx := 85) (by decide +kernel) (by decide) ?_
      refine xW_lv rfl (l := [(0, xR_ (x0)), (2, xI (x2))]) (xsb_of ⟨rfl, rfl, trivial⟩ (show [0, 1, 2].Nodup by decide)) ?_
      exact k216_85  hr17 hx2 (show xin (1) by decide) h
def f216_49  (r17 : Nat → Int → Int → xj_M → Option (xj_M)) (f : Nat) (x0 : Nat) (x1 : Int) (x2 : Int) (M : xj_M) : Option (xj_M) := ((xq_gi 15 4 (x0) M).bind fun v124 => (if ¬ (x2) = (xwr ((v124) + (12))) then f216_65  r17 f (x0) (x1) (x2) M else ((xq_pi 15 6 (x0) (x2) M).bind fun M127 => f216_65  r17 f (x0) (x1) (x2) M127)))
theorem k216_49 {d f : Nat}  {r17 : Nat → Int → Int → xj_M → Option (xj_M)}  (hr17 : ∀ {x0 : Nat} {x1 : Int} {x2 : Int} {M : xj_M} {R : xj_M}, xin x1 → xin x2 → r17 x0 x1 x2 M = some R → xW (d + 2) (none, d + 2, none) xr_216 (17, [(0, xR_ x0), (1, xI x1), (2, xI x2)], [], M) (xQv R)) {x0 : Nat} {x1 : Int} {x2 : Int} {M : xj_M} {R : xj_M} (hx1 : xin x1) (hx2 : xin x2) (h : f216_49  r17 f x0 x1 x2 M = some R) : xW (d + 2) (none, d + 2, none) xr_216 (49, [(0, xR_ x0), (1, xI x1), (2, xI x2)], [], M) (xQv R) := by
  unfold f216_49 at h
  refine xe_ldn (ins := .iload_n 2) (len := 1) (by decide +kernel) rfl rfl rfl rfl ?_
  refine xe_alr (ins := .aload_n 0) (len := 1) (i := 0) (by decide +kernel) rfl rfl rfl rfl rfl ?_
  obtain ⟨v124, e125, h⟩ := xbnd h
  refine xs_gi (i := 43) (c := 15) (k := 4) (by decide +kernel) (by decide) (by decide +kernel) e125 rfl ?_
  refine xe_bipush (n := 12) (by decide +kernel) (by decide) rfl ?_
  refine xe_iadd (by decide +kernel) rfl ?_
  refine xe_icmpne (off := 8) (t := 65) (by decide +kernel) (by decide) rfl hx2 (xin_wr _) (fun c126 => ?_) (fun c126 => ?_)
  · rw [if_pos c126] at h
    refine xW_lv rfl (l := [(0, xR_ (x0)), (1, xI (x1)), (2, xI (x2))]) (xsb_of ⟨rfl, rfl, rfl, trivial⟩ (show [0, 1, 2].Nodup by decide)) ?_
    exact k216_65  hr17 hx1 hx2 h
  · rw [if_neg c126] at h
    refine xe_alr (ins := .aload_n 0) (len := 1) (i := 0) (by decide +kernel) rfl rfl rfl rfl rfl ?_
    refine xe_ldn (ins := .iload_n 2) (len := 1) (by decide +kernel) rfl rfl rfl rfl ?_
    obtain ⟨M127, e128, h⟩ := xbnd h
    refine xs_p (i := 32) (c := 15) (k := 6) (by decide +kernel) (by decide +kernel) (by decide +kernel) e128 rfl ?_
    refine xW_lv rfl (l := [(0, xR_ (x0)), (1, xI (x1)), (2, xI (x2))]) (xsb_of ⟨rfl, rfl, rfl, trivial⟩ (show [0, 1, 2].Nodup by decide)) ?_
    exact k216_65  hr17 hx1 hx2 h
def f216_149   (f : Nat)  (M : xj_M) : Option (xj_M) := (some M)
theorem k216_149 {d f : Nat}      {M : xj_M} {R : xj_M}  (h : f216_149   f  M = some R) : xW (d + 2) (none, d + 2, none) xr_216 (149, [], [], M) (xQv R) := by
  unfold f216_149 at h
  cases h
  exact xe_ret_v (by decide +kernel) rfl ⟨rfl, rfl⟩
def f216_201  (r157 : Nat → Int → Int → xj_M → Option (xj_M)) (f : Nat) (x0 : Nat) (x2 : Int) (x3 : Int) (y0 : Int) (y1 : Int) (y2 : Nat) (M : xj_M) : Option (xj_M) := ((xq_pl 15 10 (y2) (xwl ((y1) + (y0))) M).bind fun M129 => r157 (x0) (x2) (xwr ((x3) + (1))) M129)
theorem k216_201 {d f : Nat}  {r157 : Nat → Int → Int → xj_M → Option (xj_M)}  (hr157 : ∀ {x0 : Nat} {x2 : Int} {x3 : Int} {M : xj_M} {R : xj_M}, xin x2 → xin x3 → r157 x0 x2 x3 M = some R → xW (d + 2) (none, d + 2, none) xr_216 (157, [(0, xR_ x0), (2, xI x2), (3, xI x3)], [], M) (xQv R)) {x0 : Nat} {x2 : Int} {x3 : Int} {y0 : Int} {y1 : Int} {y2 : Nat} {M : xj_M} {R : xj_M} (hx2 : xin x2) (hx3 : xin x3) (hy0 : xin y0) (hy1 : xiN y1) (h : f216_201  r157 f x0 x2 x3 y0 y1 y2 M = some R) : xW (d + 2) (none, d + 2, none) xr_216 (201, [(0, xR_ x0), (2, xI x2), (3, xI x3)], [xI y0, xZ y1, xR_ y2], M) (xQv R) := by
  unfold f216_201 at h
  refine xe_i2l (by decide +kernel) rfl hy0 ?_
  refine xe_ladd (by decide +kernel) rfl ?_
  obtain ⟨M129, e130, h⟩ := xbnd h
  refine xs_p (i := 82) (c := 15) (k := 10) (by decide +kernel) (by decide +kernel) (by decide +kernel) e130 rfl ?_
  refine xe_iincr (i := 3) (n := 1) (by decide +kernel) (by decide) rfl (xk_k (show ¬ (0 : Nat) = 3 by decide) (Or.inl (show ¬ (0 + 1 : Nat) = 3 by decide)) (xk_k (show ¬ (2 : Nat) = 3 by decide) (Or.inr (xI_cat _)) (xk_d rfl xk_n))) rfl ?_
  refine xe_goto (off := -52) (nx := 157) (by decide +kernel) (by decide) ?_
  refine xW_lv rfl (l := [(0, xR_ (x0)), (2, xI (x2)), (3, xI (xwr ((x3) + (1))))]) (xsb_of ⟨rfl, rfl, rfl, trivial⟩ (show [3, 0, 2].Nodup by decide)) ?_
  exact hr157 hx2 (xin_wr _) h
def f216_157b  (r157 : Nat → Int → Int → xj_M → Option (xj_M)) (f : Nat) (x0 : Nat) (x2 : Int) (x3 : Int) (M : xj_M) : Option (xj_M) := (if (8) ≤ (x3) then ((xq_gl 15 10 (x0) M).bind fun v132 => ((xq_pl 15 10 (x0) (xwl ((v132) + (2000000000000))) M).bind fun M134 => (some M134))) else ((xq_gl 15 10 (x0) M).bind fun v136 => ((xq_gi 15 4 (x0) M).bind fun v138 => (if (x2) ≤ (xwr ((v138) + (x3))) then f216_201  r157 f (x0) (x2) (x3) (0) (xwl ((27) * (v136))) (x0) M else ((xq_gi 15 4 (x0) M).bind fun v141 => ((xq_is 15 (x0) M).bind fun _ => ((f209  f (x0) (xwr ((v141) + (x3))) M).bind fun R145 => f216_201  r157 f (x0) (x2) (x3) (xwr ((xwr ((R145.1) - (97))) + (1))) (xwl ((27) * (v136))) (x0) R145.2)))))))
theorem k216_157b {d f : Nat}  {r157 : Nat → Int → Int → xj_M → Option (xj_M)}  (hr157 : ∀ {x0 : Nat} {x2 : Int} {x3 : Int} {M : xj_M} {R : xj_M}, xin x2 → xin x3 → r157 x0 x2 x3 M = some R → xW (d + 2) (none, d + 2, none) xr_216 (157, [(0, xR_ x0), (2, xI x2), (3, xI x3)], [], M) (xQv R)) {x0 : Nat} {x2 : Int} {x3 : Int} {M : xj_M} {R : xj_M} (hx2 : xin x2) (hx3 : xin x3) (h : f216_157b  r157 f x0 x2 x3 M = some R) : xW (d + 2) (none, d + 2, none) xr_216 (157, [(0, xR_ x0), (2, xI x2), (3, xI x3)], [], M) (xQv R) := by
  unfold f216_157b at h
  refine xe_ldn (ins := .iload_n 3) (len := 1) (by decide +kernel) rfl rfl rfl rfl ?_
  refine xe_bipush (n := 8) (by decide +kernel) (by decide) rfl ?_
  refine xe_icmpge (off := 52) (t := 212) (by decide +kernel) (by decide) rfl hx3 (show xin (8) by decide) (fun c131 => ?_) (fun c131 => ?_)
  · rw [if_pos c131] at h
    refine xe_alr (ins := .aload_n 0) (len := 1) (i := 0) (by decide +kernel) rfl rfl rfl rfl rfl ?_
    refine xe_dupr (by decide +kernel) rfl ?_
    obtain ⟨v132, e133, h⟩ := xbnd h
    refine xs_gl (i := 82) (c := 15) (k := 10) (by decide +kernel) (by decide) (by decide +kernel) e133 rfl ?_
    refine xe_ldc2 (i := 87) (n := 2000000000000) (by decide +kernel) (by decide +kernel) rfl ?_
    refine xe_ladd (by decide +kernel) rfl ?_
    obtain ⟨M134, e135, h⟩ := xbnd h
    refine xs_p (i := 82) (c := 15) (k := 10) (by decide +kernel) (by decide +kernel) (by decide +kernel) e135 rfl ?_
    cases h
    exact xe_ret_v (by decide +kernel) rfl ⟨rfl, rfl⟩
  · rw [if_neg c131] at h
    refine xe_alr (ins := .aload_n 0) (len := 1) (i := 0) (by decide +kernel) rfl rfl rfl rfl rfl ?_
    refine xe_ldc2 (i := 85) (n := 27) (by decide +kernel) (by decide +kernel) rfl ?_
    refine xe_alr (ins := .aload_n 0) (len := 1) (i := 0) (by decide +kernel) rfl rfl rfl rfl rfl ?_
    obtain ⟨v136, e137, h⟩ := xbnd h
    refine xs_gl (i := 82) (c := 15) (k := 10) (by decide +kernel) (by decide) (by decide +kernel) e137 rfl ?_
    refine xe_lmul (by decide +kernel) rfl ?_
    refine xe_alr (ins := .aload_n 0) (len := 1) (i := 0) (by decide +kernel) rfl rfl rfl rfl rfl ?_
    obtain ⟨v138, e139, h⟩ := xbnd h
    refine xs_gi (i := 43) (c := 15) (k := 4) (by decide +kernel) (by decide) (by decide +kernel) e139 rfl ?_
    refine xe_ldn (ins := .iload_n 3) (len := 1) (by decide +kernel) rfl rfl rfl rfl ?_
    refine xe_iadd (by decide +kernel) rfl ?_
    refine xe_ldn (ins := .iload_n 2) (len := 1) (by decide +kernel) rfl rfl rfl rfl ?_
    refine xe_icmpge (off := 21) (t := 200) (by decide +kernel) (by decide) rfl (xin_wr _) hx2 (fun c140 => ?_) (fun c140 => ?_)
    · rw [if_pos c140] at h
      refine xe_iconst (n := 0) (by decide +kernel) rfl ?_
      refine xW_lv rfl (l := [(0, xR_ (x0)), (2, xI (x2)), (3, xI (x3))]) (xsb_of ⟨rfl, rfl, rfl, trivial⟩ (show [0, 2, 3].Nodup by decide)) ?_
      exact k216_201  hr157 hx2 hx3 (show xin (0) by decide) (xiN_wl _) h
    · rw [if_neg c140] at h
      refine xe_alr (ins := .aload_n 0) (len := 1) (i := 0) (by decide +kernel) rfl rfl rfl rfl rfl ?_
      refine xe_alr (ins := .aload_n 0) (len := 1) (i := 0) (by decide +kernel) rfl rfl rfl rfl rfl ?_
      obtain ⟨v141, e142, h⟩ := xbnd h
      refine xs_gi (i := 43) (c := 15) (k := 4) (by decide +kernel) (by decide) (by decide +kernel) e142 rfl ?_
      refine xe_ldn (ins := .iload_n 3) (len := 1) (by decide +kernel) rfl rfl rfl rfl ?_
      refine xe_iadd (by decide +kernel) rfl ?_
      obtain ⟨_, e144, h⟩ := xbnd h
      obtain ⟨R145, e143, h⟩ := xbnd h
      refine xs_cv (i := 39) (j := 209) (ar := [xI (xwr ((v141) + (x3)))]) (rest := [xZ (xwl ((27) * (v136))), xR_ (x0)]) (r2 := xr_209) (by decide +kernel) (by decide +kernel) (by decide +kernel) xr_209_e rfl (by decide) (by simp only [List.map_cons, List.map_nil, List.sum_cons, List.sum_nil, xR_cat, xI_cat, xZ_cat]; decide) e144 ?_
      refine xc_i (k209 (d := d + 1)  (xin_wr _) e143) rfl (fun hi146 => ?_)
      refine xe_bipush (n := 97) (by decide +kernel) (by decide) rfl ?_
      refine xe_isub (by decide +kernel) rfl ?_
      refine xe_iconst (n := 1) (by decide +kernel) rfl ?_
      refine xe_iadd (by decide +kernel) rfl ?_
      refine xe_goto (off := 4) (nx := 201) (by decide +kernel) (by decide) ?_
      refine xW_lv rfl (l := [(0, xR_ (x0)), (2, xI (x2)), (3, xI (x3))]) (xsb_of ⟨rfl, rfl, rfl, trivial⟩ (show [0, 2, 3].Nodup by decide)) ?_
      exact k216_201  hr157 hx2 hx3 (xin_wr _) (xiN_wl _) h
def f216_157   (f : Nat) : Nat → Nat → Int → Int → xj_M → Option (xj_M)
  | 0, _, _, _, _ => none
  | n + 1, x0, x2, x3, M => f216_157b   (f216_157   f n) f x0 x2 x3 M
theorem k216_157 {d f : Nat}     : ∀ {n : Nat} {x0 : Nat} {x2 : Int} {x3 : Int} {M : xj_M} {R : xj_M}, xin x2 → xin x3 → f216_157   f n x0 x2 x3 M = some R → xW (d + 2) (none, d + 2, none) xr_216 (157, [(0, xR_ x0), (2, xI x2), (3, xI x3)], [], M) (xQv R) := by
  intro n
  induction n with
  | zero => intros; rename_i h; cases h
  | succ n ih => intros; rename_i h; exact k216_157b   ih (by assumption) (by assumption) h
def f216_17b  (r17 : Nat → Int → Int → xj_M → Option (xj_M)) (f : Nat) (x0 : Nat) (x1 : Int) (x2 : Int) (M : xj_M) : Option (xj_M) := ((xq_is 15 (x0) M).bind fun _ => ((f209  f (x0) (x2) M).bind fun R149 => ((f206  f (R149.1) R149.2).bind fun R152 => (if ¬ (R152.1) = 0 then f216_49  r17 f (x0) (x1) (x2) R152.2 else ((xq_is 15 (x0) R152.2).bind fun _ => ((f209  f (x0) (x2) R152.2).bind fun R157 => ((f208  f (R157.1) R157.2).bind fun R160 => (if ¬ (R160.1) = 0 then f216_49  r17 f (x0) (x1) (x2) R160.2 else ((xq_is 15 (x0) R160.2).bind fun _ => ((f209  f (x0) (x2) R160.2).bind fun R165 => (if ¬ (R165.1) = (95) then ((xq_pi 15 5 (x0) (x2) R165.2).bind fun M168 => ((xq_pl 15 10 (x0) (-1) M168).bind fun M170 => (if (x1) = 0 then f216_149   f  M170 else ((xq_gi 15 4 (x0) M170).bind fun v173 => (if (xwr ((x2) - (v173))) ≤ (8) then ((xq_pl 15 10 (x0) (0) M170).bind fun M176 => f216_157   f f (x0) (x2) (0) M176) else f216_149   f  M170))))) else f216_49  r17 f (x0) (x1) (x2) R165.2)))))))))))
theorem k216_17b {d f : Nat}  {r17 : Nat → Int → Int → xj_M → Option (xj_M)}  (hr17 : ∀ {x0 : Nat} {x1 : Int} {x2 : Int} {M : xj_M} {R : xj_M}, xin x1 → xin x2 → r17 x0 x1 x2 M = some R → xW (d + 2) (none, d + 2, none) xr_216 (17, [(0, xR_ x0), (1, xI x1), (2, xI x2)], [], M) (xQv R)) {x0 : Nat} {x1 : Int} {x2 : Int} {M : xj_M} {R : xj_M} (hx1 : xin x1) (hx2 : xin x2) (h : f216_17b  r17 f x0 x1 x2 M = some R) : xW (d + 2) (none, d + 2, none) xr_216 (17, [(0, xR_ x0), (1, xI x1), (2, xI x2)], [], M) (xQv R) := by
  unfold f216_17b at h
  refine xe_alr (ins := .aload_n 0) (len := 1) (i := 0) (by decide +kernel) rfl rfl rfl rfl rfl ?_
  refine xe_ldn (ins := .iload_n 2) (len := 1) (by decide +kernel) rfl rfl rfl rfl ?_
  obtain ⟨_, e148, h⟩ := xbnd h
  obtain ⟨R149, e147, h⟩ := xbnd h
  refine xs_cv (i := 39) (j := 209) (ar := [xI (x2)]) (rest := []) (r2 := xr_209) (by decide +kernel) (by decide +kernel) (by decide +kernel) xr_209_e rfl (by decide) (by decide) e148 ?_
  refine xc_i (k209 (d := d + 1)  hx2 e147) rfl (fun hi150 => ?_)
  obtain ⟨R152, e151, h⟩ := xbnd h
  refine xs_cs (kd := 2) (by decide) (i := 49) (j := 206) (ar := [xI (R149.1)]) (rest := []) (r2 := xr_206) (by decide +kernel) (by decide +kernel) (by decide +kernel) xr_206_e rfl (by decide) ?_
  refine xc_i (k206 (d := d + 1)  hi150 e151) rfl (fun hi153 => ?_)
  refine xe_ifne (off := 24) (t := 49) (by decide +kernel) (by decide) rfl hi153 (fun c154 => ?_) (fun c154 => ?_)
  · rw [if_pos c154] at h
    refine xW_lv rfl (l := [(0, xR_ (x0)), (1, xI (x1)), (2, xI (x2))]) (xsb_of ⟨rfl, rfl, rfl, trivial⟩ (show [0, 1, 2].Nodup by decide)) ?_
    exact k216_49  hr17 hx1 hx2 h
  · rw [if_neg c154] at h
    refine xe_alr (ins := .aload_n 0) (len := 1) (i := 0) (by decide +kernel) rfl rfl rfl rfl rfl ?_
    refine xe_ldn (ins := .iload_n 2) (len := 1) (by decide +kernel) rfl rfl rfl rfl ?_
    obtain ⟨_, e156, h⟩ := xbnd h
    obtain ⟨R157, e155, h⟩ := xbnd h
    refine xs_cv (i := 39) (j := 209) (ar := [xI (x2)]) (rest := []) (r2 := xr_209) (by decide +kernel) (by decide +kernel) (by decide +kernel) xr_209_e rfl (by decide) (by decide) e156 ?_
    refine xc_i (k209 (d := d + 1)  hx2 e155) rfl (fun hi158 => ?_)
    obtain ⟨R160, e159, h⟩ := xbnd h
    refine xs_cs (kd := 2) (by decide) (i := 62) (j := 208) (ar := [xI (R157.1)]) (rest := []) (r2 := xr_208) (by decide +kernel) (by decide +kernel) (by decide +kernel) xr_208_e rfl (by decide) ?_
    refine xc_i (k208 (d := d + 1)  hi158 e159) rfl (fun hi161 => ?_)
    refine xe_ifne (off := 13) (t := 49) (by decide +kernel) (by decide) rfl hi161 (fun c162 => ?_) (fun c162 => ?_)
    · rw [if_pos c162] at h
      refine xW_lv rfl (l := [(0, xR_ (x0)), (1, xI (x1)), (2, xI (x2))]) (xsb_of ⟨rfl, rfl, rfl, trivial⟩ (show [0, 1, 2].Nodup by decide)) ?_
      exact k216_49  hr17 hx1 hx2 h
    · rw [if_neg c162] at h
      refine xe_alr (ins := .aload_n 0) (len := 1) (i := 0) (by decide +kernel) rfl rfl rfl rfl rfl ?_
      refine xe_ldn (ins := .iload_n 2) (len := 1) (by decide +kernel) rfl rfl rfl rfl ?_
      obtain ⟨_, e164, h⟩ := xbnd h
      obtain ⟨R165, e163, h⟩ := xbnd h
      refine xs_cv (i := 39) (j := 209) (ar := [xI (x2)]) (rest := []) (r2 := xr_209) (by decide +kernel) (by decide +kernel) (by decide +kernel) xr_209_e rfl (by decide) (by decide) e164 ?_
      refine xc_i (k209 (d := d + 1)  hx2 e163) rfl (fun hi166 => ?_)
      refine xe_bipush (n := 95) (by decide +kernel) (by decide) rfl ?_
      refine xe_icmpne (off := 76) (t := 122) (by decide +kernel) (by decide) rfl hi166 (show xin (95) by decide) (fun c167 => ?_) (fun c167 => ?_)
      · rw [if_pos c167] at h
        refine xe_alr (ins := .aload_n 0) (len := 1) (i := 0) (by decide +kernel) rfl rfl rfl rfl rfl ?_
        refine xe_ldn (ins := .iload_n 2) (len := 1) (by decide +kernel) rfl rfl rfl rfl ?_
        obtain ⟨M168, e169, h⟩ := xbnd h
        refine xs_p (i := 14) (c := 15) (k := 5) (by decide +kernel) (by decide +kernel) (by decide +kernel) e169 rfl ?_
        refine xe_alr (ins := .aload_n 0) (len := 1) (i := 0) (by decide +kernel) rfl rfl rfl rfl rfl ?_
        refine xe_ldc2 (i := 80) (n := -1) (by decide +kernel) (by decide +kernel) rfl ?_
        obtain ⟨M170, e171, h⟩ := xbnd h
        refine xs_p (i := 82) (c := 15) (k := 10) (by decide +kernel) (by decide +kernel) (by decide +kernel) e171 rfl ?_
        refine xe_ldn (ins := .iload_n 1) (len := 1) (by decide +kernel) rfl rfl rfl rfl ?_
        refine xe_ifeq (off := 14) (t := 149) (by decide +kernel) (by decide) rfl hx1 (fun c172 => ?_) (fun c172 => ?_)
        · rw [if_pos c172] at h
          refine xW_lv rfl (l := []) (xsb_of trivial (show [0, 1, 2].Nodup by decide)) ?_
          exact k216_149    h
        · rw [if_neg c172] at h
          refine xe_ldn (ins := .iload_n 2) (len := 1) (by decide +kernel) rfl rfl rfl rfl ?_
          refine xe_alr (ins := .aload_n 0) (len := 1) (i := 0) (by decide +kernel) rfl rfl rfl rfl rfl ?_
          obtain ⟨v173, e174, h⟩ := xbnd h
          refine xs_gi (i := 43) (c := 15) (k := 4) (by decide +kernel) (by decide) (by decide +kernel) e174 rfl ?_
          refine xe_isub (by decide +kernel) rfl ?_
          refine xe_bipush (n := 8) (by decide +kernel) (by decide) rfl ?_
          refine xe_icmple (off := 4) (t := 150) (by decide +kernel) (by decide) rfl (xin_wr _) (show xin (8) by decide) (fun c175 => ?_) (fun c175 => ?_)
          · rw [if_pos c175] at h
            refine xe_alr (ins := .aload_n 0) (len := 1) (i := 0) (by decide +kernel) rfl rfl rfl rfl rfl ?_
            refine xe_lconst (n := 0) (z := 0) (by decide +kernel) rfl rfl ?_
            obtain ⟨M176, e177, h⟩ := xbnd h
            refine xs_p (i := 82) (c := 15) (k := 10) (by decide +kernel) (by decide +kernel) (by decide +kernel) e177 rfl ?_
            refine xe_iconst (n := 0) (by decide +kernel) rfl ?_
            refine xe_isr (ins := .istore_n 3) (len := 1) (i := 3) (by decide +kernel) rfl rfl rfl (by decide) (xk_k (show ¬ (0 : Nat) = 3 by decide) (Or.inl (show ¬ (0 + 1 : Nat) = 3 by decide)) (xk_k (show ¬ (1 : Nat) = 3 by decide) (Or.inl (show ¬ (1 + 1 : Nat) = 3 by decide)) (xk_k (show ¬ (2 : Nat) = 3 by decide) (Or.inr (xI_cat _)) xk_n))) rfl ?_
            refine xW_lv rfl (l := [(0, xR_ (x0)), (2, xI (x2)), (3, xI (0))]) (xsb_of ⟨rfl, rfl, rfl, trivial⟩ (show [3, 0, 1, 2].Nodup by decide)) ?_
            exact k216_157   hx2 (show xin (0) by decide) h
          · rw [if_neg c175] at h
            refine xW_lv rfl (l := []) (xsb_of trivial (show [0, 1, 2].Nodup by decide)) ?_
            exact k216_149    h
      · rw [if_neg c167] at h
        refine xW_lv rfl (l := [(0, xR_ (x0)), (1, xI (x1)), (2, xI (x2))]) (xsb_of ⟨rfl, rfl, rfl, trivial⟩ (show [0, 1, 2].Nodup by decide)) ?_
        exact k216_49  hr17 hx1 hx2 h
def f216_17   (f : Nat) : Nat → Nat → Int → Int → xj_M → Option (xj_M)
  | 0, _, _, _, _ => none
  | n + 1, x0, x1, x2, M => f216_17b   (f216_17   f n) f x0 x1 x2 M
theorem k216_17 {d f : Nat}     : ∀ {n : Nat} {x0 : Nat} {x1 : Int} {x2 : Int} {M : xj_M} {R : xj_M}, xin x1 → xin x2 → f216_17   f n x0 x1 x2 M = some R → xW (d + 2) (none, d + 2, none) xr_216 (17, [(0, xR_ x0), (1, xI x1), (2, xI x2)], [], M) (xQv R) := by
  intro n
  induction n with
  | zero => intros; rename_i h; cases h
  | succ n ih => intros; rename_i h; exact k216_17b   ih (by assumption) (by assumption) h
def f216  (f : Nat) (a0 : Nat) (M : xj_M) : Option (xj_M) := ((xq_pi 15 2 (a0) (2) M).bind fun M178 => ((xq_pl 15 9 (a0) (0) M178).bind fun M180 => ((xq_gi 15 4 (a0) M180).bind fun v182 => f216_17   f f (a0) (1) (v182) M180)))
theorem k216 {d f : Nat}   {a0 : Nat} {M : xj_M} {R : xj_M}  (h : f216  f a0 M = some R) : xT (d + 3) 216 [xR_ a0] M (xQv R) := by
  refine xT_m xr_216_e (X := (none, d + 2, none)) rfl (xa_1 (xR_cat _) xa_n) (by decide) ?_
  unfold f216 at h
  refine xe_alr (ins := .aload_n 0) (len := 1) (i := 0) (by decide +kernel) rfl rfl rfl rfl rfl ?_
  refine xe_iconst (n := 2) (by decide +kernel) rfl ?_
  obtain ⟨M178, e179, h⟩ := xbnd h
  refine xs_p (i := 46) (c := 15) (k := 2) (by decide +kernel) (by decide +kernel) (by decide +kernel) e179 rfl ?_
  refine xe_alr (ins := .aload_n 0) (len := 1) (i := 0) (by decide +kernel) rfl rfl rfl rfl rfl ?_
  refine xe_lconst (n := 0) (z := 0) (by decide +kernel) rfl rfl ?_
  obtain ⟨M180, e181, h⟩ := xbnd h
  refine xs_p (i := 71) (c := 15) (k := 9) (by decide +kernel) (by decide +kernel) (by decide +kernel) e181 rfl ?_
  refine xe_iconst (n := 1) (by decide +kernel) rfl ?_
  refine xe_isr (ins := .istore_n 1) (len := 1) (i := 1) (by decide +kernel) rfl rfl rfl (by decide) (xk_k (show ¬ (0 : Nat) = 1 by decide) (Or.inr (xR_cat _)) xk_n) rfl ?_
  refine xe_alr (ins := .aload_n 0) (len := 1) (i := 0) (by decide +kernel) rfl rfl rfl rfl rfl ?_
  obtain ⟨v182, e183, h⟩ := xbnd h
  refine xs_gi (i := 43) (c := 15) (k := 4) (by decide +kernel) (by decide) (by decide +kernel) e183 rfl ?_
  refine xe_isr (ins := .istore_n 2) (len := 1) (i := 2) (by decide +kernel) rfl rfl rfl (by decide) (xk_k (show ¬ (1 : Nat) = 2 by decide) (Or.inr (xI_cat _)) (xk_k (show ¬ (0 : Nat) = 2 by decide) (Or.inl (show ¬ (0 + 1 : Nat) = 2 by decide)) xk_n)) rfl ?_
  refine xW_lv rfl (l := [(0, xR_ (a0)), (1, xI (1)), (2, xI (v182))]) (xsb_of ⟨rfl, rfl, rfl, trivial⟩ (show [2, 1, 0].Nodup by decide)) ?_
  exact k216_17   (show xin (1) by decide) (xq_gi_in e183) h
-- ChangeHouseModel.lexVariable
def xr_217 : xj_mR := (15, yX15_lexVariable, cX15_lexVariable, 2, (Option.none : Option Jvm.ClassFile.FieldType), 0, false, (8, 169), (1, 12))
set_option maxRecDepth 20000 in
theorem xr_217_e : xj_row 217 = some xr_217 := rfl
def f217_94  (r15 : Nat → Int → xj_M → Option (xj_M)) (f : Nat) (x0 : Nat) (x1 : Int) (M : xj_M) : Option (xj_M) := r15 (x0) (xwr ((x1) + (1))) M
theorem k217_94 {d f : Nat}  {r15 : Nat → Int → xj_M → Option (xj_M)}  (hr15 : ∀ {x0 : Nat} {x1 : Int} {M : xj_M} {R : xj_M}, xin x1 → r15 x0 x1 M = some R → xW (d + 2) (none, d + 2, none) xr_217 (15, [(0, xR_ x0), (1, xI x1)], [], M) (xQv R)) {x0 : Nat} {x1 : Int} {M : xj_M} {R : xj_M} (hx1 : xin x1) (h : f217_94  r15 f x0 x1 M = some R) : xW (d + 2) (none, d + 2, none) xr_217 (94, [(0, xR_ x0), (1, xI x1)], [], M) (xQv R) := by
  unfold f217_94 at h
  refine xe_iincr (i := 1) (n := 1) (by decide +kernel) (by decide) rfl (xk_k (show ¬ (0 : Nat) = 1 by decide) (Or.inr (xR_cat _)) (xk_d rfl xk_n)) rfl ?_
  refine xe_goto (off := -82) (nx := 15) (by decide +kernel) (by decide) ?_
  refine xW_lv rfl (l := [(0, xR_ (x0)), (1, xI (xwr ((x1) + (1))))]) (xsb_of ⟨rfl, rfl, trivial⟩ (show [1, 0].Nodup by decide)) ?_
  exact hr15 (xin_wr _) h
def f217_64  (r15 : Nat → Int → xj_M → Option (xj_M)) (f : Nat) (x0 : Nat) (x1 : Int) (M : xj_M) : Option (xj_M) := ((xq_gi 15 6 (x0) M).bind fun v101 => (if ¬ (v101) = (-1) then f217_94  r15 f (x0) (x1) M else ((xq_gl 15 9 (x0) M).bind fun v104 => ((xq_is 15 (x0) M).bind fun _ => ((f209  f (x0) (x1) M).bind fun R108 => ((f215  f (R108.1) R108.2).bind fun R111 => ((xq_pl 15 9 (x0) (xwl ((xwl ((64) * (v104))) + (R111.1))) R111.2).bind fun M113 => f217_94  r15 f (x0) (x1) M113)))))))
theorem k217_64 {d f : Nat}  {r15 : Nat → Int → xj_M → Option (xj_M)}  (hr15 : ∀ {x0 : Nat} {x1 : Int} {M : xj_M} {R : xj_M}, xin x1 → r15 x0 x1 M = some R → xW (d + 2) (none, d + 2, none) xr_217 (15, [(0, xR_ x0), (1, xI x1)], [], M) (xQv R)) {x0 : Nat} {x1 : Int} {M : xj_M} {R : xj_M} (hx1 : xin x1) (h : f217_64  r15 f x0 x1 M = some R) : xW (d + 2) (none, d + 2, none) xr_217 (64, [(0, xR_ x0), (1, xI x1)], [], M) (xQv R) := by
  unfold f217_64 at h
  refine xe_alr (ins := .aload_n 0) (len := 1) (i := 0) (by decide +kernel) rfl rfl rfl rfl rfl ?_
  obtain ⟨v101, e102, h⟩ := xbnd h
  refine xs_gi (i := 32) (c := 15) (k := 6) (by decide +kernel) (by decide) (by decide +kernel) e102 rfl ?_
  refine xe_iconst (n := -1) (by decide +kernel) rfl ?_
  refine xe_icmpne (off := 25) (t := 94) (by decide +kernel) (by decide) rfl (xq_gi_in e102) (show xin (-1) by decide) (fun c103 => ?_) (fun c103 => ?_)
  · rw [if_pos c103] at h
    refine xW_lv rfl (l := [(0, xR_ (x0)), (1, xI (x1))]) (xsb_of ⟨rfl, rfl, trivial⟩ (show [0, 1].Nodup by decide)) ?_
    exact k217_94  hr15 hx1 h
  · rw [if_neg c103] at h
    refine xe_alr (ins := .aload_n 0) (len := 1) (i := 0) (by decide +kernel) rfl rfl rfl rfl rfl ?_
    refine xe_ldc2 (i := 89) (n := 64) (by decide +kernel) (by decide +kernel) rfl ?_
    refine xe_alr (ins := .aload_n 0) (len := 1) (i := 0) (by decide +kernel) rfl rfl rfl rfl rfl ?_
    obtain ⟨v104, e105, h⟩ := xbnd h
    refine xs_gl (i := 71) (c := 15) (k := 9) (by decide +kernel) (by decide) (by decide +kernel) e105 rfl ?_
    refine xe_lmul (by decide +kernel) rfl ?_
    refine xe_alr (ins := .aload_n 0) (len := 1) (i := 0) (by decide +kernel) rfl rfl rfl rfl rfl ?_
    refine xe_ldn (ins := .iload_n 1) (len := 1) (by decide +kernel) rfl rfl rfl rfl ?_
    obtain ⟨_, e107, h⟩ := xbnd h
    obtain ⟨R108, e106, h⟩ := xbnd h
    refine xs_cv (i := 39) (j := 209) (ar := [xI (x1)]) (rest := [xZ (xwl ((64) * (v104))), xR_ (x0)]) (r2 := xr_209) (by decide +kernel) (by decide +kernel) (by decide +kernel) xr_209_e rfl (by decide) (by simp only [List.map_cons, List.map_nil, List.sum_cons, List.sum_nil, xR_cat, xI_cat, xZ_cat]; decide) e107 ?_
    refine xc_i (k209 (d := d + 1)  hx1 e106) rfl (fun hi109 => ?_)
    obtain ⟨R111, e110, h⟩ := xbnd h
    refine xs_cs (kd := 2) (by decide) (i := 77) (j := 215) (ar := [xI (R108.1)]) (rest := [xZ (xwl ((64) * (v104))), xR_ (x0)]) (r2 := xr_215) (by decide +kernel) (by decide +kernel) (by decide +kernel) xr_215_e rfl (by simp only [List.map_cons, List.map_nil, List.sum_cons, List.sum_nil, xR_cat, xI_cat, xZ_cat]; decide) ?_
    refine xc_i (k215 (d := d + 0)  hi109 e110) rfl (fun hi112 => ?_)
    refine xe_i2l (by decide +kernel) rfl hi112 ?_
    refine xe_ladd (by decide +kernel) rfl ?_
    obtain ⟨M113, e114, h⟩ := xbnd h
    refine xs_p (i := 71) (c := 15) (k := 9) (by decide +kernel) (by decide +kernel) (by decide +kernel) e114 rfl ?_
    refine xW_lv rfl (l := [(0, xR_ (x0)), (1, xI (x1))]) (xsb_of ⟨rfl, rfl, trivial⟩ (show [0, 1].Nodup by decide)) ?_
    exact k217_94  hr15 hx1 h
def f217_48  (r15 : Nat → Int → xj_M → Option (xj_M)) (f : Nat) (x0 : Nat) (x1 : Int) (M : xj_M) : Option (xj_M) := ((xq_gi 15 4 (x0) M).bind fun v115 => (if ¬ (x1) = (xwr ((v115) + (8))) then f217_64  r15 f (x0) (x1) M else ((xq_pi 15 6 (x0) (x1) M).bind fun M118 => f217_64  r15 f (x0) (x1) M118)))
theorem k217_48 {d f : Nat}  {r15 : Nat → Int → xj_M → Option (xj_M)}  (hr15 : ∀ {x0 : Nat} {x1 : Int} {M : xj_M} {R : xj_M}, xin x1 → r15 x0 x1 M = some R → xW (d + 2) (none, d + 2, none) xr_217 (15, [(0, xR_ x0), (1, xI x1)], [], M) (xQv R)) {x0 : Nat} {x1 : Int} {M : xj_M} {R : xj_M} (hx1 : xin x1) (h : f217_48  r15 f x0 x1 M = some R) : xW (d + 2) (none, d + 2, none) xr_217 (48, [(0, xR_ x0), (1, xI x1)], [], M) (xQv R) := by
  unfold f217_48 at h
  refine xe_ldn (ins := .iload_n 1) (len := 1) (by decide +kernel) rfl rfl rfl rfl ?_
  refine xe_alr (ins := .aload_n 0) (len := 1) (i := 0) (by decide +kernel) rfl rfl rfl rfl rfl ?_
  obtain ⟨v115, e116, h⟩ := xbnd h
  refine xs_gi (i := 43) (c := 15) (k := 4) (by decide +kernel) (by decide) (by decide +kernel) e116 rfl ?_
  refine xe_bipush (n := 8) (by decide +kernel) (by decide) rfl ?_
  refine xe_iadd (by decide +kernel) rfl ?_
  refine xe_icmpne (off := 8) (t := 64) (by decide +kernel) (by decide) rfl hx1 (xin_wr _) (fun c117 => ?_) (fun c117 => ?_)
  · rw [if_pos c117] at h
    refine xW_lv rfl (l := [(0, xR_ (x0)), (1, xI (x1))]) (xsb_of ⟨rfl, rfl, trivial⟩ (show [0, 1].Nodup by decide)) ?_
    exact k217_64  hr15 hx1 h
  · rw [if_neg c117] at h
    refine xe_alr (ins := .aload_n 0) (len := 1) (i := 0) (by decide +kernel) rfl rfl rfl rfl rfl ?_
    refine xe_ldn (ins := .iload_n 1) (len := 1) (by decide +kernel) rfl rfl rfl rfl ?_
    obtain ⟨M118, e119, h⟩ := xbnd h
    refine xs_p (i := 32) (c := 15) (k := 6) (by decide +kernel) (by decide +kernel) (by decide +kernel) e119 rfl ?_
    refine xW_lv rfl (l := [(0, xR_ (x0)), (1, xI (x1))]) (xsb_of ⟨rfl, rfl, trivial⟩ (show [0, 1].Nodup by decide)) ?_
    exact k217_64  hr15 hx1 h
def f217_15b  (r15 : Nat → Int → xj_M → Option (xj_M)) (f : Nat) (x0 : Nat) (x1 : Int) (M : xj_M) : Option (xj_M) := ((xq_is 15 (x0) M).bind fun _ => ((f209  f (x0) (x1) M).bind fun R122 => ((f206  f (R122.1) R122.2).bind fun R125 => (if ¬ (R125.1) = 0 then f217_48  r15 f (x0) (x1) R125.2 else ((xq_is 15 (x0) R125.2).bind fun _ => ((f209  f (x0) (x1) R125.2).bind fun R130 => ((f207  f (R130.1) R130.2).bind fun R133 => (if ¬ (R133.1) = 0 then f217_48  r15 f (x0) (x1) R133.2 else ((xq_is 15 (x0) R133.2).bind fun _ => ((f209  f (x0) (x1) R133.2).bind fun R138 => ((f208  f (R138.1) R138.2).bind fun R141 => (if (R141.1) = 0 then ((xq_pi 15 5 (x0) (x1) R141.2).bind fun M144 => (some M144)) else f217_48  r15 f (x0) (x1) R141.2))))))))))))
theorem k217_15b {d f : Nat}  {r15 : Nat → Int → xj_M → Option (xj_M)}  (hr15 : ∀ {x0 : Nat} {x1 : Int} {M : xj_M} {R : xj_M}, xin x1 → r15 x0 x1 M = some R → xW (d + 2) (none, d + 2, none) xr_217 (15, [(0, xR_ x0), (1, xI x1)], [], M) (xQv R)) {x0 : Nat} {x1 : Int} {M : xj_M} {R : xj_M} (hx1 : xin x1) (h : f217_15b  r15 f x0 x1 M = some R) : xW (d + 2) (none, d + 2, none) xr_217 (15, [(0, xR_ x0), (1, xI x1)], [], M) (xQv R) := by
  unfold f217_15b at h
  refine xe_alr (ins := .aload_n 0) (len := 1) (i := 0) (by decide +kernel) rfl rfl rfl rfl rfl ?_
  refine xe_ldn (ins := .iload_n 1) (len := 1) (by decide +kernel) rfl rfl rfl rfl ?_
  obtain ⟨_, e121, h⟩ := xbnd h
  obtain ⟨R122, e120, h⟩ := xbnd h
  refine xs_cv (i := 39) (j := 209) (ar := [xI (x1)]) (rest := []) (r2 := xr_209) (by decide +kernel) (by decide +kernel) (by decide +kernel) xr_209_e rfl (by decide) (by decide) e121 ?_
  refine xc_i (k209 (d := d + 1)  hx1 e120) rfl (fun hi123 => ?_)
  obtain ⟨R125, e124, h⟩ := xbnd h
  refine xs_cs (kd := 2) (by decide) (i := 49) (j := 206) (ar := [xI (R122.1)]) (rest := []) (r2 := xr_206) (by decide +kernel) (by decide +kernel) (by decide +kernel) xr_206_e rfl (by decide) ?_
  refine xc_i (k206 (d := d + 1)  hi123 e124) rfl (fun hi126 => ?_)
  refine xe_ifne (off := 25) (t := 48) (by decide +kernel) (by decide) rfl hi126 (fun c127 => ?_) (fun c127 => ?_)
  · rw [if_pos c127] at h
    refine xW_lv rfl (l := [(0, xR_ (x0)), (1, xI (x1))]) (xsb_of ⟨rfl, rfl, trivial⟩ (show [0, 1].Nodup by decide)) ?_
    exact k217_48  hr15 hx1 h
  · rw [if_neg c127] at h
    refine xe_alr (ins := .aload_n 0) (len := 1) (i := 0) (by decide +kernel) rfl rfl rfl rfl rfl ?_
    refine xe_ldn (ins := .iload_n 1) (len := 1) (by decide +kernel) rfl rfl rfl rfl ?_
    obtain ⟨_, e129, h⟩ := xbnd h
    obtain ⟨R130, e128, h⟩ := xbnd h
    refine xs_cv (i := 39) (j := 209) (ar := [xI (x1)]) (rest := []) (r2 := xr_209) (by decide +kernel) (by decide +kernel) (by decide +kernel) xr_209_e rfl (by decide) (by decide) e129 ?_
    refine xc_i (k209 (d := d + 1)  hx1 e128) rfl (fun hi131 => ?_)
    obtain ⟨R133, e132, h⟩ := xbnd h
    refine xs_cs (kd := 2) (by decide) (i := 56) (j := 207) (ar := [xI (R130.1)]) (rest := []) (r2 := xr_207) (by decide +kernel) (by decide +kernel) (by decide +kernel) xr_207_e rfl (by decide) ?_
    refine xc_i (k207 (d := d + 1)  hi131 e132) rfl (fun hi134 => ?_)
    refine xe_ifne (off := 14) (t := 48) (by decide +kernel) (by decide) rfl hi134 (fun c135 => ?_) (fun c135 => ?_)
    · rw [if_pos c135] at h
      refine xW_lv rfl (l := [(0, xR_ (x0)), (1, xI (x1))]) (xsb_of ⟨rfl, rfl, trivial⟩ (show [0, 1].Nodup by decide)) ?_
      exact k217_48  hr15 hx1 h
    · rw [if_neg c135] at h
      refine xe_alr (ins := .aload_n 0) (len := 1) (i := 0) (by decide +kernel) rfl rfl rfl rfl rfl ?_
      refine xe_ldn (ins := .iload_n 1) (len := 1) (by decide +kernel) rfl rfl rfl rfl ?_
      obtain ⟨_, e137, h⟩ := xbnd h
      obtain ⟨R138, e136, h⟩ := xbnd h
      refine xs_cv (i := 39) (j := 209) (ar := [xI (x1)]) (rest := []) (r2 := xr_209) (by decide +kernel) (by decide +kernel) (by decide +kernel) xr_209_e rfl (by decide) (by decide) e137 ?_
      refine xc_i (k209 (d := d + 1)  hx1 e136) rfl (fun hi139 => ?_)
      obtain ⟨R141, e140, h⟩ := xbnd h
      refine xs_cs (kd := 2) (by decide) (i := 62) (j := 208) (ar := [xI (R138.1)]) (rest := []) (r2 := xr_208) (by decide +kernel) (by decide +kernel) (by decide +kernel) xr_208_e rfl (by decide) ?_
      refine xc_i (k208 (d := d + 1)  hi139 e140) rfl (fun hi142 => ?_)
      refine xe_ifeq (off := 55) (t := 100) (by decide +kernel) (by decide) rfl hi142 (fun c143 => ?_) (fun c143 => ?_)
      · rw [if_pos c143] at h
        refine xe_alr (ins := .aload_n 0) (len := 1) (i := 0) (by decide +kernel) rfl rfl rfl rfl rfl ?_
        refine xe_ldn (ins := .iload_n 1) (len := 1) (by decide +kernel) rfl rfl rfl rfl ?_
        obtain ⟨M144, e145, h⟩ := xbnd h
        refine xs_p (i := 14) (c := 15) (k := 5) (by decide +kernel) (by decide +kernel) (by decide +kernel) e145 rfl ?_
        cases h
        exact xe_ret_v (by decide +kernel) rfl ⟨rfl, rfl⟩
      · rw [if_neg c143] at h
        refine xW_lv rfl (l := [(0, xR_ (x0)), (1, xI (x1))]) (xsb_of ⟨rfl, rfl, trivial⟩ (show [0, 1].Nodup by decide)) ?_
        exact k217_48  hr15 hx1 h
def f217_15   (f : Nat) : Nat → Nat → Int → xj_M → Option (xj_M)
  | 0, _, _, _ => none
  | n + 1, x0, x1, M => f217_15b   (f217_15   f n) f x0 x1 M
theorem k217_15 {d f : Nat}     : ∀ {n : Nat} {x0 : Nat} {x1 : Int} {M : xj_M} {R : xj_M}, xin x1 → f217_15   f n x0 x1 M = some R → xW (d + 2) (none, d + 2, none) xr_217 (15, [(0, xR_ x0), (1, xI x1)], [], M) (xQv R) := by
  intro n
  induction n with
  | zero => intros; rename_i h; cases h
  | succ n ih => intros; rename_i h; exact k217_15b   ih (by assumption) h
def f217  (f : Nat) (a0 : Nat) (M : xj_M) : Option (xj_M) := ((xq_pi 15 2 (a0) (3) M).bind fun M146 => ((xq_pl 15 9 (a0) (0) M146).bind fun M148 => ((xq_gi 15 4 (a0) M148).bind fun v150 => f217_15   f f (a0) (v150) M148)))
theorem k217 {d f : Nat}   {a0 : Nat} {M : xj_M} {R : xj_M}  (h : f217  f a0 M = some R) : xT (d + 3) 217 [xR_ a0] M (xQv R) := by
  refine xT_m xr_217_e (X := (none, d + 2, none)) rfl (xa_1 (xR_cat _) xa_n) (by decide) ?_
  unfold f217 at h
  refine xe_alr (ins := .aload_n 0) (len := 1) (i := 0) (by decide +kernel) rfl rfl rfl rfl rfl ?_
  refine xe_iconst (n := 3) (by decide +kernel) rfl ?_
  obtain ⟨M146, e147, h⟩ := xbnd h
  refine xs_p (i := 46) (c := 15) (k := 2) (by decide +kernel) (by decide +kernel) (by decide +kernel) e147 rfl ?_
  refine xe_alr (ins := .aload_n 0) (len := 1) (i := 0) (by decide +kernel) rfl rfl rfl rfl rfl ?_
  refine xe_lconst (n := 0) (z := 0) (by decide +kernel) rfl rfl ?_
  obtain ⟨M148, e149, h⟩ := xbnd h
  refine xs_p (i := 71) (c := 15) (k := 9) (by decide +kernel) (by decide +kernel) (by decide +kernel) e149 rfl ?_
  refine xe_alr (ins := .aload_n 0) (len := 1) (i := 0) (by decide +kernel) rfl rfl rfl rfl rfl ?_
  obtain ⟨v150, e151, h⟩ := xbnd h
  refine xs_gi (i := 43) (c := 15) (k := 4) (by decide +kernel) (by decide) (by decide +kernel) e151 rfl ?_
  refine xe_isr (ins := .istore_n 1) (len := 1) (i := 1) (by decide +kernel) rfl rfl rfl (by decide) (xk_k (show ¬ (0 : Nat) = 1 by decide) (Or.inr (xR_cat _)) xk_n) rfl ?_
  refine xW_lv rfl (l := [(0, xR_ (a0)), (1, xI (v150))]) (xsb_of ⟨rfl, rfl, trivial⟩ (show [1, 0].Nodup by decide)) ?_
  exact k217_15   (xq_gi_in e151) h
-- ChangeHouseModel.lexNumber
def xr_218 : xj_mR := (15, yX15_lexNumber, cX15_lexNumber, 3, (Option.none : Option Jvm.ClassFile.FieldType), 0, false, (8, 174), (1, 12))
set_option maxRecDepth 20000 in
theorem xr_218_e : xj_row 218 = some xr_218 := rfl
def f218_54  (r31 : Nat → Int → Int → xj_M → Option (xj_M)) (f : Nat) (x0 : Nat) (x1 : Int) (x2 : Int) (M : xj_M) : Option (xj_M) := ((xq_gl 15 9 (x0) M).bind fun v101 => ((xq_is 15 (x0) M).bind fun _ => ((f209  f (x0) (x1) M).bind fun R105 => ((xq_pl 15 9 (x0) (xmin (4000000000000) (xwl ((xwl ((xwl ((10) * (v101))) + (R105.1))) - (48)))) R105.2).bind fun M107 => r31 (x0) (xwr ((x1) + (1))) (x2) M107))))
theorem k218_54 {d f : Nat}  {r31 : Nat → Int → Int → xj_M → Option (xj_M)}  (hr31 : ∀ {x0 : Nat} {x1 : Int} {x2 : Int} {M : xj_M} {R : xj_M}, xin x1 → xin x2 → r31 x0 x1 x2 M = some R → xW (d + 1) (none, d + 1, none) xr_218 (31, [(0, xR_ x0), (1, xI x1), (2, xI x2)], [], M) (xQv R)) {x0 : Nat} {x1 : Int} {x2 : Int} {M : xj_M} {R : xj_M} (hx1 : xin x1) (hx2 : xin x2) (h : f218_54  r31 f x0 x1 x2 M = some R) : xW (d + 1) (none, d + 1, none) xr_218 (54, [(0, xR_ x0), (1, xI x1), (2, xI x2)], [], M) (xQv R) := by
  unfold f218_54 at h
  refine xe_alr (ins := .aload_n 0) (len := 1) (i := 0) (by decide +kernel) rfl rfl rfl rfl rfl ?_
  refine xe_ldc2 (i := 91) (n := 4000000000000) (by decide +kernel) (by decide +kernel) rfl ?_
  refine xe_ldc2 (i := 93) (n := 10) (by decide +kernel) (by decide +kernel) rfl ?_
  refine xe_alr (ins := .aload_n 0) (len := 1) (i := 0) (by decide +kernel) rfl rfl rfl rfl rfl ?_
  obtain ⟨v101, e102, h⟩ := xbnd h
  refine xs_gl (i := 71) (c := 15) (k := 9) (by decide +kernel) (by decide) (by decide +kernel) e102 rfl ?_
  refine xe_lmul (by decide +kernel) rfl ?_
  refine xe_alr (ins := .aload_n 0) (len := 1) (i := 0) (by decide +kernel) rfl rfl rfl rfl rfl ?_
  refine xe_ldn (ins := .iload_n 1) (len := 1) (by decide +kernel) rfl rfl rfl rfl ?_
  obtain ⟨_, e104, h⟩ := xbnd h
  obtain ⟨R105, e103, h⟩ := xbnd h
  refine xs_cv (i := 39) (j := 209) (ar := [xI (x1)]) (rest := [xZ (xwl ((10) * (v101))), xZ (4000000000000), xR_ (x0)]) (r2 := xr_209) (by decide +kernel) (by decide +kernel) (by decide +kernel) xr_209_e rfl (by decide) (by simp only [List.map_cons, List.map_nil, List.sum_cons, List.sum_nil, xR_cat, xI_cat, xZ_cat]; decide) e104 ?_
  refine xc_i (k209 (d := d + 0)  hx1 e103) rfl (fun hi106 => ?_)
  refine xe_i2l (by decide +kernel) rfl hi106 ?_
  refine xe_ladd (by decide +kernel) rfl ?_
  refine xe_ldc2 (i := 95) (n := 48) (by decide +kernel) (by decide +kernel) rfl ?_
  refine xe_lsub (by decide +kernel) rfl ?_
  refine xe_xmnl (i := 97) (by decide +kernel) (by decide +kernel) (by decide +kernel) (by unfold xj_small; simp only [List.map_cons, List.map_nil, List.sum_cons, List.sum_nil, xR_cat, xI_cat, xZ_cat]; decide) rfl (show xiN (4000000000000) by decide) (xiN_wl _) ?_
  obtain ⟨M107, e108, h⟩ := xbnd h
  refine xs_p (i := 71) (c := 15) (k := 9) (by decide +kernel) (by decide +kernel) (by decide +kernel) e108 rfl ?_
  refine xe_iincr (i := 1) (n := 1) (by decide +kernel) (by decide) rfl (xk_k (show ¬ (0 : Nat) = 1 by decide) (Or.inr (xR_cat _)) (xk_d rfl (xk_k (show ¬ (2 : Nat) = 1 by decide) (Or.inl (show ¬ (2 + 1 : Nat) = 1 by decide)) xk_n))) rfl ?_
  refine xe_goto (off := -55) (nx := 31) (by decide +kernel) (by decide) ?_
  refine xW_lv rfl (l := [(0, xR_ (x0)), (1, xI (xwr ((x1) + (1)))), (2, xI (x2))]) (xsb_of ⟨rfl, rfl, rfl, trivial⟩ (show [1, 0, 2].Nodup by decide)) ?_
  exact hr31 (xin_wr _) hx2 h
def f218_110   (f : Nat)  (M : xj_M) : Option (xj_M) := (some M)
theorem k218_110 {d f : Nat}      {M : xj_M} {R : xj_M}  (h : f218_110   f  M = some R) : xW (d + 1) (none, d + 1, none) xr_218 (110, [], [], M) (xQv R) := by
  unfold f218_110 at h
  cases h
  exact xe_ret_v (by decide +kernel) rfl ⟨rfl, rfl⟩
def f218_89   (f : Nat) (x0 : Nat) (x1 : Int) (M : xj_M) : Option (xj_M) := ((xq_pi 15 5 (x0) (x1) M).bind fun M109 => ((xq_gl 15 9 (x0) M109).bind fun v111 => (if (v111) ≤ (1000000000000) then f218_110   f  M109 else ((xq_pi 15 2 (x0) (1) M109).bind fun M114 => f218_110   f  M114))))
theorem k218_89 {d f : Nat}     {x0 : Nat} {x1 : Int} {M : xj_M} {R : xj_M} (hx1 : xin x1) (h : f218_89   f x0 x1 M = some R) : xW (d + 1) (none, d + 1, none) xr_218 (89, [(0, xR_ x0), (1, xI x1)], [], M) (xQv R) := by
  unfold f218_89 at h
  refine xe_alr (ins := .aload_n 0) (len := 1) (i := 0) (by decide +kernel) rfl rfl rfl rfl rfl ?_
  refine xe_ldn (ins := .iload_n 1) (len := 1) (by decide +kernel) rfl rfl rfl rfl ?_
  obtain ⟨M109, e110, h⟩ := xbnd h
  refine xs_p (i := 14) (c := 15) (k := 5) (by decide +kernel) (by decide +kernel) (by decide +kernel) e110 rfl ?_
  refine xe_alr (ins := .aload_n 0) (len := 1) (i := 0) (by decide +kernel) rfl rfl rfl rfl rfl ?_
  obtain ⟨v111, e112, h⟩ := xbnd h
  refine xs_gl (i := 71) (c := 15) (k := 9) (by decide +kernel) (by decide) (by decide +kernel) e112 rfl ?_
  refine xe_ldc2 (i := 103) (n := 1000000000000) (by decide +kernel) (by decide +kernel) rfl ?_
  refine xe_lcmp (by decide +kernel) rfl (xq_gl_in e112) (show xiN (1000000000000) by decide) ?_
  refine xe_ifle (off := 8) (t := 110) (by decide +kernel) (by decide) rfl (xin_cmp8 _ _) (fun c113 => ?_) (fun c113 => ?_)
  · have c113 := xcmp8_le.mp c113; rw [if_pos c113] at h
    refine xW_lv rfl (l := []) (xsb_of trivial (show [0, 1].Nodup by decide)) ?_
    exact k218_110    h
  · have c113 := (not_congr xcmp8_le).mp c113; rw [if_neg c113] at h
    refine xe_alr (ins := .aload_n 0) (len := 1) (i := 0) (by decide +kernel) rfl rfl rfl rfl rfl ?_
    refine xe_iconst (n := 1) (by decide +kernel) rfl ?_
    obtain ⟨M114, e115, h⟩ := xbnd h
    refine xs_p (i := 46) (c := 15) (k := 2) (by decide +kernel) (by decide +kernel) (by decide +kernel) e115 rfl ?_
    refine xW_lv rfl (l := []) (xsb_of trivial (show [0, 1].Nodup by decide)) ?_
    exact k218_110    h
def f218_31b  (r31 : Nat → Int → Int → xj_M → Option (xj_M)) (f : Nat) (x0 : Nat) (x1 : Int) (x2 : Int) (M : xj_M) : Option (xj_M) := ((xq_is 15 (x0) M).bind fun _ => ((f209  f (x0) (x1) M).bind fun R118 => ((f208  f (R118.1) R118.2).bind fun R121 => (if (R121.1) = 0 then f218_89   f (x0) (x1) R121.2 else (if (x2) = 0 then f218_54  r31 f (x0) (x1) (x2) R121.2 else ((xq_gi 15 4 (x0) R121.2).bind fun v125 => (if ¬ (x1) = (v125) then f218_89   f (x0) (x1) R121.2 else f218_54  r31 f (x0) (x1) (x2) R121.2)))))))
theorem k218_31b {d f : Nat}  {r31 : Nat → Int → Int → xj_M → Option (xj_M)}  (hr31 : ∀ {x0 : Nat} {x1 : Int} {x2 : Int} {M : xj_M} {R : xj_M}, xin x1 → xin x2 → r31 x0 x1 x2 M = some R → xW (d + 1) (none, d + 1, none) xr_218 (31, [(0, xR_ x0), (1, xI x1), (2, xI x2)], [], M) (xQv R)) {x0 : Nat} {x1 : Int} {x2 : Int} {M : xj_M} {R : xj_M} (hx1 : xin x1) (hx2 : xin x2) (h : f218_31b  r31 f x0 x1 x2 M = some R) : xW (d + 1) (none, d + 1, none) xr_218 (31, [(0, xR_ x0), (1, xI x1), (2, xI x2)], [], M) (xQv R) := by
  unfold f218_31b at h
  refine xe_alr (ins := .aload_n 0) (len := 1) (i := 0) (by decide +kernel) rfl rfl rfl rfl rfl ?_
  refine xe_ldn (ins := .iload_n 1) (len := 1) (by decide +kernel) rfl rfl rfl rfl ?_
  obtain ⟨_, e117, h⟩ := xbnd h
  obtain ⟨R118, e116, h⟩ := xbnd h
  refine xs_cv (i := 39) (j := 209) (ar := [xI (x1)]) (rest := []) (r2 := xr_209) (by decide +kernel) (by decide +kernel) (by decide +kernel) xr_209_e rfl (by decide) (by decide) e117 ?_
  refine xc_i (k209 (d := d + 0)  hx1 e116) rfl (fun hi119 => ?_)
  obtain ⟨R121, e120, h⟩ := xbnd h
  refine xs_cs (kd := 2) (by decide) (i := 62) (j := 208) (ar := [xI (R118.1)]) (rest := []) (r2 := xr_208) (by decide +kernel) (by decide +kernel) (by decide +kernel) xr_208_e rfl (by decide) ?_
  refine xc_i (k208 (d := d + 0)  hi119 e120) rfl (fun hi122 => ?_)
  refine xe_ifeq (off := 50) (t := 89) (by decide +kernel) (by decide) rfl hi122 (fun c123 => ?_) (fun c123 => ?_)
  · rw [if_pos c123] at h
    refine xW_lv rfl (l := [(0, xR_ (x0)), (1, xI (x1))]) (xsb_of ⟨rfl, rfl, trivial⟩ (show [0, 1, 2].Nodup by decide)) ?_
    exact k218_89   hx1 h
  · rw [if_neg c123] at h
    refine xe_ldn (ins := .iload_n 2) (len := 1) (by decide +kernel) rfl rfl rfl rfl ?_
    refine xe_ifeq (off := 11) (t := 54) (by decide +kernel) (by decide) rfl hx2 (fun c124 => ?_) (fun c124 => ?_)
    · rw [if_pos c124] at h
      refine xW_lv rfl (l := [(0, xR_ (x0)), (1, xI (x1)), (2, xI (x2))]) (xsb_of ⟨rfl, rfl, rfl, trivial⟩ (show [0, 1, 2].Nodup by decide)) ?_
      exact k218_54  hr31 hx1 hx2 h
    · rw [if_neg c124] at h
      refine xe_ldn (ins := .iload_n 1) (len := 1) (by decide +kernel) rfl rfl rfl rfl ?_
      refine xe_alr (ins := .aload_n 0) (len := 1) (i := 0) (by decide +kernel) rfl rfl rfl rfl rfl ?_
      obtain ⟨v125, e126, h⟩ := xbnd h
      refine xs_gi (i := 43) (c := 15) (k := 4) (by decide +kernel) (by decide) (by decide +kernel) e126 rfl ?_
      refine xe_icmpne (off := 38) (t := 89) (by decide +kernel) (by decide) rfl hx1 (xq_gi_in e126) (fun c127 => ?_) (fun c127 => ?_)
      · rw [if_pos c127] at h
        refine xW_lv rfl (l := [(0, xR_ (x0)), (1, xI (x1))]) (xsb_of ⟨rfl, rfl, trivial⟩ (show [0, 1, 2].Nodup by decide)) ?_
        exact k218_89   hx1 h
      · rw [if_neg c127] at h
        refine xW_lv rfl (l := [(0, xR_ (x0)), (1, xI (x1)), (2, xI (x2))]) (xsb_of ⟨rfl, rfl, rfl, trivial⟩ (show [0, 1, 2].Nodup by decide)) ?_
        exact k218_54  hr31 hx1 hx2 h
def f218_31   (f : Nat) : Nat → Nat → Int → Int → xj_M → Option (xj_M)
  | 0, _, _, _, _ => none
  | n + 1, x0, x1, x2, M => f218_31b   (f218_31   f n) f x0 x1 x2 M
theorem k218_31 {d f : Nat}     : ∀ {n : Nat} {x0 : Nat} {x1 : Int} {x2 : Int} {M : xj_M} {R : xj_M}, xin x1 → xin x2 → f218_31   f n x0 x1 x2 M = some R → xW (d + 1) (none, d + 1, none) xr_218 (31, [(0, xR_ x0), (1, xI x1), (2, xI x2)], [], M) (xQv R) := by
  intro n
  induction n with
  | zero => intros; rename_i h; cases h
  | succ n ih => intros; rename_i h; exact k218_31b   ih (by assumption) (by assumption) h
def f218_30   (f : Nat) (x0 : Nat) (x1 : Int) (y0 : Int) (M : xj_M) : Option (xj_M) := f218_31   f f (x0) (x1) (y0) M
theorem k218_30 {d f : Nat}     {x0 : Nat} {x1 : Int} {y0 : Int} {M : xj_M} {R : xj_M} (hx1 : xin x1) (hy0 : xin y0) (h : f218_30   f x0 x1 y0 M = some R) : xW (d + 1) (none, d + 1, none) xr_218 (30, [(0, xR_ x0), (1, xI x1)], [xI y0], M) (xQv R) := by
  unfold f218_30 at h
  refine xe_isr (ins := .istore_n 2) (len := 1) (i := 2) (by decide +kernel) rfl rfl rfl (by decide) (xk_k (show ¬ (0 : Nat) = 2 by decide) (Or.inl (show ¬ (0 + 1 : Nat) = 2 by decide)) (xk_k (show ¬ (1 : Nat) = 2 by decide) (Or.inr (xI_cat _)) xk_n)) rfl ?_
  refine xW_lv rfl (l := [(0, xR_ (x0)), (1, xI (x1)), (2, xI (y0))]) (xsb_of ⟨rfl, rfl, rfl, trivial⟩ (show [2, 0, 1].Nodup by decide)) ?_
  exact k218_31   hx1 hy0 h
def f218  (f : Nat) (a0 : Nat) (M : xj_M) : Option (xj_M) := ((xq_pi 15 2 (a0) (5) M).bind fun M128 => ((xq_pl 15 9 (a0) (0) M128).bind fun M130 => ((xq_gi 15 4 (a0) M130).bind fun v132 => ((xq_is 15 (a0) M130).bind fun _ => ((f209  f (a0) (v132) M130).bind fun R136 => (if ¬ (R136.1) = (48) then f218_30   f (a0) (v132) (0) R136.2 else f218_30   f (a0) (v132) (1) R136.2))))))
theorem k218 {d f : Nat}   {a0 : Nat} {M : xj_M} {R : xj_M}  (h : f218  f a0 M = some R) : xT (d + 2) 218 [xR_ a0] M (xQv R) := by
  refine xT_m xr_218_e (X := (none, d + 1, none)) rfl (xa_1 (xR_cat _) xa_n) (by decide) ?_
  unfold f218 at h
  refine xe_alr (ins := .aload_n 0) (len := 1) (i := 0) (by decide +kernel) rfl rfl rfl rfl rfl ?_
  refine xe_iconst (n := 5) (by decide +kernel) rfl ?_
  obtain ⟨M128, e129, h⟩ := xbnd h
  refine xs_p (i := 46) (c := 15) (k := 2) (by decide +kernel) (by decide +kernel) (by decide +kernel) e129 rfl ?_
  refine xe_alr (ins := .aload_n 0) (len := 1) (i := 0) (by decide +kernel) rfl rfl rfl rfl rfl ?_
  refine xe_lconst (n := 0) (z := 0) (by decide +kernel) rfl rfl ?_
  obtain ⟨M130, e131, h⟩ := xbnd h
  refine xs_p (i := 71) (c := 15) (k := 9) (by decide +kernel) (by decide +kernel) (by decide +kernel) e131 rfl ?_
  refine xe_alr (ins := .aload_n 0) (len := 1) (i := 0) (by decide +kernel) rfl rfl rfl rfl rfl ?_
  obtain ⟨v132, e133, h⟩ := xbnd h
  refine xs_gi (i := 43) (c := 15) (k := 4) (by decide +kernel) (by decide) (by decide +kernel) e133 rfl ?_
  refine xe_isr (ins := .istore_n 1) (len := 1) (i := 1) (by decide +kernel) rfl rfl rfl (by decide) (xk_k (show ¬ (0 : Nat) = 1 by decide) (Or.inr (xR_cat _)) xk_n) rfl ?_
  refine xe_alr (ins := .aload_n 0) (len := 1) (i := 0) (by decide +kernel) rfl rfl rfl rfl rfl ?_
  refine xe_ldn (ins := .iload_n 1) (len := 1) (by decide +kernel) rfl rfl rfl rfl ?_
  obtain ⟨_, e135, h⟩ := xbnd h
  obtain ⟨R136, e134, h⟩ := xbnd h
  refine xs_cv (i := 39) (j := 209) (ar := [xI (v132)]) (rest := []) (r2 := xr_209) (by decide +kernel) (by decide +kernel) (by decide +kernel) xr_209_e rfl (by decide) (by decide) e135 ?_
  refine xc_i (k209 (d := d + 0)  (xq_gi_in e133) e134) rfl (fun hi137 => ?_)
  refine xe_bipush (n := 48) (by decide +kernel) (by decide) rfl ?_
  refine xe_icmpne (off := 7) (t := 29) (by decide +kernel) (by decide) rfl hi137 (show xin (48) by decide) (fun c138 => ?_) (fun c138 => ?_)
  · rw [if_pos c138] at h
    refine xe_iconst (n := 0) (by decide +kernel) rfl ?_
    refine xW_lv rfl (l := [(0, xR_ (a0)), (1, xI (v132))]) (xsb_of ⟨rfl, rfl, trivial⟩ (show [1, 0].Nodup by decide)) ?_
    exact k218_30   (xq_gi_in e133) (show xin (0) by decide) h
  · rw [if_neg c138] at h
    refine xe_iconst (n := 1) (by decide +kernel) rfl ?_
    refine xe_goto (off := 4) (nx := 30) (by decide +kernel) (by decide) ?_
    refine xW_lv rfl (l := [(0, xR_ (a0)), (1, xI (v132))]) (xsb_of ⟨rfl, rfl, trivial⟩ (show [1, 0].Nodup by decide)) ?_
    exact k218_30   (xq_gi_in e133) (show xin (1) by decide) h
-- ChangeHouseModel.isSign
def xr_220 : xj_mR := (15, yX15_isSign, cX15_isSign, 2, (Option.some Jvm.ClassFile.FieldType.boolean), 1, false, (8, 237), (1, 12))
set_option maxRecDepth 20000 in
theorem xr_220_e : xj_row 220 = some xr_220 := rfl
def f220_29   (f : Nat) (y0 : Int) (M : xj_M) : Option (Int × xj_M) := (if (y0) = 0 ∨ (y0) = 1 then some (y0, M) else none)
theorem k220_29 {d f : Nat}     {y0 : Int} {M : xj_M} {R : Int × xj_M} (hy0 : xin y0) (h : f220_29   f y0 M = some R) : xW (d + 1) (none, d + 1, none) xr_220 (29, [], [xI y0], M) (xQi R) := by
  unfold f220_29 at h
  by_cases c101 : (y0) = 0 ∨ (y0) = 1
  · rw [if_pos c101] at h; cases h; exact xe_ret_i (ty := .boolean) (by decide +kernel) rfl (xbool c101) ⟨rfl, rfl, hy0⟩
  · rw [if_neg c101] at h; cases h
def f220_28   (f : Nat)  (M : xj_M) : Option (Int × xj_M) := f220_29   f (0) M
theorem k220_28 {d f : Nat}      {M : xj_M} {R : Int × xj_M}  (h : f220_28   f  M = some R) : xW (d + 1) (none, d + 1, none) xr_220 (28, [], [], M) (xQi R) := by
  unfold f220_28 at h
  refine xe_iconst (n := 0) (by decide +kernel) rfl ?_
  refine xW_lv rfl (l := []) (xsb_of trivial (show [].Nodup by decide)) ?_
  exact k220_29   (show xin (0) by decide) h
def f220  (f : Nat) (a0 : Nat) (a1 : Int) (M : xj_M) : Option (Int × xj_M) := ((xq_is 15 (a0) M).bind fun _ => ((f211  f (a0) M).bind fun R104 => (if ¬ (R104.1) = 0 then f220_28   f  R104.2 else ((xq_gi 15 2 (a0) R104.2).bind fun v107 => (if ¬ (v107) = (6) then f220_28   f  R104.2 else ((xq_gi 15 3 (a0) R104.2).bind fun v110 => (if ¬ (v110) = (a1) then f220_28   f  R104.2 else f220_29   f (1) R104.2)))))))
theorem k220 {d f : Nat}   {a0 : Nat} {a1 : Int} {M : xj_M} {R : Int × xj_M} (ha1 : xin a1) (h : f220  f a0 a1 M = some R) : xT (d + 2) 220 [xR_ a0, xI a1] M (xQi R) := by
  refine xT_m xr_220_e (X := (none, d + 1, none)) rfl (xa_1 (xR_cat _) (xa_1 (xI_cat _) xa_n)) (by decide) ?_
  unfold f220 at h
  refine xe_alr (ins := .aload_n 0) (len := 1) (i := 0) (by decide +kernel) rfl rfl rfl rfl rfl ?_
  obtain ⟨_, e103, h⟩ := xbnd h
  obtain ⟨R104, e102, h⟩ := xbnd h
  refine xs_cv (i := 28) (j := 211) (ar := []) (rest := []) (r2 := xr_211) (by decide +kernel) (by decide +kernel) (by decide +kernel) xr_211_e rfl (by decide) (by decide) e103 ?_
  refine xc_i (k211 (d := d + 0)   e102) rfl (fun hi105 => ?_)
  refine xe_ifne (off := 24) (t := 28) (by decide +kernel) (by decide) rfl hi105 (fun c106 => ?_) (fun c106 => ?_)
  · rw [if_pos c106] at h
    refine xW_lv rfl (l := []) (xsb_of trivial (show [0, 1].Nodup by decide)) ?_
    exact k220_28    h
  · rw [if_neg c106] at h
    refine xe_alr (ins := .aload_n 0) (len := 1) (i := 0) (by decide +kernel) rfl rfl rfl rfl rfl ?_
    obtain ⟨v107, e108, h⟩ := xbnd h
    refine xs_gi (i := 46) (c := 15) (k := 2) (by decide +kernel) (by decide) (by decide +kernel) e108 rfl ?_
    refine xe_bipush (n := 6) (by decide +kernel) (by decide) rfl ?_
    refine xe_icmpne (off := 15) (t := 28) (by decide +kernel) (by decide) rfl (xq_gi_in e108) (show xin (6) by decide) (fun c109 => ?_) (fun c109 => ?_)
    · rw [if_pos c109] at h
      refine xW_lv rfl (l := []) (xsb_of trivial (show [0, 1].Nodup by decide)) ?_
      exact k220_28    h
    · rw [if_neg c109] at h
      refine xe_alr (ins := .aload_n 0) (len := 1) (i := 0) (by decide +kernel) rfl rfl rfl rfl rfl ?_
      obtain ⟨v110, e111, h⟩ := xbnd h
      refine xs_gi (i := 105) (c := 15) (k := 3) (by decide +kernel) (by decide) (by decide +kernel) e111 rfl ?_
      refine xe_ldn (ins := .iload_n 1) (len := 1) (by decide +kernel) rfl rfl rfl rfl ?_
      refine xe_icmpne (off := 7) (t := 28) (by decide +kernel) (by decide) rfl (xq_gi_in e111) ha1 (fun c112 => ?_) (fun c112 => ?_)
      · rw [if_pos c112] at h
        refine xW_lv rfl (l := []) (xsb_of trivial (show [0, 1].Nodup by decide)) ?_
        exact k220_28    h
      · rw [if_neg c112] at h
        refine xe_iconst (n := 1) (by decide +kernel) rfl ?_
        refine xe_goto (off := 4) (nx := 29) (by decide +kernel) (by decide) ?_
        refine xW_lv rfl (l := []) (xsb_of trivial (show [0, 1].Nodup by decide)) ?_
        exact k220_29   (show xin (1) by decide) h
-- ChangeHouseModel.isKind
def xr_221 : xj_mR := (15, yX15_isKind, cX15_isKind, 2, (Option.some Jvm.ClassFile.FieldType.boolean), 1, false, (8, 197), (1, 12))
set_option maxRecDepth 20000 in
theorem xr_221_e : xj_row 221 = some xr_221 := rfl
def f221_20   (f : Nat) (y0 : Int) (M : xj_M) : Option (Int × xj_M) := (if (y0) = 0 ∨ (y0) = 1 then some (y0, M) else none)
theorem k221_20 {d f : Nat}     {y0 : Int} {M : xj_M} {R : Int × xj_M} (hy0 : xin y0) (h : f221_20   f y0 M = some R) : xW (d + 1) (none, d + 1, none) xr_221 (20, [], [xI y0], M) (xQi R) := by
  unfold f221_20 at h
  by_cases c101 : (y0) = 0 ∨ (y0) = 1
  · rw [if_pos c101] at h; cases h; exact xe_ret_i (ty := .boolean) (by decide +kernel) rfl (xbool c101) ⟨rfl, rfl, hy0⟩
  · rw [if_neg c101] at h; cases h
def f221_19   (f : Nat)  (M : xj_M) : Option (Int × xj_M) := f221_20   f (0) M
theorem k221_19 {d f : Nat}      {M : xj_M} {R : Int × xj_M}  (h : f221_19   f  M = some R) : xW (d + 1) (none, d + 1, none) xr_221 (19, [], [], M) (xQi R) := by
  unfold f221_19 at h
  refine xe_iconst (n := 0) (by decide +kernel) rfl ?_
  refine xW_lv rfl (l := []) (xsb_of trivial (show [].Nodup by decide)) ?_
  exact k221_20   (show xin (0) by decide) h
def f221  (f : Nat) (a0 : Nat) (a1 : Int) (M : xj_M) : Option (Int × xj_M) := ((xq_is 15 (a0) M).bind fun _ => ((f211  f (a0) M).bind fun R104 => (if ¬ (R104.1) = 0 then f221_19   f  R104.2 else ((xq_gi 15 2 (a0) R104.2).bind fun v107 => (if ¬ (v107) = (a1) then f221_19   f  R104.2 else f221_20   f (1) R104.2)))))
theorem k221 {d f : Nat}   {a0 : Nat} {a1 : Int} {M : xj_M} {R : Int × xj_M} (ha1 : xin a1) (h : f221  f a0 a1 M = some R) : xT (d + 2) 221 [xR_ a0, xI a1] M (xQi R) := by
  refine xT_m xr_221_e (X := (none, d + 1, none)) rfl (xa_1 (xR_cat _) (xa_1 (xI_cat _) xa_n)) (by decide) ?_
  unfold f221 at h
  refine xe_alr (ins := .aload_n 0) (len := 1) (i := 0) (by decide +kernel) rfl rfl rfl rfl rfl ?_
  obtain ⟨_, e103, h⟩ := xbnd h
  obtain ⟨R104, e102, h⟩ := xbnd h
  refine xs_cv (i := 28) (j := 211) (ar := []) (rest := []) (r2 := xr_211) (by decide +kernel) (by decide +kernel) (by decide +kernel) xr_211_e rfl (by decide) (by decide) e103 ?_
  refine xc_i (k211 (d := d + 0)   e102) rfl (fun hi105 => ?_)
  refine xe_ifne (off := 15) (t := 19) (by decide +kernel) (by decide) rfl hi105 (fun c106 => ?_) (fun c106 => ?_)
  · rw [if_pos c106] at h
    refine xW_lv rfl (l := []) (xsb_of trivial (show [0, 1].Nodup by decide)) ?_
    exact k221_19    h
  · rw [if_neg c106] at h
    refine xe_alr (ins := .aload_n 0) (len := 1) (i := 0) (by decide +kernel) rfl rfl rfl rfl rfl ?_
    obtain ⟨v107, e108, h⟩ := xbnd h
    refine xs_gi (i := 46) (c := 15) (k := 2) (by decide +kernel) (by decide) (by decide +kernel) e108 rfl ?_
    refine xe_ldn (ins := .iload_n 1) (len := 1) (by decide +kernel) rfl rfl rfl rfl ?_
    refine xe_icmpne (off := 7) (t := 19) (by decide +kernel) (by decide) rfl (xq_gi_in e108) ha1 (fun c109 => ?_) (fun c109 => ?_)
    · rw [if_pos c109] at h
      refine xW_lv rfl (l := []) (xsb_of trivial (show [0, 1].Nodup by decide)) ?_
      exact k221_19    h
    · rw [if_neg c109] at h
      refine xe_iconst (n := 1) (by decide +kernel) rfl ?_
      refine xe_goto (off := 4) (nx := 20) (by decide +kernel) (by decide) ?_
      refine xW_lv rfl (l := []) (xsb_of trivial (show [0, 1].Nodup by decide)) ?_
      exact k221_20   (show xin (1) by decide) h
-- ChangeHouseModel.isReserved
def xr_224 : xj_mR := (15, yX15_isReserved, cX15_isReserved, 3, (Option.some Jvm.ClassFile.FieldType.boolean), 1, false, (8, 221), (1, 12))
set_option maxRecDepth 20000 in
theorem xr_224_e : xj_row 224 = some xr_224 := rfl
def f224_77   (f : Nat) (y0 : Int) (M : xj_M) : Option (Int × xj_M) := (if (y0) = 0 ∨ (y0) = 1 then some (y0, M) else none)
theorem k224_77 {d f : Nat}     {y0 : Int} {M : xj_M} {R : Int × xj_M} (hy0 : xin y0) (h : f224_77   f y0 M = some R) : xW (d + 0) (none, d + 0, none) xr_224 (77, [], [xI y0], M) (xQi R) := by
  unfold f224_77 at h
  by_cases c101 : (y0) = 0 ∨ (y0) = 1
  · rw [if_pos c101] at h; cases h; exact xe_ret_i (ty := .boolean) (by decide +kernel) rfl (xbool c101) ⟨rfl, rfl, hy0⟩
  · rw [if_neg c101] at h; cases h
def f224_72   (f : Nat)  (M : xj_M) : Option (Int × xj_M) := f224_77   f (1) M
theorem k224_72 {d f : Nat}      {M : xj_M} {R : Int × xj_M}  (h : f224_72   f  M = some R) : xW (d + 0) (none, d + 0, none) xr_224 (72, [], [], M) (xQi R) := by
  unfold f224_72 at h
  refine xe_iconst (n := 1) (by decide +kernel) rfl ?_
  refine xe_goto (off := 4) (nx := 77) (by decide +kernel) (by decide) ?_
  refine xW_lv rfl (l := []) (xsb_of trivial (show [].Nodup by decide)) ?_
  exact k224_77   (show xin (1) by decide) h
def f224  (f : Nat) (a0 : Nat) (a1 : Int) (M : xj_M) : Option (Int × xj_M) := ((xq_gl 15 12 (a0) M).bind fun v102 => (if (a1) = (v102) then f224_72   f  M else ((xq_gl 15 13 (a0) M).bind fun v105 => (if (a1) = (v105) then f224_72   f  M else ((xq_gl 15 14 (a0) M).bind fun v108 => (if (a1) = (v108) then f224_72   f  M else ((xq_gl 15 15 (a0) M).bind fun v111 => (if (a1) = (v111) then f224_72   f  M else ((xq_gl 15 16 (a0) M).bind fun v114 => (if (a1) = (v114) then f224_72   f  M else ((xq_gl 15 17 (a0) M).bind fun v117 => (if (a1) = (v117) then f224_72   f  M else ((xq_gl 15 18 (a0) M).bind fun v120 => (if (a1) = (v120) then f224_72   f  M else ((xq_gl 15 19 (a0) M).bind fun v123 => (if ¬ (a1) = (v123) then f224_77   f (0) M else f224_72   f  M))))))))))))))))
theorem k224 {d f : Nat}   {a0 : Nat} {a1 : Int} {M : xj_M} {R : Int × xj_M} (ha1 : xiN a1) (h : f224  f a0 a1 M = some R) : xT (d + 1) 224 [xR_ a0, xZ a1] M (xQi R) := by
  refine xT_m xr_224_e (X := (none, d + 0, none)) rfl (xa_1 (xR_cat _) (xa_2 (xZ_cat _) xa_n)) (by decide) ?_
  unfold f224 at h
  refine xe_ldn (ins := .lload_n 1) (len := 1) (by decide +kernel) rfl rfl rfl rfl ?_
  refine xe_alr (ins := .aload_n 0) (len := 1) (i := 0) (by decide +kernel) rfl rfl rfl rfl rfl ?_
  obtain ⟨v102, e103, h⟩ := xbnd h
  refine xs_gl (i := 129) (c := 15) (k := 12) (by decide +kernel) (by decide) (by decide +kernel) e103 rfl ?_
  refine xe_lcmp (by decide +kernel) rfl ha1 (xq_gl_in e103) ?_
  refine xe_ifeq (off := 66) (t := 72) (by decide +kernel) (by decide) rfl (xin_cmp8 _ _) (fun c104 => ?_) (fun c104 => ?_)
  · have c104 := xcmp8_eq.mp c104; rw [if_pos c104] at h
    refine xW_lv rfl (l := []) (xsb_of trivial (show [0, 1].Nodup by decide)) ?_
    exact k224_72    h
  · have c104 := (not_congr xcmp8_eq).mp c104; rw [if_neg c104] at h
    refine xe_ldn (ins := .lload_n 1) (len := 1) (by decide +kernel) rfl rfl rfl rfl ?_
    refine xe_alr (ins := .aload_n 0) (len := 1) (i := 0) (by decide +kernel) rfl rfl rfl rfl rfl ?_
    obtain ⟨v105, e106, h⟩ := xbnd h
    refine xs_gl (i := 132) (c := 15) (k := 13) (by decide +kernel) (by decide) (by decide +kernel) e106 rfl ?_
    refine xe_lcmp (by decide +kernel) rfl ha1 (xq_gl_in e106) ?_
    refine xe_ifeq (off := 57) (t := 72) (by decide +kernel) (by decide) rfl (xin_cmp8 _ _) (fun c107 => ?_) (fun c107 => ?_)
    · have c107 := xcmp8_eq.mp c107; rw [if_pos c107] at h
      refine xW_lv rfl (l := []) (xsb_of trivial (show [0, 1].Nodup by decide)) ?_
      exact k224_72    h
    · have c107 := (not_congr xcmp8_eq).mp c107; rw [if_neg c107] at h
      refine xe_ldn (ins := .lload_n 1) (len := 1) (by decide +kernel) rfl rfl rfl rfl ?_
      refine xe_alr (ins := .aload_n 0) (len := 1) (i := 0) (by decide +kernel) rfl rfl rfl rfl rfl ?_
      obtain ⟨v108, e109, h⟩ := xbnd h
      refine xs_gl (i := 135) (c := 15) (k := 14) (by decide +kernel) (by decide) (by decide +kernel) e109 rfl ?_
      refine xe_lcmp (by decide +kernel) rfl ha1 (xq_gl_in e109) ?_
      refine xe_ifeq (off := 48) (t := 72) (by decide +kernel) (by decide) rfl (xin_cmp8 _ _) (fun c110 => ?_) (fun c110 => ?_)
      · have c110 := xcmp8_eq.mp c110; rw [if_pos c110] at h
        refine xW_lv rfl (l := []) (xsb_of trivial (show [0, 1].Nodup by decide)) ?_
        exact k224_72    h
      · have c110 := (not_congr xcmp8_eq).mp c110; rw [if_neg c110] at h
        refine xe_ldn (ins := .lload_n 1) (len := 1) (by decide +kernel) rfl rfl rfl rfl ?_
        refine xe_alr (ins := .aload_n 0) (len := 1) (i := 0) (by decide +kernel) rfl rfl rfl rfl rfl ?_
        obtain ⟨v111, e112, h⟩ := xbnd h
        refine xs_gl (i := 138) (c := 15) (k := 15) (by decide +kernel) (by decide) (by decide +kernel) e112 rfl ?_
        refine xe_lcmp (by decide +kernel) rfl ha1 (xq_gl_in e112) ?_
        refine xe_ifeq (off := 39) (t := 72) (by decide +kernel) (by decide) rfl (xin_cmp8 _ _) (fun c113 => ?_) (fun c113 => ?_)
        · have c113 := xcmp8_eq.mp c113; rw [if_pos c113] at h
          refine xW_lv rfl (l := []) (xsb_of trivial (show [0, 1].Nodup by decide)) ?_
          exact k224_72    h
        · have c113 := (not_congr xcmp8_eq).mp c113; rw [if_neg c113] at h
          refine xe_ldn (ins := .lload_n 1) (len := 1) (by decide +kernel) rfl rfl rfl rfl ?_
          refine xe_alr (ins := .aload_n 0) (len := 1) (i := 0) (by decide +kernel) rfl rfl rfl rfl rfl ?_
          obtain ⟨v114, e115, h⟩ := xbnd h
          refine xs_gl (i := 141) (c := 15) (k := 16) (by decide +kernel) (by decide) (by decide +kernel) e115 rfl ?_
          refine xe_lcmp (by decide +kernel) rfl ha1 (xq_gl_in e115) ?_
          refine xe_ifeq (off := 30) (t := 72) (by decide +kernel) (by decide) rfl (xin_cmp8 _ _) (fun c116 => ?_) (fun c116 => ?_)
          · have c116 := xcmp8_eq.mp c116; rw [if_pos c116] at h
            refine xW_lv rfl (l := []) (xsb_of trivial (show [0, 1].Nodup by decide)) ?_
            exact k224_72    h
          · have c116 := (not_congr xcmp8_eq).mp c116; rw [if_neg c116] at h
            refine xe_ldn (ins := .lload_n 1) (len := 1) (by decide +kernel) rfl rfl rfl rfl ?_
            refine xe_alr (ins := .aload_n 0) (len := 1) (i := 0) (by decide +kernel) rfl rfl rfl rfl rfl ?_
            obtain ⟨v117, e118, h⟩ := xbnd h
            refine xs_gl (i := 144) (c := 15) (k := 17) (by decide +kernel) (by decide) (by decide +kernel) e118 rfl ?_
            refine xe_lcmp (by decide +kernel) rfl ha1 (xq_gl_in e118) ?_
            refine xe_ifeq (off := 21) (t := 72) (by decide +kernel) (by decide) rfl (xin_cmp8 _ _) (fun c119 => ?_) (fun c119 => ?_)
            · have c119 := xcmp8_eq.mp c119; rw [if_pos c119] at h
              refine xW_lv rfl (l := []) (xsb_of trivial (show [0, 1].Nodup by decide)) ?_
              exact k224_72    h
            · have c119 := (not_congr xcmp8_eq).mp c119; rw [if_neg c119] at h
              refine xe_ldn (ins := .lload_n 1) (len := 1) (by decide +kernel) rfl rfl rfl rfl ?_
              refine xe_alr (ins := .aload_n 0) (len := 1) (i := 0) (by decide +kernel) rfl rfl rfl rfl rfl ?_
              obtain ⟨v120, e121, h⟩ := xbnd h
              refine xs_gl (i := 147) (c := 15) (k := 18) (by decide +kernel) (by decide) (by decide +kernel) e121 rfl ?_
              refine xe_lcmp (by decide +kernel) rfl ha1 (xq_gl_in e121) ?_
              refine xe_ifeq (off := 12) (t := 72) (by decide +kernel) (by decide) rfl (xin_cmp8 _ _) (fun c122 => ?_) (fun c122 => ?_)
              · have c122 := xcmp8_eq.mp c122; rw [if_pos c122] at h
                refine xW_lv rfl (l := []) (xsb_of trivial (show [0, 1].Nodup by decide)) ?_
                exact k224_72    h
              · have c122 := (not_congr xcmp8_eq).mp c122; rw [if_neg c122] at h
                refine xe_ldn (ins := .lload_n 1) (len := 1) (by decide +kernel) rfl rfl rfl rfl ?_
                refine xe_alr (ins := .aload_n 0) (len := 1) (i := 0) (by decide +kernel) rfl rfl rfl rfl rfl ?_
                obtain ⟨v123, e124, h⟩ := xbnd h
                refine xs_gl (i := 150) (c := 15) (k := 19) (by decide +kernel) (by decide) (by decide +kernel) e124 rfl ?_
                refine xe_lcmp (by decide +kernel) rfl ha1 (xq_gl_in e124) ?_
                refine xe_ifne (off := 7) (t := 76) (by decide +kernel) (by decide) rfl (xin_cmp8 _ _) (fun c125 => ?_) (fun c125 => ?_)
                · have c125 := xcmp8_ne.mp c125; rw [if_pos c125] at h
                  refine xe_iconst (n := 0) (by decide +kernel) rfl ?_
                  refine xW_lv rfl (l := []) (xsb_of trivial (show [0, 1].Nodup by decide)) ?_
                  exact k224_77   (show xin (0) by decide) h
                · have c125 := (not_congr xcmp8_ne).mp c125; rw [if_neg c125] at h
                  refine xW_lv rfl (l := []) (xsb_of trivial (show [0, 1].Nodup by decide)) ?_
                  exact k224_72    h
-- ChangeHouseModel.isWord
def xr_225 : xj_mR := (15, yX15_isWord, cX15_isWord, 3, (Option.some Jvm.ClassFile.FieldType.boolean), 1, false, (8, 193), (1, 12))
set_option maxRecDepth 20000 in
theorem xr_225_e : xj_row 225 = some xr_225 := rfl
def f225_22   (f : Nat) (y0 : Int) (M : xj_M) : Option (Int × xj_M) := (if (y0) = 0 ∨ (y0) = 1 then some (y0, M) else none)
theorem k225_22 {d f : Nat}     {y0 : Int} {M : xj_M} {R : Int × xj_M} (hy0 : xin y0) (h : f225_22   f y0 M = some R) : xW (d + 2) (none, d + 2, none) xr_225 (22, [], [xI y0], M) (xQi R) := by
  unfold f225_22 at h
  by_cases c101 : (y0) = 0 ∨ (y0) = 1
  · rw [if_pos c101] at h; cases h; exact xe_ret_i (ty := .boolean) (by decide +kernel) rfl (xbool c101) ⟨rfl, rfl, hy0⟩
  · rw [if_neg c101] at h; cases h
def f225_21   (f : Nat)  (M : xj_M) : Option (Int × xj_M) := f225_22   f (0) M
theorem k225_21 {d f : Nat}      {M : xj_M} {R : Int × xj_M}  (h : f225_21   f  M = some R) : xW (d + 2) (none, d + 2, none) xr_225 (21, [], [], M) (xQi R) := by
  unfold f225_21 at h
  refine xe_iconst (n := 0) (by decide +kernel) rfl ?_
  refine xW_lv rfl (l := []) (xsb_of trivial (show [].Nodup by decide)) ?_
  exact k225_22   (show xin (0) by decide) h
def f225  (f : Nat) (a0 : Nat) (a1 : Int) (M : xj_M) : Option (Int × xj_M) := ((xq_is 15 (a0) M).bind fun _ => ((f221  f (a0) (2) M).bind fun R104 => (if (R104.1) = 0 then f225_21   f  R104.2 else ((xq_gl 15 9 (a0) R104.2).bind fun v107 => (if ¬ (v107) = (a1) then f225_21   f  R104.2 else f225_22   f (1) R104.2)))))
theorem k225 {d f : Nat}   {a0 : Nat} {a1 : Int} {M : xj_M} {R : Int × xj_M} (ha1 : xiN a1) (h : f225  f a0 a1 M = some R) : xT (d + 3) 225 [xR_ a0, xZ a1] M (xQi R) := by
  refine xT_m xr_225_e (X := (none, d + 2, none)) rfl (xa_1 (xR_cat _) (xa_2 (xZ_cat _) xa_n)) (by decide) ?_
  unfold f225 at h
  refine xe_alr (ins := .aload_n 0) (len := 1) (i := 0) (by decide +kernel) rfl rfl rfl rfl rfl ?_
  refine xe_iconst (n := 2) (by decide +kernel) rfl ?_
  obtain ⟨_, e103, h⟩ := xbnd h
  obtain ⟨R104, e102, h⟩ := xbnd h
  refine xs_cv (i := 153) (j := 221) (ar := [xI (2)]) (rest := []) (r2 := xr_221) (by decide +kernel) (by decide +kernel) (by decide +kernel) xr_221_e rfl (by decide) (by decide) e103 ?_
  refine xc_i (k221 (d := d + 0)  (show xin (2) by decide) e102) rfl (fun hi105 => ?_)
  refine xe_ifeq (off := 16) (t := 21) (by decide +kernel) (by decide) rfl hi105 (fun c106 => ?_) (fun c106 => ?_)
  · rw [if_pos c106] at h
    refine xW_lv rfl (l := []) (xsb_of trivial (show [0, 1].Nodup by decide)) ?_
    exact k225_21    h
  · rw [if_neg c106] at h
    refine xe_alr (ins := .aload_n 0) (len := 1) (i := 0) (by decide +kernel) rfl rfl rfl rfl rfl ?_
    obtain ⟨v107, e108, h⟩ := xbnd h
    refine xs_gl (i := 71) (c := 15) (k := 9) (by decide +kernel) (by decide) (by decide +kernel) e108 rfl ?_
    refine xe_ldn (ins := .lload_n 1) (len := 1) (by decide +kernel) rfl rfl rfl rfl ?_
    refine xe_lcmp (by decide +kernel) rfl (xq_gl_in e108) ha1 ?_
    refine xe_ifne (off := 7) (t := 21) (by decide +kernel) (by decide) rfl (xin_cmp8 _ _) (fun c109 => ?_) (fun c109 => ?_)
    · have c109 := xcmp8_ne.mp c109; rw [if_pos c109] at h
      refine xW_lv rfl (l := []) (xsb_of trivial (show [0, 1].Nodup by decide)) ?_
      exact k225_21    h
    · have c109 := (not_congr xcmp8_ne).mp c109; rw [if_neg c109] at h
      refine xe_iconst (n := 1) (by decide +kernel) rfl ?_
      refine xe_goto (off := 4) (nx := 22) (by decide +kernel) (by decide) ?_
      refine xW_lv rfl (l := []) (xsb_of trivial (show [0, 1].Nodup by decide)) ?_
      exact k225_22   (show xin (1) by decide) h
-- ChangeHouseModel.isName
def xr_226 : xj_mR := (15, yX15_isName, cX15_isName, 1, (Option.some Jvm.ClassFile.FieldType.boolean), 0, false, (8, 217), (1, 12))
set_option maxRecDepth 20000 in
theorem xr_226_e : xj_row 226 = some xr_226 := rfl
def f226_24   (f : Nat) (y0 : Int) (M : xj_M) : Option (Int × xj_M) := (if (y0) = 0 ∨ (y0) = 1 then some (y0, M) else none)
theorem k226_24 {d f : Nat}     {y0 : Int} {M : xj_M} {R : Int × xj_M} (hy0 : xin y0) (h : f226_24   f y0 M = some R) : xW (d + 2) (none, d + 2, none) xr_226 (24, [], [xI y0], M) (xQi R) := by
  unfold f226_24 at h
  by_cases c101 : (y0) = 0 ∨ (y0) = 1
  · rw [if_pos c101] at h; cases h; exact xe_ret_i (ty := .boolean) (by decide +kernel) rfl (xbool c101) ⟨rfl, rfl, hy0⟩
  · rw [if_neg c101] at h; cases h
def f226_23   (f : Nat)  (M : xj_M) : Option (Int × xj_M) := f226_24   f (0) M
theorem k226_23 {d f : Nat}      {M : xj_M} {R : Int × xj_M}  (h : f226_23   f  M = some R) : xW (d + 2) (none, d + 2, none) xr_226 (23, [], [], M) (xQi R) := by
  unfold f226_23 at h
  refine xe_iconst (n := 0) (by decide +kernel) rfl ?_
  refine xW_lv rfl (l := []) (xsb_of trivial (show [].Nodup by decide)) ?_
  exact k226_24   (show xin (0) by decide) h
def f226  (f : Nat) (a0 : Nat) (M : xj_M) : Option (Int × xj_M) := ((xq_is 15 (a0) M).bind fun _ => ((f221  f (a0) (2) M).bind fun R104 => (if (R104.1) = 0 then f226_23   f  R104.2 else ((xq_gl 15 9 (a0) R104.2).bind fun v107 => ((xq_is 15 (a0) R104.2).bind fun _ => ((f224  f (a0) (v107) R104.2).bind fun R111 => (if ¬ (R111.1) = 0 then f226_23   f  R111.2 else f226_24   f (1) R111.2)))))))
theorem k226 {d f : Nat}   {a0 : Nat} {M : xj_M} {R : Int × xj_M}  (h : f226  f a0 M = some R) : xT (d + 3) 226 [xR_ a0] M (xQi R) := by
  refine xT_m xr_226_e (X := (none, d + 2, none)) rfl (xa_1 (xR_cat _) xa_n) (by decide) ?_
  unfold f226 at h
  refine xe_alr (ins := .aload_n 0) (len := 1) (i := 0) (by decide +kernel) rfl rfl rfl rfl rfl ?_
  refine xe_iconst (n := 2) (by decide +kernel) rfl ?_
  obtain ⟨_, e103, h⟩ := xbnd h
  obtain ⟨R104, e102, h⟩ := xbnd h
  refine xs_cv (i := 153) (j := 221) (ar := [xI (2)]) (rest := []) (r2 := xr_221) (by decide +kernel) (by decide +kernel) (by decide +kernel) xr_221_e rfl (by decide) (by decide) e103 ?_
  refine xc_i (k221 (d := d + 0)  (show xin (2) by decide) e102) rfl (fun hi105 => ?_)
  refine xe_ifeq (off := 18) (t := 23) (by decide +kernel) (by decide) rfl hi105 (fun c106 => ?_) (fun c106 => ?_)
  · rw [if_pos c106] at h
    refine xW_lv rfl (l := []) (xsb_of trivial (show [0].Nodup by decide)) ?_
    exact k226_23    h
  · rw [if_neg c106] at h
    refine xe_alr (ins := .aload_n 0) (len := 1) (i := 0) (by decide +kernel) rfl rfl rfl rfl rfl ?_
    refine xe_alr (ins := .aload_n 0) (len := 1) (i := 0) (by decide +kernel) rfl rfl rfl rfl rfl ?_
    obtain ⟨v107, e108, h⟩ := xbnd h
    refine xs_gl (i := 71) (c := 15) (k := 9) (by decide +kernel) (by decide) (by decide +kernel) e108 rfl ?_
    obtain ⟨_, e110, h⟩ := xbnd h
    obtain ⟨R111, e109, h⟩ := xbnd h
    refine xs_cv (i := 156) (j := 224) (ar := [xZ (v107)]) (rest := []) (r2 := xr_224) (by decide +kernel) (by decide +kernel) (by decide +kernel) xr_224_e rfl (by decide) (by decide) e110 ?_
    refine xc_i (k224 (d := d + 1)  (xq_gl_in e108) e109) rfl (fun hi112 => ?_)
    refine xe_ifne (off := 7) (t := 23) (by decide +kernel) (by decide) rfl hi112 (fun c113 => ?_) (fun c113 => ?_)
    · rw [if_pos c113] at h
      refine xW_lv rfl (l := []) (xsb_of trivial (show [0].Nodup by decide)) ?_
      exact k226_23    h
    · rw [if_neg c113] at h
      refine xe_iconst (n := 1) (by decide +kernel) rfl ?_
      refine xe_goto (off := 4) (nx := 24) (by decide +kernel) (by decide) ?_
      refine xW_lv rfl (l := []) (xsb_of trivial (show [0].Nodup by decide)) ?_
      exact k226_24   (show xin (1) by decide) h
-- ChangeHouseModel.clear
def xr_228 : xj_mR := (15, yX15_clear, cX15_clear, 3, (Option.none : Option Jvm.ClassFile.FieldType), 1, false, (8, 133), (1, 12))
set_option maxRecDepth 20000 in
theorem xr_228_e : xj_row 228 = some xr_228 := rfl
def f228_22b  (r22 : Nat → Nat → Int → xj_M → Option (xj_M)) (f : Nat) (x0 : Nat) (x1 : Nat) (x2 : Int) (M : xj_M) : Option (xj_M) := (if (16) ≤ (x2) then ((xq_pr 15 22 (x0) (x1) M).bind fun M102 => (some M102)) else ((xq_gr 14 1 (x1) M).bind fun v104 => ((xq_si (v104) (x2) (0) M).bind fun M106 => ((xq_gr 14 2 (x1) M106).bind fun v108 => ((xq_si (v108) (x2) (0) M106).bind fun M110 => ((xq_gr 14 5 (x1) M110).bind fun v112 => ((xq_sb (v112) (x2) (0) M110).bind fun M114 => ((xq_gr 14 6 (x1) M114).bind fun v116 => ((xq_sb (v116) (x2) (0) M114).bind fun M118 => ((xq_gr 14 7 (x1) M118).bind fun v120 => ((xq_sb (v120) (x2) (0) M118).bind fun M122 => r22 (x0) (x1) (xwr ((x2) + (1))) M122)))))))))))
theorem k228_22b {d f : Nat}  {r22 : Nat → Nat → Int → xj_M → Option (xj_M)}  (hr22 : ∀ {x0 : Nat} {x1 : Nat} {x2 : Int} {M : xj_M} {R : xj_M}, xin x2 → r22 x0 x1 x2 M = some R → xW (d + 0) (none, d + 0, none) xr_228 (22, [(0, xR_ x0), (1, xR_ x1), (2, xI x2)], [], M) (xQv R)) {x0 : Nat} {x1 : Nat} {x2 : Int} {M : xj_M} {R : xj_M} (hx2 : xin x2) (h : f228_22b  r22 f x0 x1 x2 M = some R) : xW (d + 0) (none, d + 0, none) xr_228 (22, [(0, xR_ x0), (1, xR_ x1), (2, xI x2)], [], M) (xQv R) := by
  unfold f228_22b at h
  refine xe_ldn (ins := .iload_n 2) (len := 1) (by decide +kernel) rfl rfl rfl rfl ?_
  refine xe_bipush (n := 16) (by decide +kernel) (by decide) rfl ?_
  refine xe_icmpge (off := 44) (t := 69) (by decide +kernel) (by decide) rfl hx2 (show xin (16) by decide) (fun c101 => ?_) (fun c101 => ?_)
  · rw [if_pos c101] at h
    refine xe_alr (ins := .aload_n 0) (len := 1) (i := 0) (by decide +kernel) rfl rfl rfl rfl rfl ?_
    refine xe_alr (ins := .aload_n 1) (len := 1) (i := 1) (by decide +kernel) rfl rfl rfl rfl rfl ?_
    obtain ⟨M102, e103, h⟩ := xbnd h
    refine xs_p (i := 197) (c := 15) (k := 22) (by decide +kernel) (by decide +kernel) (by decide +kernel) e103 rfl ?_
    cases h
    exact xe_ret_v (by decide +kernel) rfl ⟨rfl, rfl⟩
  · rw [if_neg c101] at h
    refine xe_alr (ins := .aload_n 1) (len := 1) (i := 1) (by decide +kernel) rfl rfl rfl rfl rfl ?_
    obtain ⟨v104, e105, h⟩ := xbnd h
    refine xs_gr (i := 180) (c := 14) (k := 1) (by decide +kernel) (by decide) (by decide +kernel) e105 rfl ?_
    refine xe_ldn (ins := .iload_n 2) (len := 1) (by decide +kernel) rfl rfl rfl rfl ?_
    refine xe_iconst (n := 0) (by decide +kernel) rfl ?_
    obtain ⟨M106, e107, h⟩ := xbnd h
    refine xs_iast (by decide +kernel) hx2 e107 rfl ?_
    refine xe_alr (ins := .aload_n 1) (len := 1) (i := 1) (by decide +kernel) rfl rfl rfl rfl rfl ?_
    obtain ⟨v108, e109, h⟩ := xbnd h
    refine xs_gr (i := 184) (c := 14) (k := 2) (by decide +kernel) (by decide) (by decide +kernel) e109 rfl ?_
    refine xe_ldn (ins := .iload_n 2) (len := 1) (by decide +kernel) rfl rfl rfl rfl ?_
    refine xe_iconst (n := 0) (by decide +kernel) rfl ?_
    obtain ⟨M110, e111, h⟩ := xbnd h
    refine xs_iast (by decide +kernel) hx2 e111 rfl ?_
    refine xe_alr (ins := .aload_n 1) (len := 1) (i := 1) (by decide +kernel) rfl rfl rfl rfl rfl ?_
    obtain ⟨v112, e113, h⟩ := xbnd h
    refine xs_gr (i := 187) (c := 14) (k := 5) (by decide +kernel) (by decide) (by decide +kernel) e113 rfl ?_
    refine xe_ldn (ins := .iload_n 2) (len := 1) (by decide +kernel) rfl rfl rfl rfl ?_
    refine xe_iconst (n := 0) (by decide +kernel) rfl ?_
    obtain ⟨M114, e115, h⟩ := xbnd h
    refine xs_bast (by decide +kernel) hx2 e115 rfl ?_
    refine xe_alr (ins := .aload_n 1) (len := 1) (i := 1) (by decide +kernel) rfl rfl rfl rfl rfl ?_
    obtain ⟨v116, e117, h⟩ := xbnd h
    refine xs_gr (i := 191) (c := 14) (k := 6) (by decide +kernel) (by decide) (by decide +kernel) e117 rfl ?_
    refine xe_ldn (ins := .iload_n 2) (len := 1) (by decide +kernel) rfl rfl rfl rfl ?_
    refine xe_iconst (n := 0) (by decide +kernel) rfl ?_
    obtain ⟨M118, e119, h⟩ := xbnd h
    refine xs_bast (by decide +kernel) hx2 e119 rfl ?_
    refine xe_alr (ins := .aload_n 1) (len := 1) (i := 1) (by decide +kernel) rfl rfl rfl rfl rfl ?_
    obtain ⟨v120, e121, h⟩ := xbnd h
    refine xs_gr (i := 194) (c := 14) (k := 7) (by decide +kernel) (by decide) (by decide +kernel) e121 rfl ?_
    refine xe_ldn (ins := .iload_n 2) (len := 1) (by decide +kernel) rfl rfl rfl rfl ?_
    refine xe_iconst (n := 0) (by decide +kernel) rfl ?_
    obtain ⟨M122, e123, h⟩ := xbnd h
    refine xs_bast (by decide +kernel) hx2 e123 rfl ?_
    refine xe_iincr (i := 2) (n := 1) (by decide +kernel) (by decide) rfl (xk_k (show ¬ (0 : Nat) = 2 by decide) (Or.inl (show ¬ (0 + 1 : Nat) = 2 by decide)) (xk_k (show ¬ (1 : Nat) = 2 by decide) (Or.inr (xR_cat _)) (xk_d rfl xk_n))) rfl ?_
    refine xe_goto (off := -44) (nx := 22) (by decide +kernel) (by decide) ?_
    refine xW_lv rfl (l := [(0, xR_ (x0)), (1, xR_ (x1)), (2, xI (xwr ((x2) + (1))))]) (xsb_of ⟨rfl, rfl, rfl, trivial⟩ (show [2, 0, 1].Nodup by decide)) ?_
    exact hr22 (xin_wr _) h
def f228_22   (f : Nat) : Nat → Nat → Nat → Int → xj_M → Option (xj_M)
  | 0, _, _, _, _ => none
  | n + 1, x0, x1, x2, M => f228_22b   (f228_22   f n) f x0 x1 x2 M
theorem k228_22 {d f : Nat}     : ∀ {n : Nat} {x0 : Nat} {x1 : Nat} {x2 : Int} {M : xj_M} {R : xj_M}, xin x2 → f228_22   f n x0 x1 x2 M = some R → xW (d + 0) (none, d + 0, none) xr_228 (22, [(0, xR_ x0), (1, xR_ x1), (2, xI x2)], [], M) (xQv R) := by
  intro n
  induction n with
  | zero => intros; rename_i h; cases h
  | succ n ih => intros; rename_i h; exact k228_22b   ih (by assumption) h
def f228  (f : Nat) (a0 : Nat) (a1 : Nat) (M : xj_M) : Option (xj_M) := ((xq_pi 14 8 (a1) (0) M).bind fun M124 => ((xq_pi 14 9 (a1) (0) M124).bind fun M126 => ((xq_pi 14 14 (a1) (0) M126).bind fun M128 => ((xq_pi 14 37 (a1) (0) M128).bind fun M130 => f228_22   f f (a0) (a1) (0) M130))))
theorem k228 {d f : Nat}   {a0 : Nat} {a1 : Nat} {M : xj_M} {R : xj_M}  (h : f228  f a0 a1 M = some R) : xT (d + 1) 228 [xR_ a0, xR_ a1] M (xQv R) := by
  refine xT_m xr_228_e (X := (none, d + 0, none)) rfl (xa_1 (xR_cat _) (xa_1 (xR_cat _) xa_n)) (by decide) ?_
  unfold f228 at h
  refine xe_alr (ins := .aload_n 1) (len := 1) (i := 1) (by decide +kernel) rfl rfl rfl rfl rfl ?_
  refine xe_iconst (n := 0) (by decide +kernel) rfl ?_
  obtain ⟨M124, e125, h⟩ := xbnd h
  refine xs_p (i := 166) (c := 14) (k := 8) (by decide +kernel) (by decide +kernel) (by decide +kernel) e125 rfl ?_
  refine xe_alr (ins := .aload_n 1) (len := 1) (i := 1) (by decide +kernel) rfl rfl rfl rfl rfl ?_
  refine xe_iconst (n := 0) (by decide +kernel) rfl ?_
  obtain ⟨M126, e127, h⟩ := xbnd h
  refine xs_p (i := 171) (c := 14) (k := 9) (by decide +kernel) (by decide +kernel) (by decide +kernel) e127 rfl ?_
  refine xe_alr (ins := .aload_n 1) (len := 1) (i := 1) (by decide +kernel) rfl rfl rfl rfl rfl ?_
  refine xe_iconst (n := 0) (by decide +kernel) rfl ?_
  obtain ⟨M128, e129, h⟩ := xbnd h
  refine xs_p (i := 174) (c := 14) (k := 14) (by decide +kernel) (by decide +kernel) (by decide +kernel) e129 rfl ?_
  refine xe_alr (ins := .aload_n 1) (len := 1) (i := 1) (by decide +kernel) rfl rfl rfl rfl rfl ?_
  refine xe_iconst (n := 0) (by decide +kernel) rfl ?_
  obtain ⟨M130, e131, h⟩ := xbnd h
  refine xs_p (i := 177) (c := 14) (k := 37) (by decide +kernel) (by decide +kernel) (by decide +kernel) e131 rfl ?_
  refine xe_iconst (n := 0) (by decide +kernel) rfl ?_
  refine xe_isr (ins := .istore_n 2) (len := 1) (i := 2) (by decide +kernel) rfl rfl rfl (by decide) (xk_k (show ¬ (0 : Nat) = 2 by decide) (Or.inl (show ¬ (0 + 1 : Nat) = 2 by decide)) (xk_k (show ¬ (1 : Nat) = 2 by decide) (Or.inr (xR_cat _)) xk_n)) rfl ?_
  refine xW_lv rfl (l := [(0, xR_ (a0)), (1, xR_ (a1)), (2, xI (0))]) (xsb_of ⟨rfl, rfl, rfl, trivial⟩ (show [2, 0, 1].Nodup by decide)) ?_
  exact k228_22   (show xin (0) by decide) h
-- ChangeHouseModel.mention
def xr_229 : xj_mR := (15, yX15_mention, cX15_mention, 5, (Option.none : Option Jvm.ClassFile.FieldType), 4, false, (9, 5), (1, 12))
set_option maxRecDepth 20000 in
theorem xr_229_e : xj_row 229 = some xr_229 := rfl
def f229  (f : Nat) (a0 : Nat) (a1 : Int) (a2 : Int) (a3 : Int) (a4 : Int) (M : xj_M) : Option (xj_M) := ((xq_gr 15 22 (a0) M).bind fun v101 => ((xq_gi 14 14 (v101) M).bind fun v103 => (if ¬ (v103) = (420) then ((xq_gr 15 22 (a0) M).bind fun v106 => ((xq_gr 14 10 (v106) M).bind fun v108 => ((xq_gr 15 22 (a0) M).bind fun v110 => ((xq_gi 14 14 (v110) M).bind fun v112 => ((xq_si (v108) (v112) (a1) M).bind fun M114 => ((xq_gr 15 22 (a0) M114).bind fun v116 => ((xq_gr 14 11 (v116) M114).bind fun v118 => ((xq_gr 15 22 (a0) M114).bind fun v120 => ((xq_gi 14 14 (v120) M114).bind fun v122 => ((xq_si (v118) (v122) (a2) M114).bind fun M124 => ((xq_gr 15 22 (a0) M124).bind fun v126 => ((xq_gr 14 12 (v126) M124).bind fun v128 => ((xq_gr 15 22 (a0) M124).bind fun v130 => ((xq_gi 14 14 (v130) M124).bind fun v132 => ((xq_si (v128) (v132) (a3) M124).bind fun M134 => ((xq_gr 15 22 (a0) M134).bind fun v136 => ((xq_gr 14 13 (v136) M134).bind fun v138 => ((xq_gr 15 22 (a0) M134).bind fun v140 => ((xq_gi 14 14 (v140) M134).bind fun v142 => ((xq_si (v138) (v142) (a4) M134).bind fun M144 => ((xq_gr 15 22 (a0) M144).bind fun v146 => ((xq_gi 14 14 (v146) M144).bind fun v148 => ((xq_pi 14 14 (v146) (xwr ((v148) + (1))) M144).bind fun M150 => (some M150)))))))))))))))))))))))) else (some M))))
theorem k229 {d f : Nat}   {a0 : Nat} {a1 : Int} {a2 : Int} {a3 : Int} {a4 : Int} {M : xj_M} {R : xj_M} (ha1 : xin a1) (ha2 : xin a2) (ha3 : xin a3) (ha4 : xin a4) (h : f229  f a0 a1 a2 a3 a4 M = some R) : xT (d + 1) 229 [xR_ a0, xI a1, xI a2, xI a3, xI a4] M (xQv R) := by
  refine xT_m xr_229_e (X := (none, d + 0, none)) rfl (xa_1 (xR_cat _) (xa_1 (xI_cat _) (xa_1 (xI_cat _) (xa_1 (xI_cat _) (xa_1 (xI_cat _) xa_n))))) (by decide) ?_
  unfold f229 at h
  refine xe_alr (ins := .aload_n 0) (len := 1) (i := 0) (by decide +kernel) rfl rfl rfl rfl rfl ?_
  obtain ⟨v101, e102, h⟩ := xbnd h
  refine xs_gr (i := 197) (c := 15) (k := 22) (by decide +kernel) (by decide) (by decide +kernel) e102 rfl ?_
  obtain ⟨v103, e104, h⟩ := xbnd h
  refine xs_gi (i := 174) (c := 14) (k := 14) (by decide +kernel) (by decide) (by decide +kernel) e104 rfl ?_
  refine xe_sipush (n := 420) (by decide +kernel) (by decide) rfl ?_
  refine xe_icmpne (off := 4) (t := 14) (by decide +kernel) (by decide) rfl (xq_gi_in e104) (show xin (420) by decide) (fun c105 => ?_) (fun c105 => ?_)
  · rw [if_pos c105] at h
    refine xe_alr (ins := .aload_n 0) (len := 1) (i := 0) (by decide +kernel) rfl rfl rfl rfl rfl ?_
    obtain ⟨v106, e107, h⟩ := xbnd h
    refine xs_gr (i := 197) (c := 15) (k := 22) (by decide +kernel) (by decide) (by decide +kernel) e107 rfl ?_
    obtain ⟨v108, e109, h⟩ := xbnd h
    refine xs_gr (i := 201) (c := 14) (k := 10) (by decide +kernel) (by decide) (by decide +kernel) e109 rfl ?_
    refine xe_alr (ins := .aload_n 0) (len := 1) (i := 0) (by decide +kernel) rfl rfl rfl rfl rfl ?_
    obtain ⟨v110, e111, h⟩ := xbnd h
    refine xs_gr (i := 197) (c := 15) (k := 22) (by decide +kernel) (by decide) (by decide +kernel) e111 rfl ?_
    obtain ⟨v112, e113, h⟩ := xbnd h
    refine xs_gi (i := 174) (c := 14) (k := 14) (by decide +kernel) (by decide) (by decide +kernel) e113 rfl ?_
    refine xe_ldn (ins := .iload_n 1) (len := 1) (by decide +kernel) rfl rfl rfl rfl ?_
    obtain ⟨M114, e115, h⟩ := xbnd h
    refine xs_iast (by decide +kernel) (xq_gi_in e113) e115 rfl ?_
    refine xe_alr (ins := .aload_n 0) (len := 1) (i := 0) (by decide +kernel) rfl rfl rfl rfl rfl ?_
    obtain ⟨v116, e117, h⟩ := xbnd h
    refine xs_gr (i := 197) (c := 15) (k := 22) (by decide +kernel) (by decide) (by decide +kernel) e117 rfl ?_
    obtain ⟨v118, e119, h⟩ := xbnd h
    refine xs_gr (i := 204) (c := 14) (k := 11) (by decide +kernel) (by decide) (by decide +kernel) e119 rfl ?_
    refine xe_alr (ins := .aload_n 0) (len := 1) (i := 0) (by decide +kernel) rfl rfl rfl rfl rfl ?_
    obtain ⟨v120, e121, h⟩ := xbnd h
    refine xs_gr (i := 197) (c := 15) (k := 22) (by decide +kernel) (by decide) (by decide +kernel) e121 rfl ?_
    obtain ⟨v122, e123, h⟩ := xbnd h
    refine xs_gi (i := 174) (c := 14) (k := 14) (by decide +kernel) (by decide) (by decide +kernel) e123 rfl ?_
    refine xe_ldn (ins := .iload_n 2) (len := 1) (by decide +kernel) rfl rfl rfl rfl ?_
    obtain ⟨M124, e125, h⟩ := xbnd h
    refine xs_iast (by decide +kernel) (xq_gi_in e123) e125 rfl ?_
    refine xe_alr (ins := .aload_n 0) (len := 1) (i := 0) (by decide +kernel) rfl rfl rfl rfl rfl ?_
    obtain ⟨v126, e127, h⟩ := xbnd h
    refine xs_gr (i := 197) (c := 15) (k := 22) (by decide +kernel) (by decide) (by decide +kernel) e127 rfl ?_
    obtain ⟨v128, e129, h⟩ := xbnd h
    refine xs_gr (i := 207) (c := 14) (k := 12) (by decide +kernel) (by decide) (by decide +kernel) e129 rfl ?_
    refine xe_alr (ins := .aload_n 0) (len := 1) (i := 0) (by decide +kernel) rfl rfl rfl rfl rfl ?_
    obtain ⟨v130, e131, h⟩ := xbnd h
    refine xs_gr (i := 197) (c := 15) (k := 22) (by decide +kernel) (by decide) (by decide +kernel) e131 rfl ?_
    obtain ⟨v132, e133, h⟩ := xbnd h
    refine xs_gi (i := 174) (c := 14) (k := 14) (by decide +kernel) (by decide) (by decide +kernel) e133 rfl ?_
    refine xe_ldn (ins := .iload_n 3) (len := 1) (by decide +kernel) rfl rfl rfl rfl ?_
    obtain ⟨M134, e135, h⟩ := xbnd h
    refine xs_iast (by decide +kernel) (xq_gi_in e133) e135 rfl ?_
    refine xe_alr (ins := .aload_n 0) (len := 1) (i := 0) (by decide +kernel) rfl rfl rfl rfl rfl ?_
    obtain ⟨v136, e137, h⟩ := xbnd h
    refine xs_gr (i := 197) (c := 15) (k := 22) (by decide +kernel) (by decide) (by decide +kernel) e137 rfl ?_
    obtain ⟨v138, e139, h⟩ := xbnd h
    refine xs_gr (i := 210) (c := 14) (k := 13) (by decide +kernel) (by decide) (by decide +kernel) e139 rfl ?_
    refine xe_alr (ins := .aload_n 0) (len := 1) (i := 0) (by decide +kernel) rfl rfl rfl rfl rfl ?_
    obtain ⟨v140, e141, h⟩ := xbnd h
    refine xs_gr (i := 197) (c := 15) (k := 22) (by decide +kernel) (by decide) (by decide +kernel) e141 rfl ?_
    obtain ⟨v142, e143, h⟩ := xbnd h
    refine xs_gi (i := 174) (c := 14) (k := 14) (by decide +kernel) (by decide) (by decide +kernel) e143 rfl ?_
    refine xe_ldn (ins := .iload 4) (len := 2) (by decide +kernel) rfl rfl rfl rfl ?_
    obtain ⟨M144, e145, h⟩ := xbnd h
    refine xs_iast (by decide +kernel) (xq_gi_in e143) e145 rfl ?_
    refine xe_alr (ins := .aload_n 0) (len := 1) (i := 0) (by decide +kernel) rfl rfl rfl rfl rfl ?_
    obtain ⟨v146, e147, h⟩ := xbnd h
    refine xs_gr (i := 197) (c := 15) (k := 22) (by decide +kernel) (by decide) (by decide +kernel) e147 rfl ?_
    refine xe_dupr (by decide +kernel) rfl ?_
    obtain ⟨v148, e149, h⟩ := xbnd h
    refine xs_gi (i := 174) (c := 14) (k := 14) (by decide +kernel) (by decide) (by decide +kernel) e149 rfl ?_
    refine xe_iconst (n := 1) (by decide +kernel) rfl ?_
    refine xe_iadd (by decide +kernel) rfl ?_
    obtain ⟨M150, e151, h⟩ := xbnd h
    refine xs_p (i := 174) (c := 14) (k := 14) (by decide +kernel) (by decide +kernel) (by decide +kernel) e151 rfl ?_
    cases h
    exact xe_ret_v (by decide +kernel) rfl ⟨rfl, rfl⟩
  · rw [if_neg c105] at h
    cases h
    exact xe_ret_v (by decide +kernel) rfl ⟨rfl, rfl⟩
-- ChangeHouseModel.predicate
def xr_230 : xj_mR := (15, yX15_predicate, cX15_predicate, 5, (Option.some Jvm.ClassFile.FieldType.int), 2, false, (8, 225), (1, 12))
set_option maxRecDepth 20000 in
theorem xr_230_e : xj_row 230 = some xr_230 := rfl
def f230  (f : Nat) (a0 : Nat) (a1 : Int) (a2 : Int) (M : xj_M) : Option (Int × xj_M) := ((xq_gr 15 22 (a0) M).bind fun v101 => ((xq_is 14 (v101) M).bind fun _ => ((f205  f (v101) (a1) M).bind fun R105 => (if (R105.1) = (-1) then ((xq_gr 15 22 (a0) R105.2).bind fun v108 => ((xq_gi 14 8 (v108) R105.2).bind fun v110 => (if ¬ (v110) = (16) then ((xq_gr 15 22 (a0) R105.2).bind fun v113 => ((xq_gr 14 0 (v113) R105.2).bind fun v115 => ((xq_gr 15 22 (a0) R105.2).bind fun v117 => ((xq_gi 14 8 (v117) R105.2).bind fun v119 => ((xq_sl (v115) (v119) (a1) R105.2).bind fun M121 => ((xq_gr 15 22 (a0) M121).bind fun v123 => ((xq_gi 14 8 (v123) M121).bind fun v125 => ((xq_pi 14 8 (v123) (xwr ((v125) + (1))) M121).bind fun M127 => ((xq_gr 15 22 (a0) M127).bind fun v129 => ((xq_gi 14 8 (v129) M127).bind fun v131 => (some (xwr ((v131) - (1)), M127)))))))))))) else ((xq_is 15 (a0) R105.2).bind fun _ => ((f210  f (a0) (a2) R105.2).bind fun M135 => (some (-1, M135))))))) else (some (R105.1, R105.2))))))
theorem k230 {d f : Nat}   {a0 : Nat} {a1 : Int} {a2 : Int} {M : xj_M} {R : Int × xj_M} (ha1 : xiN a1) (ha2 : xin a2) (h : f230  f a0 a1 a2 M = some R) : xT (d + 2) 230 [xR_ a0, xZ a1, xI a2] M (xQi R) := by
  refine xT_m xr_230_e (X := (none, d + 1, none)) rfl (xa_1 (xR_cat _) (xa_2 (xZ_cat _) (xa_1 (xI_cat _) xa_n))) (by decide) ?_
  unfold f230 at h
  refine xe_alr (ins := .aload_n 0) (len := 1) (i := 0) (by decide +kernel) rfl rfl rfl rfl rfl ?_
  obtain ⟨v101, e102, h⟩ := xbnd h
  refine xs_gr (i := 197) (c := 15) (k := 22) (by decide +kernel) (by decide) (by decide +kernel) e102 rfl ?_
  refine xe_ldn (ins := .lload_n 1) (len := 1) (by decide +kernel) rfl rfl rfl rfl ?_
  obtain ⟨_, e104, h⟩ := xbnd h
  obtain ⟨R105, e103, h⟩ := xbnd h
  refine xs_cv (i := 213) (j := 205) (ar := [xZ (a1)]) (rest := []) (r2 := xr_205) (by decide +kernel) (by decide +kernel) (by decide +kernel) xr_205_e rfl (by decide) (by decide) e104 ?_
  refine xc_i (k205 (d := d + 0)  ha1 e103) rfl (fun hi106 => ?_)
  refine xe_isr (ins := .istore 4) (len := 2) (i := 4) (by decide +kernel) rfl rfl rfl (by decide) (xk_k (show ¬ (0 : Nat) = 4 by decide) (Or.inl (show ¬ (0 + 1 : Nat) = 4 by decide)) (xk_k (show ¬ (1 : Nat) = 4 by decide) (Or.inl (show ¬ (1 + 1 : Nat) = 4 by decide)) (xk_k (show ¬ (3 : Nat) = 4 by decide) (Or.inr (xI_cat _)) xk_n))) rfl ?_
  refine xe_ldn (ins := .iload 4) (len := 2) (by decide +kernel) rfl rfl rfl rfl ?_
  refine xe_iconst (n := -1) (by decide +kernel) rfl ?_
  refine xe_icmpeq (off := 6) (t := 19) (by decide +kernel) (by decide) rfl hi106 (show xin (-1) by decide) (fun c107 => ?_) (fun c107 => ?_)
  · rw [if_pos c107] at h
    refine xe_alr (ins := .aload_n 0) (len := 1) (i := 0) (by decide +kernel) rfl rfl rfl rfl rfl ?_
    obtain ⟨v108, e109, h⟩ := xbnd h
    refine xs_gr (i := 197) (c := 15) (k := 22) (by decide +kernel) (by decide) (by decide +kernel) e109 rfl ?_
    obtain ⟨v110, e111, h⟩ := xbnd h
    refine xs_gi (i := 166) (c := 14) (k := 8) (by decide +kernel) (by decide) (by decide +kernel) e111 rfl ?_
    refine xe_bipush (n := 16) (by decide +kernel) (by decide) rfl ?_
    refine xe_icmpne (off := 10) (t := 38) (by decide +kernel) (by decide) rfl (xq_gi_in e111) (show xin (16) by decide) (fun c112 => ?_) (fun c112 => ?_)
    · rw [if_pos c112] at h
      refine xe_alr (ins := .aload_n 0) (len := 1) (i := 0) (by decide +kernel) rfl rfl rfl rfl rfl ?_
      obtain ⟨v113, e114, h⟩ := xbnd h
      refine xs_gr (i := 197) (c := 15) (k := 22) (by decide +kernel) (by decide) (by decide +kernel) e114 rfl ?_
      obtain ⟨v115, e116, h⟩ := xbnd h
      refine xs_gr (i := 217) (c := 14) (k := 0) (by decide +kernel) (by decide) (by decide +kernel) e116 rfl ?_
      refine xe_alr (ins := .aload_n 0) (len := 1) (i := 0) (by decide +kernel) rfl rfl rfl rfl rfl ?_
      obtain ⟨v117, e118, h⟩ := xbnd h
      refine xs_gr (i := 197) (c := 15) (k := 22) (by decide +kernel) (by decide) (by decide +kernel) e118 rfl ?_
      obtain ⟨v119, e120, h⟩ := xbnd h
      refine xs_gi (i := 166) (c := 14) (k := 8) (by decide +kernel) (by decide) (by decide +kernel) e120 rfl ?_
      refine xe_ldn (ins := .lload_n 1) (len := 1) (by decide +kernel) rfl rfl rfl rfl ?_
      obtain ⟨M121, e122, h⟩ := xbnd h
      refine xs_last (by decide +kernel) (xq_gi_in e120) e122 rfl ?_
      refine xe_alr (ins := .aload_n 0) (len := 1) (i := 0) (by decide +kernel) rfl rfl rfl rfl rfl ?_
      obtain ⟨v123, e124, h⟩ := xbnd h
      refine xs_gr (i := 197) (c := 15) (k := 22) (by decide +kernel) (by decide) (by decide +kernel) e124 rfl ?_
      refine xe_dupr (by decide +kernel) rfl ?_
      obtain ⟨v125, e126, h⟩ := xbnd h
      refine xs_gi (i := 166) (c := 14) (k := 8) (by decide +kernel) (by decide) (by decide +kernel) e126 rfl ?_
      refine xe_iconst (n := 1) (by decide +kernel) rfl ?_
      refine xe_iadd (by decide +kernel) rfl ?_
      obtain ⟨M127, e128, h⟩ := xbnd h
      refine xs_p (i := 166) (c := 14) (k := 8) (by decide +kernel) (by decide +kernel) (by decide +kernel) e128 rfl ?_
      refine xe_alr (ins := .aload_n 0) (len := 1) (i := 0) (by decide +kernel) rfl rfl rfl rfl rfl ?_
      obtain ⟨v129, e130, h⟩ := xbnd h
      refine xs_gr (i := 197) (c := 15) (k := 22) (by decide +kernel) (by decide) (by decide +kernel) e130 rfl ?_
      obtain ⟨v131, e132, h⟩ := xbnd h
      refine xs_gi (i := 166) (c := 14) (k := 8) (by decide +kernel) (by decide) (by decide +kernel) e132 rfl ?_
      refine xe_iconst (n := 1) (by decide +kernel) rfl ?_
      refine xe_isub (by decide +kernel) rfl ?_
      cases h
      exact xe_ret_i (ty := .int) (by decide +kernel) rfl rfl ⟨rfl, rfl, (xin_wr _)⟩
    · rw [if_neg c112] at h
      refine xe_alr (ins := .aload_n 0) (len := 1) (i := 0) (by decide +kernel) rfl rfl rfl rfl rfl ?_
      refine xe_ldn (ins := .iload_n 3) (len := 1) (by decide +kernel) rfl rfl rfl rfl ?_
      obtain ⟨_, e134, h⟩ := xbnd h
      obtain ⟨M135, e133, h⟩ := xbnd h
      refine xs_cv (i := 35) (j := 210) (ar := [xI (a2)]) (rest := []) (r2 := xr_210) (by decide +kernel) (by decide +kernel) (by decide +kernel) xr_210_e rfl (by decide) (by decide) e134 ?_
      refine xc_v (k210 (d := d + 0)  ha2 e133) rfl ?_
      refine xe_iconst (n := -1) (by decide +kernel) rfl ?_
      cases h
      exact xe_ret_i (ty := .int) (by decide +kernel) rfl rfl ⟨rfl, rfl, (show xin (-1) by decide)⟩
  · rw [if_neg c107] at h
    refine xe_ldn (ins := .iload 4) (len := 2) (by decide +kernel) rfl rfl rfl rfl ?_
    cases h
    exact xe_ret_i (ty := .int) (by decide +kernel) rfl rfl ⟨rfl, rfl, hi106⟩
-- ChangeHouseModel.needName
def xr_232 : xj_mR := (15, yX15_needName, cX15_needName, 1, (Option.some Jvm.ClassFile.FieldType.int), 0, false, (8, 213), (1, 12))
set_option maxRecDepth 20000 in
theorem xr_232_e : xj_row 232 = some xr_232 := rfl
def f232  (f : Nat) (a0 : Nat) (M : xj_M) : Option (Int × xj_M) := ((xq_is 15 (a0) M).bind fun _ => ((f226  f (a0) M).bind fun R103 => (if ¬ (R103.1) = 0 then ((xq_gi 15 6 (a0) R103.2).bind fun v106 => (if (v106) = (-1) then ((xq_gl 15 9 (a0) R103.2).bind fun v109 => ((xq_gi 15 4 (a0) R103.2).bind fun v111 => ((xq_is 15 (a0) R103.2).bind fun _ => ((f230  f (a0) (v109) (v111) R103.2).bind fun R115 => (some (R115.1, R115.2)))))) else ((xq_gi 15 6 (a0) R103.2).bind fun v117 => ((xq_is 15 (a0) R103.2).bind fun _ => ((f210  f (a0) (v117) R103.2).bind fun M121 => (some (-1, M121))))))) else ((xq_gi 15 4 (a0) R103.2).bind fun v123 => ((xq_is 15 (a0) R103.2).bind fun _ => ((f210  f (a0) (v123) R103.2).bind fun M127 => (some (-1, M127))))))))
theorem k232 {d f : Nat}   {a0 : Nat} {M : xj_M} {R : Int × xj_M}  (h : f232  f a0 M = some R) : xT (d + 4) 232 [xR_ a0] M (xQi R) := by
  refine xT_m xr_232_e (X := (none, d + 3, none)) rfl (xa_1 (xR_cat _) xa_n) (by decide) ?_
  unfold f232 at h
  refine xe_alr (ins := .aload_n 0) (len := 1) (i := 0) (by decide +kernel) rfl rfl rfl rfl rfl ?_
  obtain ⟨_, e102, h⟩ := xbnd h
  obtain ⟨R103, e101, h⟩ := xbnd h
  refine xs_cv (i := 163) (j := 226) (ar := []) (rest := []) (r2 := xr_226) (by decide +kernel) (by decide +kernel) (by decide +kernel) xr_226_e rfl (by decide) (by decide) e102 ?_
  refine xc_i (k226 (d := d + 0)   e101) rfl (fun hi104 => ?_)
  refine xe_ifne (off := 13) (t := 17) (by decide +kernel) (by decide) rfl hi104 (fun c105 => ?_) (fun c105 => ?_)
  · rw [if_pos c105] at h
    refine xe_alr (ins := .aload_n 0) (len := 1) (i := 0) (by decide +kernel) rfl rfl rfl rfl rfl ?_
    obtain ⟨v106, e107, h⟩ := xbnd h
    refine xs_gi (i := 32) (c := 15) (k := 6) (by decide +kernel) (by decide) (by decide +kernel) e107 rfl ?_
    refine xe_iconst (n := -1) (by decide +kernel) rfl ?_
    refine xe_icmpeq (off := 13) (t := 35) (by decide +kernel) (by decide) rfl (xq_gi_in e107) (show xin (-1) by decide) (fun c108 => ?_) (fun c108 => ?_)
    · rw [if_pos c108] at h
      refine xe_alr (ins := .aload_n 0) (len := 1) (i := 0) (by decide +kernel) rfl rfl rfl rfl rfl ?_
      refine xe_alr (ins := .aload_n 0) (len := 1) (i := 0) (by decide +kernel) rfl rfl rfl rfl rfl ?_
      obtain ⟨v109, e110, h⟩ := xbnd h
      refine xs_gl (i := 71) (c := 15) (k := 9) (by decide +kernel) (by decide) (by decide +kernel) e110 rfl ?_
      refine xe_alr (ins := .aload_n 0) (len := 1) (i := 0) (by decide +kernel) rfl rfl rfl rfl rfl ?_
      obtain ⟨v111, e112, h⟩ := xbnd h
      refine xs_gi (i := 43) (c := 15) (k := 4) (by decide +kernel) (by decide) (by decide +kernel) e112 rfl ?_
      obtain ⟨_, e114, h⟩ := xbnd h
      obtain ⟨R115, e113, h⟩ := xbnd h
      refine xs_cv (i := 241) (j := 230) (ar := [xI (v111), xZ (v109)]) (rest := []) (r2 := xr_230) (by decide +kernel) (by decide +kernel) (by decide +kernel) xr_230_e rfl (by decide) (by decide) e114 ?_
      refine xc_i (k230 (d := d + 1)  (xq_gl_in e110) (xq_gi_in e112) e113) rfl (fun hi116 => ?_)
      cases h
      exact xe_ret_i (ty := .int) (by decide +kernel) rfl rfl ⟨rfl, rfl, hi116⟩
    · rw [if_neg c108] at h
      refine xe_alr (ins := .aload_n 0) (len := 1) (i := 0) (by decide +kernel) rfl rfl rfl rfl rfl ?_
      refine xe_alr (ins := .aload_n 0) (len := 1) (i := 0) (by decide +kernel) rfl rfl rfl rfl rfl ?_
      obtain ⟨v117, e118, h⟩ := xbnd h
      refine xs_gi (i := 32) (c := 15) (k := 6) (by decide +kernel) (by decide) (by decide +kernel) e118 rfl ?_
      obtain ⟨_, e120, h⟩ := xbnd h
      obtain ⟨M121, e119, h⟩ := xbnd h
      refine xs_cv (i := 35) (j := 210) (ar := [xI (v117)]) (rest := []) (r2 := xr_210) (by decide +kernel) (by decide +kernel) (by decide +kernel) xr_210_e rfl (by decide) (by decide) e120 ?_
      refine xc_v (k210 (d := d + 2)  (xq_gi_in e118) e119) rfl ?_
      refine xe_iconst (n := -1) (by decide +kernel) rfl ?_
      cases h
      exact xe_ret_i (ty := .int) (by decide +kernel) rfl rfl ⟨rfl, rfl, (show xin (-1) by decide)⟩
  · rw [if_neg c105] at h
    refine xe_alr (ins := .aload_n 0) (len := 1) (i := 0) (by decide +kernel) rfl rfl rfl rfl rfl ?_
    refine xe_alr (ins := .aload_n 0) (len := 1) (i := 0) (by decide +kernel) rfl rfl rfl rfl rfl ?_
    obtain ⟨v123, e124, h⟩ := xbnd h
    refine xs_gi (i := 43) (c := 15) (k := 4) (by decide +kernel) (by decide) (by decide +kernel) e124 rfl ?_
    obtain ⟨_, e126, h⟩ := xbnd h
    obtain ⟨M127, e125, h⟩ := xbnd h
    refine xs_cv (i := 35) (j := 210) (ar := [xI (v123)]) (rest := []) (r2 := xr_210) (by decide +kernel) (by decide +kernel) (by decide +kernel) xr_210_e rfl (by decide) (by decide) e126 ?_
    refine xc_v (k210 (d := d + 2)  (xq_gi_in e124) e125) rfl ?_
    refine xe_iconst (n := -1) (by decide +kernel) rfl ?_
    cases h
    exact xe_ret_i (ty := .int) (by decide +kernel) rfl rfl ⟨rfl, rfl, (show xin (-1) by decide)⟩
-- ChangeHouseModel.beginRule
def xr_236 : xj_mR := (15, yX15_beginRule, cX15_beginRule, 2, (Option.none : Option Jvm.ClassFile.FieldType), 1, false, (9, 17), (1, 12))
set_option maxRecDepth 20000 in
theorem xr_236_e : xj_row 236 = some xr_236 := rfl
def f236  (f : Nat) (a0 : Nat) (a1 : Int) (M : xj_M) : Option (xj_M) := ((xq_pi 15 23 (a0) (a1) M).bind fun M101 => ((xq_pi 15 24 (a0) (0) M101).bind fun M103 => ((xq_pi 15 25 (a0) (0) M103).bind fun M105 => ((xq_gr 15 22 (a0) M105).bind fun v107 => ((xq_gr 14 21 (v107) M105).bind fun v109 => ((xq_si (v109) (a1) (0) M105).bind fun M111 => ((xq_gr 15 22 (a0) M111).bind fun v113 => ((xq_gr 14 22 (v113) M111).bind fun v115 => ((xq_si (v115) (a1) (0) M111).bind fun M117 => ((xq_gr 15 22 (a0) M117).bind fun v119 => ((xq_gr 14 17 (v119) M117).bind fun v121 => ((xq_si (v121) (a1) (0) M117).bind fun M123 => ((xq_gr 15 22 (a0) M123).bind fun v125 => ((xq_gr 14 18 (v125) M123).bind fun v127 => ((xq_si (v127) (a1) (0) M123).bind fun M129 => ((xq_gr 15 22 (a0) M129).bind fun v131 => ((xq_gr 14 19 (v131) M129).bind fun v133 => ((xq_si (v133) (a1) (-1) M129).bind fun M135 => ((xq_gr 15 22 (a0) M135).bind fun v137 => ((xq_gr 14 20 (v137) M135).bind fun v139 => ((xq_si (v139) (a1) (-1) M135).bind fun M141 => (some M141))))))))))))))))))))))
theorem k236 {d f : Nat}   {a0 : Nat} {a1 : Int} {M : xj_M} {R : xj_M} (ha1 : xin a1) (h : f236  f a0 a1 M = some R) : xT (d + 1) 236 [xR_ a0, xI a1] M (xQv R) := by
  refine xT_m xr_236_e (X := (none, d + 0, none)) rfl (xa_1 (xR_cat _) (xa_1 (xI_cat _) xa_n)) (by decide) ?_
  unfold f236 at h
  refine xe_alr (ins := .aload_n 0) (len := 1) (i := 0) (by decide +kernel) rfl rfl rfl rfl rfl ?_
  refine xe_ldn (ins := .iload_n 1) (len := 1) (by decide +kernel) rfl rfl rfl rfl ?_
  obtain ⟨M101, e102, h⟩ := xbnd h
  refine xs_p (i := 259) (c := 15) (k := 23) (by decide +kernel) (by decide +kernel) (by decide +kernel) e102 rfl ?_
  refine xe_alr (ins := .aload_n 0) (len := 1) (i := 0) (by decide +kernel) rfl rfl rfl rfl rfl ?_
  refine xe_iconst (n := 0) (by decide +kernel) rfl ?_
  obtain ⟨M103, e104, h⟩ := xbnd h
  refine xs_p (i := 262) (c := 15) (k := 24) (by decide +kernel) (by decide +kernel) (by decide +kernel) e104 rfl ?_
  refine xe_alr (ins := .aload_n 0) (len := 1) (i := 0) (by decide +kernel) rfl rfl rfl rfl rfl ?_
  refine xe_iconst (n := 0) (by decide +kernel) rfl ?_
  obtain ⟨M105, e106, h⟩ := xbnd h
  refine xs_p (i := 265) (c := 15) (k := 25) (by decide +kernel) (by decide +kernel) (by decide +kernel) e106 rfl ?_
  refine xe_alr (ins := .aload_n 0) (len := 1) (i := 0) (by decide +kernel) rfl rfl rfl rfl rfl ?_
  obtain ⟨v107, e108, h⟩ := xbnd h
  refine xs_gr (i := 197) (c := 15) (k := 22) (by decide +kernel) (by decide) (by decide +kernel) e108 rfl ?_
  obtain ⟨v109, e110, h⟩ := xbnd h
  refine xs_gr (i := 268) (c := 14) (k := 21) (by decide +kernel) (by decide) (by decide +kernel) e110 rfl ?_
  refine xe_ldn (ins := .iload_n 1) (len := 1) (by decide +kernel) rfl rfl rfl rfl ?_
  refine xe_iconst (n := 0) (by decide +kernel) rfl ?_
  obtain ⟨M111, e112, h⟩ := xbnd h
  refine xs_iast (by decide +kernel) ha1 e112 rfl ?_
  refine xe_alr (ins := .aload_n 0) (len := 1) (i := 0) (by decide +kernel) rfl rfl rfl rfl rfl ?_
  obtain ⟨v113, e114, h⟩ := xbnd h
  refine xs_gr (i := 197) (c := 15) (k := 22) (by decide +kernel) (by decide) (by decide +kernel) e114 rfl ?_
  obtain ⟨v115, e116, h⟩ := xbnd h
  refine xs_gr (i := 271) (c := 14) (k := 22) (by decide +kernel) (by decide) (by decide +kernel) e116 rfl ?_
  refine xe_ldn (ins := .iload_n 1) (len := 1) (by decide +kernel) rfl rfl rfl rfl ?_
  refine xe_iconst (n := 0) (by decide +kernel) rfl ?_
  obtain ⟨M117, e118, h⟩ := xbnd h
  refine xs_iast (by decide +kernel) ha1 e118 rfl ?_
  refine xe_alr (ins := .aload_n 0) (len := 1) (i := 0) (by decide +kernel) rfl rfl rfl rfl rfl ?_
  obtain ⟨v119, e120, h⟩ := xbnd h
  refine xs_gr (i := 197) (c := 15) (k := 22) (by decide +kernel) (by decide) (by decide +kernel) e120 rfl ?_
  obtain ⟨v121, e122, h⟩ := xbnd h
  refine xs_gr (i := 274) (c := 14) (k := 17) (by decide +kernel) (by decide) (by decide +kernel) e122 rfl ?_
  refine xe_ldn (ins := .iload_n 1) (len := 1) (by decide +kernel) rfl rfl rfl rfl ?_
  refine xe_iconst (n := 0) (by decide +kernel) rfl ?_
  obtain ⟨M123, e124, h⟩ := xbnd h
  refine xs_iast (by decide +kernel) ha1 e124 rfl ?_
  refine xe_alr (ins := .aload_n 0) (len := 1) (i := 0) (by decide +kernel) rfl rfl rfl rfl rfl ?_
  obtain ⟨v125, e126, h⟩ := xbnd h
  refine xs_gr (i := 197) (c := 15) (k := 22) (by decide +kernel) (by decide) (by decide +kernel) e126 rfl ?_
  obtain ⟨v127, e128, h⟩ := xbnd h
  refine xs_gr (i := 277) (c := 14) (k := 18) (by decide +kernel) (by decide) (by decide +kernel) e128 rfl ?_
  refine xe_ldn (ins := .iload_n 1) (len := 1) (by decide +kernel) rfl rfl rfl rfl ?_
  refine xe_iconst (n := 0) (by decide +kernel) rfl ?_
  obtain ⟨M129, e130, h⟩ := xbnd h
  refine xs_iast (by decide +kernel) ha1 e130 rfl ?_
  refine xe_alr (ins := .aload_n 0) (len := 1) (i := 0) (by decide +kernel) rfl rfl rfl rfl rfl ?_
  obtain ⟨v131, e132, h⟩ := xbnd h
  refine xs_gr (i := 197) (c := 15) (k := 22) (by decide +kernel) (by decide) (by decide +kernel) e132 rfl ?_
  obtain ⟨v133, e134, h⟩ := xbnd h
  refine xs_gr (i := 280) (c := 14) (k := 19) (by decide +kernel) (by decide) (by decide +kernel) e134 rfl ?_
  refine xe_ldn (ins := .iload_n 1) (len := 1) (by decide +kernel) rfl rfl rfl rfl ?_
  refine xe_iconst (n := -1) (by decide +kernel) rfl ?_
  obtain ⟨M135, e136, h⟩ := xbnd h
  refine xs_iast (by decide +kernel) ha1 e136 rfl ?_
  refine xe_alr (ins := .aload_n 0) (len := 1) (i := 0) (by decide +kernel) rfl rfl rfl rfl rfl ?_
  obtain ⟨v137, e138, h⟩ := xbnd h
  refine xs_gr (i := 197) (c := 15) (k := 22) (by decide +kernel) (by decide) (by decide +kernel) e138 rfl ?_
  obtain ⟨v139, e140, h⟩ := xbnd h
  refine xs_gr (i := 283) (c := 14) (k := 20) (by decide +kernel) (by decide) (by decide +kernel) e140 rfl ?_
  refine xe_ldn (ins := .iload_n 1) (len := 1) (by decide +kernel) rfl rfl rfl rfl ?_
  refine xe_iconst (n := -1) (by decide +kernel) rfl ?_
  obtain ⟨M141, e142, h⟩ := xbnd h
  refine xs_iast (by decide +kernel) ha1 e142 rfl ?_
  cases h
  exact xe_ret_v (by decide +kernel) rfl ⟨rfl, rfl⟩
-- ChangeHouseModel.put
def xr_240 : xj_mR := (15, yX15_put, cX15_put, 4, (Option.none : Option Jvm.ClassFile.FieldType), 2, false, (9, 37), (1, 12))
set_option maxRecDepth 20000 in
theorem xr_240_e : xj_row 240 = some xr_240 := rfl
def f240  (f : Nat) (a0 : Nat) (a1 : Int) (a2 : Int) (M : xj_M) : Option (xj_M) := ((xq_is 15 (a0) M).bind fun _ => ((f211  f (a0) M).bind fun R103 => (if (R103.1) = 0 then ((xq_gr 15 22 (a0) R103.2).bind fun v106 => ((xq_gr 14 35 (v106) R103.2).bind fun v108 => ((xq_gr 15 22 (a0) R103.2).bind fun v110 => ((xq_gi 14 37 (v110) R103.2).bind fun v112 => ((xq_si (v108) (v112) (a1) R103.2).bind fun M114 => ((xq_gr 15 22 (a0) M114).bind fun v116 => ((xq_gr 14 36 (v116) M114).bind fun v118 => ((xq_gr 15 22 (a0) M114).bind fun v120 => ((xq_gi 14 37 (v120) M114).bind fun v122 => ((xq_sl (v118) (v122) (a2) M114).bind fun M124 => ((xq_gr 15 22 (a0) M124).bind fun v126 => ((xq_gi 14 37 (v126) M124).bind fun v128 => ((xq_pi 14 37 (v126) (xwr ((v128) + (1))) M124).bind fun M130 => (some M130)))))))))))))) else (some R103.2))))
theorem k240 {d f : Nat}   {a0 : Nat} {a1 : Int} {a2 : Int} {M : xj_M} {R : xj_M} (ha1 : xin a1) (ha2 : xiN a2) (h : f240  f a0 a1 a2 M = some R) : xT (d + 2) 240 [xR_ a0, xI a1, xZ a2] M (xQv R) := by
  refine xT_m xr_240_e (X := (none, d + 1, none)) rfl (xa_1 (xR_cat _) (xa_1 (xI_cat _) (xa_2 (xZ_cat _) xa_n))) (by decide) ?_
  unfold f240 at h
  refine xe_alr (ins := .aload_n 0) (len := 1) (i := 0) (by decide +kernel) rfl rfl rfl rfl rfl ?_
  obtain ⟨_, e102, h⟩ := xbnd h
  obtain ⟨R103, e101, h⟩ := xbnd h
  refine xs_cv (i := 28) (j := 211) (ar := []) (rest := []) (r2 := xr_211) (by decide +kernel) (by decide +kernel) (by decide +kernel) xr_211_e rfl (by decide) (by decide) e102 ?_
  refine xc_i (k211 (d := d + 0)   e101) rfl (fun hi104 => ?_)
  refine xe_ifeq (off := 4) (t := 8) (by decide +kernel) (by decide) rfl hi104 (fun c105 => ?_) (fun c105 => ?_)
  · rw [if_pos c105] at h
    refine xe_alr (ins := .aload_n 0) (len := 1) (i := 0) (by decide +kernel) rfl rfl rfl rfl rfl ?_
    obtain ⟨v106, e107, h⟩ := xbnd h
    refine xs_gr (i := 197) (c := 15) (k := 22) (by decide +kernel) (by decide) (by decide +kernel) e107 rfl ?_
    obtain ⟨v108, e109, h⟩ := xbnd h
    refine xs_gr (i := 318) (c := 14) (k := 35) (by decide +kernel) (by decide) (by decide +kernel) e109 rfl ?_
    refine xe_alr (ins := .aload_n 0) (len := 1) (i := 0) (by decide +kernel) rfl rfl rfl rfl rfl ?_
    obtain ⟨v110, e111, h⟩ := xbnd h
    refine xs_gr (i := 197) (c := 15) (k := 22) (by decide +kernel) (by decide) (by decide +kernel) e111 rfl ?_
    obtain ⟨v112, e113, h⟩ := xbnd h
    refine xs_gi (i := 177) (c := 14) (k := 37) (by decide +kernel) (by decide) (by decide +kernel) e113 rfl ?_
    refine xe_ldn (ins := .iload_n 1) (len := 1) (by decide +kernel) rfl rfl rfl rfl ?_
    obtain ⟨M114, e115, h⟩ := xbnd h
    refine xs_iast (by decide +kernel) (xq_gi_in e113) e115 rfl ?_
    refine xe_alr (ins := .aload_n 0) (len := 1) (i := 0) (by decide +kernel) rfl rfl rfl rfl rfl ?_
    obtain ⟨v116, e117, h⟩ := xbnd h
    refine xs_gr (i := 197) (c := 15) (k := 22) (by decide +kernel) (by decide) (by decide +kernel) e117 rfl ?_
    obtain ⟨v118, e119, h⟩ := xbnd h
    refine xs_gr (i := 321) (c := 14) (k := 36) (by decide +kernel) (by decide) (by decide +kernel) e119 rfl ?_
    refine xe_alr (ins := .aload_n 0) (len := 1) (i := 0) (by decide +kernel) rfl rfl rfl rfl rfl ?_
    obtain ⟨v120, e121, h⟩ := xbnd h
    refine xs_gr (i := 197) (c := 15) (k := 22) (by decide +kernel) (by decide) (by decide +kernel) e121 rfl ?_
    obtain ⟨v122, e123, h⟩ := xbnd h
    refine xs_gi (i := 177) (c := 14) (k := 37) (by decide +kernel) (by decide) (by decide +kernel) e123 rfl ?_
    refine xe_ldn (ins := .lload_n 2) (len := 1) (by decide +kernel) rfl rfl rfl rfl ?_
    obtain ⟨M124, e125, h⟩ := xbnd h
    refine xs_last (by decide +kernel) (xq_gi_in e123) e125 rfl ?_
    refine xe_alr (ins := .aload_n 0) (len := 1) (i := 0) (by decide +kernel) rfl rfl rfl rfl rfl ?_
    obtain ⟨v126, e127, h⟩ := xbnd h
    refine xs_gr (i := 197) (c := 15) (k := 22) (by decide +kernel) (by decide) (by decide +kernel) e127 rfl ?_
    refine xe_dupr (by decide +kernel) rfl ?_
    obtain ⟨v128, e129, h⟩ := xbnd h
    refine xs_gi (i := 177) (c := 14) (k := 37) (by decide +kernel) (by decide) (by decide +kernel) e129 rfl ?_
    refine xe_iconst (n := 1) (by decide +kernel) rfl ?_
    refine xe_iadd (by decide +kernel) rfl ?_
    obtain ⟨M130, e131, h⟩ := xbnd h
    refine xs_p (i := 177) (c := 14) (k := 37) (by decide +kernel) (by decide +kernel) (by decide +kernel) e131 rfl ?_
    cases h
    exact xe_ret_v (by decide +kernel) rfl ⟨rfl, rfl⟩
  · rw [if_neg c105] at h
    cases h
    exact xe_ret_v (by decide +kernel) rfl ⟨rfl, rfl⟩
-- ChangeHouseModel.isOf
def xr_242 : xj_mR := (15, yX15_isOf, cX15_isOf, 2, (Option.some Jvm.ClassFile.FieldType.boolean), 1, false, (9, 53), (1, 12))
set_option maxRecDepth 20000 in
theorem xr_242_e : xj_row 242 = some xr_242 := rfl
def f242_62   (f : Nat) (y0 : Int) (M : xj_M) : Option (Int × xj_M) := (if (y0) = 0 ∨ (y0) = 1 then some (y0, M) else none)
theorem k242_62 {d f : Nat}     {y0 : Int} {M : xj_M} {R : Int × xj_M} (hy0 : xin y0) (h : f242_62   f y0 M = some R) : xW (d + 2) (none, d + 2, none) xr_242 (62, [], [xI y0], M) (xQi R) := by
  unfold f242_62 at h
  by_cases c101 : (y0) = 0 ∨ (y0) = 1
  · rw [if_pos c101] at h; cases h; exact xe_ret_i (ty := .boolean) (by decide +kernel) rfl (xbool c101) ⟨rfl, rfl, hy0⟩
  · rw [if_neg c101] at h; cases h
def f242_31   (f : Nat)  (M : xj_M) : Option (Int × xj_M) := f242_62   f (1) M
theorem k242_31 {d f : Nat}      {M : xj_M} {R : Int × xj_M}  (h : f242_31   f  M = some R) : xW (d + 2) (none, d + 2, none) xr_242 (31, [], [], M) (xQi R) := by
  unfold f242_31 at h
  refine xe_iconst (n := 1) (by decide +kernel) rfl ?_
  refine xe_goto (off := 30) (nx := 62) (by decide +kernel) (by decide) ?_
  refine xW_lv rfl (l := []) (xsb_of trivial (show [].Nodup by decide)) ?_
  exact k242_62   (show xin (1) by decide) h
def f242_57   (f : Nat)  (M : xj_M) : Option (Int × xj_M) := f242_62   f (1) M
theorem k242_57 {d f : Nat}      {M : xj_M} {R : Int × xj_M}  (h : f242_57   f  M = some R) : xW (d + 2) (none, d + 2, none) xr_242 (57, [], [], M) (xQi R) := by
  unfold f242_57 at h
  refine xe_iconst (n := 1) (by decide +kernel) rfl ?_
  refine xe_goto (off := 4) (nx := 62) (by decide +kernel) (by decide) ?_
  refine xW_lv rfl (l := []) (xsb_of trivial (show [].Nodup by decide)) ?_
  exact k242_62   (show xin (1) by decide) h
def f242  (f : Nat) (a0 : Nat) (a1 : Int) (M : xj_M) : Option (Int × xj_M) := (if (a1) = 0 then ((xq_is 15 (a0) M).bind fun _ => ((f220  f (a0) (43) M).bind fun R105 => (if ¬ (R105.1) = 0 then f242_57   f  R105.2 else ((xq_is 15 (a0) R105.2).bind fun _ => ((f220  f (a0) (45) R105.2).bind fun R110 => (if (R110.1) = 0 then f242_62   f (0) R110.2 else f242_57   f  R110.2)))))) else ((xq_is 15 (a0) M).bind fun _ => ((f220  f (a0) (42) M).bind fun R115 => (if ¬ (R115.1) = 0 then f242_31   f  R115.2 else ((xq_is 15 (a0) R115.2).bind fun _ => ((f220  f (a0) (47) R115.2).bind fun R120 => (if ¬ (R120.1) = 0 then f242_31   f  R120.2 else ((xq_is 15 (a0) R120.2).bind fun _ => ((f220  f (a0) (37) R120.2).bind fun R125 => (if (R125.1) = 0 then f242_62   f (0) R125.2 else f242_31   f  R125.2))))))))))
theorem k242 {d f : Nat}   {a0 : Nat} {a1 : Int} {M : xj_M} {R : Int × xj_M} (ha1 : xin a1) (h : f242  f a0 a1 M = some R) : xT (d + 3) 242 [xR_ a0, xI a1] M (xQi R) := by
  refine xT_m xr_242_e (X := (none, d + 2, none)) rfl (xa_1 (xR_cat _) (xa_1 (xI_cat _) xa_n)) (by decide) ?_
  unfold f242 at h
  refine xe_ldn (ins := .iload_n 1) (len := 1) (by decide +kernel) rfl rfl rfl rfl ?_
  refine xe_ifeq (off := 38) (t := 39) (by decide +kernel) (by decide) rfl ha1 (fun c102 => ?_) (fun c102 => ?_)
  · rw [if_pos c102] at h
    refine xe_alr (ins := .aload_n 0) (len := 1) (i := 0) (by decide +kernel) rfl rfl rfl rfl rfl ?_
    refine xe_bipush (n := 43) (by decide +kernel) (by decide) rfl ?_
    obtain ⟨_, e104, h⟩ := xbnd h
    obtain ⟨R105, e103, h⟩ := xbnd h
    refine xs_cv (i := 115) (j := 220) (ar := [xI (43)]) (rest := []) (r2 := xr_220) (by decide +kernel) (by decide +kernel) (by decide +kernel) xr_220_e rfl (by decide) (by decide) e104 ?_
    refine xc_i (k220 (d := d + 0)  (show xin (43) by decide) e103) rfl (fun hi106 => ?_)
    refine xe_ifne (off := 12) (t := 57) (by decide +kernel) (by decide) rfl hi106 (fun c107 => ?_) (fun c107 => ?_)
    · rw [if_pos c107] at h
      refine xW_lv rfl (l := []) (xsb_of trivial (show [0, 1].Nodup by decide)) ?_
      exact k242_57    h
    · rw [if_neg c107] at h
      refine xe_alr (ins := .aload_n 0) (len := 1) (i := 0) (by decide +kernel) rfl rfl rfl rfl rfl ?_
      refine xe_bipush (n := 45) (by decide +kernel) (by decide) rfl ?_
      obtain ⟨_, e109, h⟩ := xbnd h
      obtain ⟨R110, e108, h⟩ := xbnd h
      refine xs_cv (i := 115) (j := 220) (ar := [xI (45)]) (rest := []) (r2 := xr_220) (by decide +kernel) (by decide +kernel) (by decide +kernel) xr_220_e rfl (by decide) (by decide) e109 ?_
      refine xc_i (k220 (d := d + 0)  (show xin (45) by decide) e108) rfl (fun hi111 => ?_)
      refine xe_ifeq (off := 7) (t := 61) (by decide +kernel) (by decide) rfl hi111 (fun c112 => ?_) (fun c112 => ?_)
      · rw [if_pos c112] at h
        refine xe_iconst (n := 0) (by decide +kernel) rfl ?_
        refine xW_lv rfl (l := []) (xsb_of trivial (show [0, 1].Nodup by decide)) ?_
        exact k242_62   (show xin (0) by decide) h
      · rw [if_neg c112] at h
        refine xW_lv rfl (l := []) (xsb_of trivial (show [0, 1].Nodup by decide)) ?_
        exact k242_57    h
  · rw [if_neg c102] at h
    refine xe_alr (ins := .aload_n 0) (len := 1) (i := 0) (by decide +kernel) rfl rfl rfl rfl rfl ?_
    refine xe_bipush (n := 42) (by decide +kernel) (by decide) rfl ?_
    obtain ⟨_, e114, h⟩ := xbnd h
    obtain ⟨R115, e113, h⟩ := xbnd h
    refine xs_cv (i := 115) (j := 220) (ar := [xI (42)]) (rest := []) (r2 := xr_220) (by decide +kernel) (by decide +kernel) (by decide +kernel) xr_220_e rfl (by decide) (by decide) e114 ?_
    refine xc_i (k220 (d := d + 0)  (show xin (42) by decide) e113) rfl (fun hi116 => ?_)
    refine xe_ifne (off := 21) (t := 31) (by decide +kernel) (by decide) rfl hi116 (fun c117 => ?_) (fun c117 => ?_)
    · rw [if_pos c117] at h
      refine xW_lv rfl (l := []) (xsb_of trivial (show [0, 1].Nodup by decide)) ?_
      exact k242_31    h
    · rw [if_neg c117] at h
      refine xe_alr (ins := .aload_n 0) (len := 1) (i := 0) (by decide +kernel) rfl rfl rfl rfl rfl ?_
      refine xe_bipush (n := 47) (by decide +kernel) (by decide) rfl ?_
      obtain ⟨_, e119, h⟩ := xbnd h
      obtain ⟨R120, e118, h⟩ := xbnd h
      refine xs_cv (i := 115) (j := 220) (ar := [xI (47)]) (rest := []) (r2 := xr_220) (by decide +kernel) (by decide +kernel) (by decide +kernel) xr_220_e rfl (by decide) (by decide) e119 ?_
      refine xc_i (k220 (d := d + 0)  (show xin (47) by decide) e118) rfl (fun hi121 => ?_)
      refine xe_ifne (off := 12) (t := 31) (by decide +kernel) (by decide) rfl hi121 (fun c122 => ?_) (fun c122 => ?_)
      · rw [if_pos c122] at h
        refine xW_lv rfl (l := []) (xsb_of trivial (show [0, 1].Nodup by decide)) ?_
        exact k242_31    h
      · rw [if_neg c122] at h
        refine xe_alr (ins := .aload_n 0) (len := 1) (i := 0) (by decide +kernel) rfl rfl rfl rfl rfl ?_
        refine xe_bipush (n := 37) (by decide +kernel) (by decide) rfl ?_
        obtain ⟨_, e124, h⟩ := xbnd h
        obtain ⟨R125, e123, h⟩ := xbnd h
        refine xs_cv (i := 115) (j := 220) (ar := [xI (37)]) (rest := []) (r2 := xr_220) (by decide +kernel) (by decide +kernel) (by decide +kernel) xr_220_e rfl (by decide) (by decide) e124 ?_
        refine xc_i (k220 (d := d + 0)  (show xin (37) by decide) e123) rfl (fun hi126 => ?_)
        refine xe_ifeq (off := 7) (t := 35) (by decide +kernel) (by decide) rfl hi126 (fun c127 => ?_) (fun c127 => ?_)
        · rw [if_pos c127] at h
          refine xe_iconst (n := 0) (by decide +kernel) rfl ?_
          refine xe_goto (off := 26) (nx := 62) (by decide +kernel) (by decide) ?_
          refine xW_lv rfl (l := []) (xsb_of trivial (show [0, 1].Nodup by decide)) ?_
          exact k242_62   (show xin (0) by decide) h
        · rw [if_neg c127] at h
          refine xW_lv rfl (l := []) (xsb_of trivial (show [0, 1].Nodup by decide)) ?_
          exact k242_31    h
-- ChangeHouseModel.faulty
def xr_251 : xj_mR := (15, yX15_faulty, cX15_faulty, 3, (Option.none : Option Jvm.ClassFile.FieldType), 2, false, (9, 84), (1, 12))
set_option maxRecDepth 20000 in
theorem xr_251_e : xj_row 251 = some xr_251 := rfl
def f251_31   (f : Nat)  (M : xj_M) : Option (xj_M) := (some M)
theorem k251_31 {d f : Nat}      {M : xj_M} {R : xj_M}  (h : f251_31   f  M = some R) : xW (d + 0) (none, d + 0, none) xr_251 (31, [], [], M) (xQv R) := by
  unfold f251_31 at h
  cases h
  exact xe_ret_v (by decide +kernel) rfl ⟨rfl, rfl⟩
def f251_32   (f : Nat) (x0 : Nat) (x1 : Int) (x2 : Int) (M : xj_M) : Option (xj_M) := ((xq_pi 15 26 (x0) (x1) M).bind fun M101 => ((xq_pi 15 27 (x0) (x2) M101).bind fun M103 => (some M103)))
theorem k251_32 {d f : Nat}     {x0 : Nat} {x1 : Int} {x2 : Int} {M : xj_M} {R : xj_M} (hx1 : xin x1) (hx2 : xin x2) (h : f251_32   f x0 x1 x2 M = some R) : xW (d + 0) (none, d + 0, none) xr_251 (32, [(0, xR_ x0), (1, xI x1), (2, xI x2)], [], M) (xQv R) := by
  unfold f251_32 at h
  refine xe_alr (ins := .aload_n 0) (len := 1) (i := 0) (by decide +kernel) rfl rfl rfl rfl rfl ?_
  refine xe_ldn (ins := .iload_n 1) (len := 1) (by decide +kernel) rfl rfl rfl rfl ?_
  obtain ⟨M101, e102, h⟩ := xbnd h
  refine xs_p (i := 382) (c := 15) (k := 26) (by decide +kernel) (by decide +kernel) (by decide +kernel) e102 rfl ?_
  refine xe_alr (ins := .aload_n 0) (len := 1) (i := 0) (by decide +kernel) rfl rfl rfl rfl rfl ?_
  refine xe_ldn (ins := .iload_n 2) (len := 1) (by decide +kernel) rfl rfl rfl rfl ?_
  obtain ⟨M103, e104, h⟩ := xbnd h
  refine xs_p (i := 385) (c := 15) (k := 27) (by decide +kernel) (by decide +kernel) (by decide +kernel) e104 rfl ?_
  cases h
  exact xe_ret_v (by decide +kernel) rfl ⟨rfl, rfl⟩
def f251  (f : Nat) (a0 : Nat) (a1 : Int) (a2 : Int) (M : xj_M) : Option (xj_M) := ((xq_gi 15 26 (a0) M).bind fun v105 => (if (v105) = 0 then f251_32   f (a0) (a1) (a2) M else ((xq_gi 15 26 (a0) M).bind fun v108 => (if (v108) < (a1) then f251_31   f  M else ((xq_gi 15 26 (a0) M).bind fun v111 => (if ¬ (v111) = (a1) then f251_32   f (a0) (a1) (a2) M else ((xq_gi 15 27 (a0) M).bind fun v114 => (if (a2) < (v114) then f251_32   f (a0) (a1) (a2) M else f251_31   f  M))))))))
theorem k251 {d f : Nat}   {a0 : Nat} {a1 : Int} {a2 : Int} {M : xj_M} {R : xj_M} (ha1 : xin a1) (ha2 : xin a2) (h : f251  f a0 a1 a2 M = some R) : xT (d + 1) 251 [xR_ a0, xI a1, xI a2] M (xQv R) := by
  refine xT_m xr_251_e (X := (none, d + 0, none)) rfl (xa_1 (xR_cat _) (xa_1 (xI_cat _) (xa_1 (xI_cat _) xa_n))) (by decide) ?_
  unfold f251 at h
  refine xe_alr (ins := .aload_n 0) (len := 1) (i := 0) (by decide +kernel) rfl rfl rfl rfl rfl ?_
  obtain ⟨v105, e106, h⟩ := xbnd h
  refine xs_gi (i := 382) (c := 15) (k := 26) (by decide +kernel) (by decide) (by decide +kernel) e106 rfl ?_
  refine xe_ifeq (off := 28) (t := 32) (by decide +kernel) (by decide) rfl (xq_gi_in e106) (fun c107 => ?_) (fun c107 => ?_)
  · rw [if_pos c107] at h
    refine xW_lv rfl (l := [(0, xR_ (a0)), (1, xI (a1)), (2, xI (a2))]) (xsb_of ⟨rfl, rfl, rfl, trivial⟩ (show [0, 1, 2].Nodup by decide)) ?_
    exact k251_32   ha1 ha2 h
  · rw [if_neg c107] at h
    refine xe_alr (ins := .aload_n 0) (len := 1) (i := 0) (by decide +kernel) rfl rfl rfl rfl rfl ?_
    obtain ⟨v108, e109, h⟩ := xbnd h
    refine xs_gi (i := 382) (c := 15) (k := 26) (by decide +kernel) (by decide) (by decide +kernel) e109 rfl ?_
    refine xe_ldn (ins := .iload_n 1) (len := 1) (by decide +kernel) rfl rfl rfl rfl ?_
    refine xe_icmplt (off := 19) (t := 31) (by decide +kernel) (by decide) rfl (xq_gi_in e109) ha1 (fun c110 => ?_) (fun c110 => ?_)
    · rw [if_pos c110] at h
      refine xW_lv rfl (l := []) (xsb_of trivial (show [0, 1, 2].Nodup by decide)) ?_
      exact k251_31    h
    · rw [if_neg c110] at h
      refine xe_alr (ins := .aload_n 0) (len := 1) (i := 0) (by decide +kernel) rfl rfl rfl rfl rfl ?_
      obtain ⟨v111, e112, h⟩ := xbnd h
      refine xs_gi (i := 382) (c := 15) (k := 26) (by decide +kernel) (by decide) (by decide +kernel) e112 rfl ?_
      refine xe_ldn (ins := .iload_n 1) (len := 1) (by decide +kernel) rfl rfl rfl rfl ?_
      refine xe_icmpne (off := 12) (t := 32) (by decide +kernel) (by decide) rfl (xq_gi_in e112) ha1 (fun c113 => ?_) (fun c113 => ?_)
      · rw [if_pos c113] at h
        refine xW_lv rfl (l := [(0, xR_ (a0)), (1, xI (a1)), (2, xI (a2))]) (xsb_of ⟨rfl, rfl, rfl, trivial⟩ (show [0, 1, 2].Nodup by decide)) ?_
        exact k251_32   ha1 ha2 h
      · rw [if_neg c113] at h
        refine xe_alr (ins := .aload_n 0) (len := 1) (i := 0) (by decide +kernel) rfl rfl rfl rfl rfl ?_
        obtain ⟨v114, e115, h⟩ := xbnd h
        refine xs_gi (i := 385) (c := 15) (k := 27) (by decide +kernel) (by decide) (by decide +kernel) e115 rfl ?_
        refine xe_ldn (ins := .iload_n 2) (len := 1) (by decide +kernel) rfl rfl rfl rfl ?_
        refine xe_icmpgt (off := 4) (t := 32) (by decide +kernel) (by decide) rfl (xq_gi_in e115) ha2 (fun c116 => ?_) (fun c116 => ?_)
        · rw [if_pos c116] at h
          refine xW_lv rfl (l := [(0, xR_ (a0)), (1, xI (a1)), (2, xI (a2))]) (xsb_of ⟨rfl, rfl, rfl, trivial⟩ (show [0, 1, 2].Nodup by decide)) ?_
          exact k251_32   ha1 ha2 h
        · rw [if_neg c116] at h
          refine xW_lv rfl (l := []) (xsb_of trivial (show [0, 1, 2].Nodup by decide)) ?_
          exact k251_31    h
