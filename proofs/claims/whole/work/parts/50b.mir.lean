/-! Mirrors (written by mk_mir.py) -/
-- ChangeHouseModel.isTwice
def xr_253 : xj_mR := (15, yX15_isTwice, cX15_isTwice, 2, (Option.some Jvm.ClassFile.FieldType.boolean), 2, false, (9, 80), (1, 12))
set_option maxRecDepth 20000 in
theorem xr_253_e : xj_row 253 = some xr_253 := rfl
def f253_40   (f : Nat) (y0 : Int) (M : xj_M) : Option (Int × xj_M) := (if (y0) = 0 ∨ (y0) = 1 then some (y0, M) else none)
theorem k253_40 {d f : Nat}     {y0 : Int} {M : xj_M} {R : Int × xj_M} (hy0 : xin y0) (h : f253_40   f y0 M = some R) : xW (d + 0) (none, d + 0, none) xr_253 (40, [], [xI y0], M) (xQi R) := by
  unfold f253_40 at h
  by_cases c101 : (y0) = 0 ∨ (y0) = 1
  · rw [if_pos c101] at h; cases h; exact xe_ret_i (ty := .boolean) (by decide +kernel) rfl (xbool c101) ⟨rfl, rfl, hy0⟩
  · rw [if_neg c101] at h; cases h
def f253_35   (f : Nat)  (M : xj_M) : Option (Int × xj_M) := f253_40   f (1) M
theorem k253_35 {d f : Nat}      {M : xj_M} {R : Int × xj_M}  (h : f253_35   f  M = some R) : xW (d + 0) (none, d + 0, none) xr_253 (35, [], [], M) (xQi R) := by
  unfold f253_35 at h
  refine xe_iconst (n := 1) (by decide +kernel) rfl ?_
  refine xe_goto (off := 4) (nx := 40) (by decide +kernel) (by decide) ?_
  refine xW_lv rfl (l := []) (xsb_of trivial (show [].Nodup by decide)) ?_
  exact k253_40   (show xin (1) by decide) h
def f253_39   (f : Nat)  (M : xj_M) : Option (Int × xj_M) := f253_40   f (0) M
theorem k253_39 {d f : Nat}      {M : xj_M} {R : Int × xj_M}  (h : f253_39   f  M = some R) : xW (d + 0) (none, d + 0, none) xr_253 (39, [], [], M) (xQi R) := by
  unfold f253_39 at h
  refine xe_iconst (n := 0) (by decide +kernel) rfl ?_
  refine xW_lv rfl (l := []) (xsb_of trivial (show [].Nodup by decide)) ?_
  exact k253_40   (show xin (0) by decide) h
def f253_25   (f : Nat) (x0 : Int) (x1 : Int) (M : xj_M) : Option (Int × xj_M) := (if ¬ (x0) = (3) then f253_39   f  M else (if ¬ (x1) = (1) then f253_39   f  M else f253_35   f  M))
theorem k253_25 {d f : Nat}     {x0 : Int} {x1 : Int} {M : xj_M} {R : Int × xj_M} (hx0 : xin x0) (hx1 : xin x1) (h : f253_25   f x0 x1 M = some R) : xW (d + 0) (none, d + 0, none) xr_253 (25, [(0, xI x0), (1, xI x1)], [], M) (xQi R) := by
  unfold f253_25 at h
  refine xe_ldn (ins := .iload_n 0) (len := 1) (by decide +kernel) rfl rfl rfl rfl ?_
  refine xe_iconst (n := 3) (by decide +kernel) rfl ?_
  refine xe_icmpne (off := 12) (t := 39) (by decide +kernel) (by decide) rfl hx0 (show xin (3) by decide) (fun c102 => ?_) (fun c102 => ?_)
  · rw [if_pos c102] at h
    refine xW_lv rfl (l := []) (xsb_of trivial (show [0, 1].Nodup by decide)) ?_
    exact k253_39    h
  · rw [if_neg c102] at h
    refine xe_ldn (ins := .iload_n 1) (len := 1) (by decide +kernel) rfl rfl rfl rfl ?_
    refine xe_iconst (n := 1) (by decide +kernel) rfl ?_
    refine xe_icmpne (off := 7) (t := 39) (by decide +kernel) (by decide) rfl hx1 (show xin (1) by decide) (fun c103 => ?_) (fun c103 => ?_)
    · rw [if_pos c103] at h
      refine xW_lv rfl (l := []) (xsb_of trivial (show [0, 1].Nodup by decide)) ?_
      exact k253_39    h
    · rw [if_neg c103] at h
      refine xW_lv rfl (l := []) (xsb_of trivial (show [0, 1].Nodup by decide)) ?_
      exact k253_35    h
def f253_15   (f : Nat) (x0 : Int) (x1 : Int) (M : xj_M) : Option (Int × xj_M) := (if ¬ (x0) = (1) then f253_25   f (x0) (x1) M else (if (x1) = (3) then f253_35   f  M else f253_25   f (x0) (x1) M))
theorem k253_15 {d f : Nat}     {x0 : Int} {x1 : Int} {M : xj_M} {R : Int × xj_M} (hx0 : xin x0) (hx1 : xin x1) (h : f253_15   f x0 x1 M = some R) : xW (d + 0) (none, d + 0, none) xr_253 (15, [(0, xI x0), (1, xI x1)], [], M) (xQi R) := by
  unfold f253_15 at h
  refine xe_ldn (ins := .iload_n 0) (len := 1) (by decide +kernel) rfl rfl rfl rfl ?_
  refine xe_iconst (n := 1) (by decide +kernel) rfl ?_
  refine xe_icmpne (off := 8) (t := 25) (by decide +kernel) (by decide) rfl hx0 (show xin (1) by decide) (fun c104 => ?_) (fun c104 => ?_)
  · rw [if_pos c104] at h
    refine xW_lv rfl (l := [(0, xI (x0)), (1, xI (x1))]) (xsb_of ⟨rfl, rfl, trivial⟩ (show [0, 1].Nodup by decide)) ?_
    exact k253_25   hx0 hx1 h
  · rw [if_neg c104] at h
    refine xe_ldn (ins := .iload_n 1) (len := 1) (by decide +kernel) rfl rfl rfl rfl ?_
    refine xe_iconst (n := 3) (by decide +kernel) rfl ?_
    refine xe_icmpeq (off := 13) (t := 35) (by decide +kernel) (by decide) rfl hx1 (show xin (3) by decide) (fun c105 => ?_) (fun c105 => ?_)
    · rw [if_pos c105] at h
      refine xW_lv rfl (l := []) (xsb_of trivial (show [0, 1].Nodup by decide)) ?_
      exact k253_35    h
    · rw [if_neg c105] at h
      refine xW_lv rfl (l := [(0, xI (x0)), (1, xI (x1))]) (xsb_of ⟨rfl, rfl, trivial⟩ (show [0, 1].Nodup by decide)) ?_
      exact k253_25   hx0 hx1 h
def f253  (f : Nat) (a0 : Int) (a1 : Int) (M : xj_M) : Option (Int × xj_M) := (if ¬ (a0) = (a1) then f253_15   f (a0) (a1) M else (if (a0) = (1) then f253_35   f  M else (if (a0) = (2) then f253_35   f  M else f253_15   f (a0) (a1) M)))
theorem k253 {d f : Nat}   {a0 : Int} {a1 : Int} {M : xj_M} {R : Int × xj_M} (ha0 : xin a0) (ha1 : xin a1) (h : f253  f a0 a1 M = some R) : xT (d + 1) 253 [xI a0, xI a1] M (xQi R) := by
  refine xT_m xr_253_e (X := (none, d + 0, none)) rfl (xa_1 (xI_cat _) (xa_1 (xI_cat _) xa_n)) (by decide) ?_
  unfold f253 at h
  refine xe_ldn (ins := .iload_n 0) (len := 1) (by decide +kernel) rfl rfl rfl rfl ?_
  refine xe_ldn (ins := .iload_n 1) (len := 1) (by decide +kernel) rfl rfl rfl rfl ?_
  refine xe_icmpne (off := 13) (t := 15) (by decide +kernel) (by decide) rfl ha0 ha1 (fun c106 => ?_) (fun c106 => ?_)
  · rw [if_pos c106] at h
    refine xW_lv rfl (l := [(0, xI (a0)), (1, xI (a1))]) (xsb_of ⟨rfl, rfl, trivial⟩ (show [0, 1].Nodup by decide)) ?_
    exact k253_15   ha0 ha1 h
  · rw [if_neg c106] at h
    refine xe_ldn (ins := .iload_n 0) (len := 1) (by decide +kernel) rfl rfl rfl rfl ?_
    refine xe_iconst (n := 1) (by decide +kernel) rfl ?_
    refine xe_icmpeq (off := 28) (t := 35) (by decide +kernel) (by decide) rfl ha0 (show xin (1) by decide) (fun c107 => ?_) (fun c107 => ?_)
    · rw [if_pos c107] at h
      refine xW_lv rfl (l := []) (xsb_of trivial (show [0, 1].Nodup by decide)) ?_
      exact k253_35    h
    · rw [if_neg c107] at h
      refine xe_ldn (ins := .iload_n 0) (len := 1) (by decide +kernel) rfl rfl rfl rfl ?_
      refine xe_iconst (n := 2) (by decide +kernel) rfl ?_
      refine xe_icmpeq (off := 23) (t := 35) (by decide +kernel) (by decide) rfl ha0 (show xin (2) by decide) (fun c108 => ?_) (fun c108 => ?_)
      · rw [if_pos c108] at h
        refine xW_lv rfl (l := []) (xsb_of trivial (show [0, 1].Nodup by decide)) ?_
        exact k253_35    h
      · rw [if_neg c108] at h
        refine xW_lv rfl (l := [(0, xI (a0)), (1, xI (a1))]) (xsb_of ⟨rfl, rfl, trivial⟩ (show [0, 1].Nodup by decide)) ?_
        exact k253_15   ha0 ha1 h
-- ChangeHouseModel.findParts
def xr_254 : xj_mR := (15, yX15_findParts, cX15_findParts, 5, (Option.none : Option Jvm.ClassFile.FieldType), 1, false, (9, 88), (1, 12))
set_option maxRecDepth 20000 in
theorem xr_254_e : xj_row 254 = some xr_254 := rfl
def f254_70  (r2 : Nat → Nat → Int → xj_M → Option (xj_M)) (r15 : Nat → Nat → Int → Int → Int → xj_M → Option (xj_M)) (f : Nat) (x0 : Nat) (x1 : Nat) (x2 : Int) (x3 : Int) (x4 : Int) (M : xj_M) : Option (xj_M) := r15 (x0) (x1) (x2) (x3) (xwr ((x4) + (1))) M
theorem k254_70 {d f : Nat}  {r2 : Nat → Nat → Int → xj_M → Option (xj_M)} {r15 : Nat → Nat → Int → Int → Int → xj_M → Option (xj_M)}  (hr2 : ∀ {x0 : Nat} {x1 : Nat} {x2 : Int} {M : xj_M} {R : xj_M}, xin x2 → r2 x0 x1 x2 M = some R → xW (d + 1) (none, d + 1, none) xr_254 (2, [(0, xR_ x0), (1, xR_ x1), (2, xI x2)], [], M) (xQv R)) (hr15 : ∀ {x0 : Nat} {x1 : Nat} {x2 : Int} {x3 : Int} {x4 : Int} {M : xj_M} {R : xj_M}, xin x2 → xin x3 → xin x4 → r15 x0 x1 x2 x3 x4 M = some R → xW (d + 1) (none, d + 1, none) xr_254 (15, [(0, xR_ x0), (1, xR_ x1), (2, xI x2), (3, xI x3), (4, xI x4)], [], M) (xQv R)) {x0 : Nat} {x1 : Nat} {x2 : Int} {x3 : Int} {x4 : Int} {M : xj_M} {R : xj_M} (hx2 : xin x2) (hx3 : xin x3) (hx4 : xin x4) (h : f254_70  r2 r15 f x0 x1 x2 x3 x4 M = some R) : xW (d + 1) (none, d + 1, none) xr_254 (70, [(0, xR_ x0), (1, xR_ x1), (2, xI x2), (3, xI x3), (4, xI x4)], [], M) (xQv R) := by
  unfold f254_70 at h
  refine xe_iincr (i := 4) (n := 1) (by decide +kernel) (by decide) rfl (xk_k (show ¬ (0 : Nat) = 4 by decide) (Or.inl (show ¬ (0 + 1 : Nat) = 4 by decide)) (xk_k (show ¬ (1 : Nat) = 4 by decide) (Or.inl (show ¬ (1 + 1 : Nat) = 4 by decide)) (xk_k (show ¬ (2 : Nat) = 4 by decide) (Or.inl (show ¬ (2 + 1 : Nat) = 4 by decide)) (xk_k (show ¬ (3 : Nat) = 4 by decide) (Or.inr (xI_cat _)) (xk_d rfl xk_n))))) rfl ?_
  refine xe_goto (off := -58) (nx := 15) (by decide +kernel) (by decide) ?_
  refine xW_lv rfl (l := [(0, xR_ (x0)), (1, xR_ (x1)), (2, xI (x2)), (3, xI (x3)), (4, xI (xwr ((x4) + (1))))]) (xsb_of ⟨rfl, rfl, rfl, rfl, rfl, trivial⟩ (show [4, 0, 1, 2, 3].Nodup by decide)) ?_
  exact hr15 hx2 hx3 (xin_wr _) h
def f254_67  (r2 : Nat → Nat → Int → xj_M → Option (xj_M)) (r15 : Nat → Nat → Int → Int → Int → xj_M → Option (xj_M)) (f : Nat) (x0 : Nat) (x1 : Nat) (x2 : Int) (x4 : Int) (M : xj_M) : Option (xj_M) := f254_70  r2 r15 f (x0) (x1) (x2) (x4) (x4) M
theorem k254_67 {d f : Nat}  {r2 : Nat → Nat → Int → xj_M → Option (xj_M)} {r15 : Nat → Nat → Int → Int → Int → xj_M → Option (xj_M)}  (hr2 : ∀ {x0 : Nat} {x1 : Nat} {x2 : Int} {M : xj_M} {R : xj_M}, xin x2 → r2 x0 x1 x2 M = some R → xW (d + 1) (none, d + 1, none) xr_254 (2, [(0, xR_ x0), (1, xR_ x1), (2, xI x2)], [], M) (xQv R)) (hr15 : ∀ {x0 : Nat} {x1 : Nat} {x2 : Int} {x3 : Int} {x4 : Int} {M : xj_M} {R : xj_M}, xin x2 → xin x3 → xin x4 → r15 x0 x1 x2 x3 x4 M = some R → xW (d + 1) (none, d + 1, none) xr_254 (15, [(0, xR_ x0), (1, xR_ x1), (2, xI x2), (3, xI x3), (4, xI x4)], [], M) (xQv R)) {x0 : Nat} {x1 : Nat} {x2 : Int} {x4 : Int} {M : xj_M} {R : xj_M} (hx2 : xin x2) (hx4 : xin x4) (h : f254_67  r2 r15 f x0 x1 x2 x4 M = some R) : xW (d + 1) (none, d + 1, none) xr_254 (67, [(0, xR_ x0), (1, xR_ x1), (2, xI x2), (4, xI x4)], [], M) (xQv R) := by
  unfold f254_67 at h
  refine xe_ldn (ins := .iload 4) (len := 2) (by decide +kernel) rfl rfl rfl rfl ?_
  refine xe_isr (ins := .istore_n 3) (len := 1) (i := 3) (by decide +kernel) rfl rfl rfl (by decide) (xk_k (show ¬ (0 : Nat) = 3 by decide) (Or.inl (show ¬ (0 + 1 : Nat) = 3 by decide)) (xk_k (show ¬ (1 : Nat) = 3 by decide) (Or.inl (show ¬ (1 + 1 : Nat) = 3 by decide)) (xk_k (show ¬ (2 : Nat) = 3 by decide) (Or.inr (xI_cat _)) (xk_k (show ¬ (4 : Nat) = 3 by decide) (Or.inl (show ¬ (4 + 1 : Nat) = 3 by decide)) xk_n)))) rfl ?_
  refine xW_lv rfl (l := [(0, xR_ (x0)), (1, xR_ (x1)), (2, xI (x2)), (3, xI (x4)), (4, xI (x4))]) (xsb_of ⟨rfl, rfl, rfl, rfl, rfl, trivial⟩ (show [3, 0, 1, 2, 4].Nodup by decide)) ?_
  exact k254_70  hr2 hr15 hx2 hx4 hx4 h
def f254_164  (r2 : Nat → Nat → Int → xj_M → Option (xj_M)) (f : Nat) (x0 : Nat) (x1 : Nat) (x2 : Int) (M : xj_M) : Option (xj_M) := r2 (x0) (x1) (xwr ((x2) + (1))) M
theorem k254_164 {d f : Nat}  {r2 : Nat → Nat → Int → xj_M → Option (xj_M)}  (hr2 : ∀ {x0 : Nat} {x1 : Nat} {x2 : Int} {M : xj_M} {R : xj_M}, xin x2 → r2 x0 x1 x2 M = some R → xW (d + 1) (none, d + 1, none) xr_254 (2, [(0, xR_ x0), (1, xR_ x1), (2, xI x2)], [], M) (xQv R)) {x0 : Nat} {x1 : Nat} {x2 : Int} {M : xj_M} {R : xj_M} (hx2 : xin x2) (h : f254_164  r2 f x0 x1 x2 M = some R) : xW (d + 1) (none, d + 1, none) xr_254 (164, [(0, xR_ x0), (1, xR_ x1), (2, xI x2)], [], M) (xQv R) := by
  unfold f254_164 at h
  refine xe_iincr (i := 2) (n := 1) (by decide +kernel) (by decide) rfl (xk_k (show ¬ (0 : Nat) = 2 by decide) (Or.inl (show ¬ (0 + 1 : Nat) = 2 by decide)) (xk_k (show ¬ (1 : Nat) = 2 by decide) (Or.inr (xR_cat _)) (xk_d rfl xk_n))) rfl ?_
  refine xe_goto (off := -165) (nx := 2) (by decide +kernel) (by decide) ?_
  refine xW_lv rfl (l := [(0, xR_ (x0)), (1, xR_ (x1)), (2, xI (xwr ((x2) + (1))))]) (xsb_of ⟨rfl, rfl, rfl, trivial⟩ (show [2, 0, 1].Nodup by decide)) ?_
  exact hr2 (xin_wr _) h
def f254_158  (r2 : Nat → Nat → Int → xj_M → Option (xj_M)) (r99 : Nat → Nat → Int → Int → xj_M → Option (xj_M)) (f : Nat) (x0 : Nat) (x1 : Nat) (x2 : Int) (x4 : Int) (M : xj_M) : Option (xj_M) := r99 (x0) (x1) (x2) (xwr ((x4) + (1))) M
theorem k254_158 {d f : Nat}  {r2 : Nat → Nat → Int → xj_M → Option (xj_M)} {r99 : Nat → Nat → Int → Int → xj_M → Option (xj_M)}  (hr2 : ∀ {x0 : Nat} {x1 : Nat} {x2 : Int} {M : xj_M} {R : xj_M}, xin x2 → r2 x0 x1 x2 M = some R → xW (d + 1) (none, d + 1, none) xr_254 (2, [(0, xR_ x0), (1, xR_ x1), (2, xI x2)], [], M) (xQv R)) (hr99 : ∀ {x0 : Nat} {x1 : Nat} {x2 : Int} {x4 : Int} {M : xj_M} {R : xj_M}, xin x2 → xin x4 → r99 x0 x1 x2 x4 M = some R → xW (d + 1) (none, d + 1, none) xr_254 (99, [(0, xR_ x0), (1, xR_ x1), (2, xI x2), (4, xI x4)], [], M) (xQv R)) {x0 : Nat} {x1 : Nat} {x2 : Int} {x4 : Int} {M : xj_M} {R : xj_M} (hx2 : xin x2) (hx4 : xin x4) (h : f254_158  r2 r99 f x0 x1 x2 x4 M = some R) : xW (d + 1) (none, d + 1, none) xr_254 (158, [(0, xR_ x0), (1, xR_ x1), (2, xI x2), (4, xI x4)], [], M) (xQv R) := by
  unfold f254_158 at h
  refine xe_iincr (i := 4) (n := 1) (by decide +kernel) (by decide) rfl (xk_k (show ¬ (0 : Nat) = 4 by decide) (Or.inl (show ¬ (0 + 1 : Nat) = 4 by decide)) (xk_k (show ¬ (1 : Nat) = 4 by decide) (Or.inl (show ¬ (1 + 1 : Nat) = 4 by decide)) (xk_k (show ¬ (2 : Nat) = 4 by decide) (Or.inl (show ¬ (2 + 1 : Nat) = 4 by decide)) (xk_d rfl xk_n)))) rfl ?_
  refine xe_goto (off := -62) (nx := 99) (by decide +kernel) (by decide) ?_
  refine xW_lv rfl (l := [(0, xR_ (x0)), (1, xR_ (x1)), (2, xI (x2)), (4, xI (xwr ((x4) + (1))))]) (xsb_of ⟨rfl, rfl, rfl, rfl, trivial⟩ (show [4, 0, 1, 2].Nodup by decide)) ?_
  exact hr99 hx2 (xin_wr _) h
def f254_99b  (r2 : Nat → Nat → Int → xj_M → Option (xj_M)) (r99 : Nat → Nat → Int → Int → xj_M → Option (xj_M)) (f : Nat) (x0 : Nat) (x1 : Nat) (x2 : Int) (x4 : Int) (M : xj_M) : Option (xj_M) := ((xq_gi 14 14 (x1) M).bind fun v101 => (if (v101) ≤ (x4) then f254_164  r2 f (x0) (x1) (x2) M else ((xq_gr 14 10 (x1) M).bind fun v104 => ((xq_ai 3 (v104) (x4) M).bind fun v106 => (if ¬ (v106) = (x2) then f254_158  r2 r99 f (x0) (x1) (x2) (x4) M else ((xq_gr 14 12 (x1) M).bind fun v109 => ((xq_ai 3 (v109) (x4) M).bind fun v111 => (if (v111) = (-1) then f254_158  r2 r99 f (x0) (x1) (x2) (x4) M else ((xq_gr 14 12 (x1) M).bind fun v114 => ((xq_ai 3 (v114) (x4) M).bind fun v116 => ((xq_gr 14 1 (x1) M).bind fun v118 => ((xq_ai 3 (v118) (x2) M).bind fun v120 => (if (v116) = (v120) then f254_158  r2 r99 f (x0) (x1) (x2) (x4) M else ((xq_gr 14 11 (x1) M).bind fun v123 => ((xq_ai 3 (v123) (x4) M).bind fun v125 => ((xq_is 15 (x0) M).bind fun _ => ((f251  f (x0) (3) (v125) M).bind fun M129 => f254_158  r2 r99 f (x0) (x1) (x2) (x4) M129)))))))))))))))))
theorem k254_99b {d f : Nat}  {r2 : Nat → Nat → Int → xj_M → Option (xj_M)} {r99 : Nat → Nat → Int → Int → xj_M → Option (xj_M)}  (hr2 : ∀ {x0 : Nat} {x1 : Nat} {x2 : Int} {M : xj_M} {R : xj_M}, xin x2 → r2 x0 x1 x2 M = some R → xW (d + 1) (none, d + 1, none) xr_254 (2, [(0, xR_ x0), (1, xR_ x1), (2, xI x2)], [], M) (xQv R)) (hr99 : ∀ {x0 : Nat} {x1 : Nat} {x2 : Int} {x4 : Int} {M : xj_M} {R : xj_M}, xin x2 → xin x4 → r99 x0 x1 x2 x4 M = some R → xW (d + 1) (none, d + 1, none) xr_254 (99, [(0, xR_ x0), (1, xR_ x1), (2, xI x2), (4, xI x4)], [], M) (xQv R)) {x0 : Nat} {x1 : Nat} {x2 : Int} {x4 : Int} {M : xj_M} {R : xj_M} (hx2 : xin x2) (hx4 : xin x4) (h : f254_99b  r2 r99 f x0 x1 x2 x4 M = some R) : xW (d + 1) (none, d + 1, none) xr_254 (99, [(0, xR_ x0), (1, xR_ x1), (2, xI x2), (4, xI x4)], [], M) (xQv R) := by
  unfold f254_99b at h
  refine xe_ldn (ins := .iload 4) (len := 2) (by decide +kernel) rfl rfl rfl rfl ?_
  refine xe_alr (ins := .aload_n 1) (len := 1) (i := 1) (by decide +kernel) rfl rfl rfl rfl rfl ?_
  obtain ⟨v101, e102, h⟩ := xbnd h
  refine xs_gi (i := 174) (c := 14) (k := 14) (by decide +kernel) (by decide) (by decide +kernel) e102 rfl ?_
  refine xe_icmpge (off := 59) (t := 164) (by decide +kernel) (by decide) rfl hx4 (xq_gi_in e102) (fun c103 => ?_) (fun c103 => ?_)
  · rw [if_pos c103] at h
    refine xW_lv rfl (l := [(0, xR_ (x0)), (1, xR_ (x1)), (2, xI (x2))]) (xsb_of ⟨rfl, rfl, rfl, trivial⟩ (show [0, 1, 2, 4].Nodup by decide)) ?_
    exact k254_164  hr2 hx2 h
  · rw [if_neg c103] at h
    refine xe_alr (ins := .aload_n 1) (len := 1) (i := 1) (by decide +kernel) rfl rfl rfl rfl rfl ?_
    obtain ⟨v104, e105, h⟩ := xbnd h
    refine xs_gr (i := 201) (c := 14) (k := 10) (by decide +kernel) (by decide) (by decide +kernel) e105 rfl ?_
    refine xe_ldn (ins := .iload 4) (len := 2) (by decide +kernel) rfl rfl rfl rfl ?_
    obtain ⟨v106, e107, h⟩ := xbnd h
    refine xs_iald rfl (by decide +kernel) hx4 e107 rfl ?_
    refine xe_ldn (ins := .iload_n 2) (len := 1) (by decide +kernel) rfl rfl rfl rfl ?_
    refine xe_icmpne (off := 42) (t := 158) (by decide +kernel) (by decide) rfl (xq_ai_in e107) hx2 (fun c108 => ?_) (fun c108 => ?_)
    · rw [if_pos c108] at h
      refine xW_lv rfl (l := [(0, xR_ (x0)), (1, xR_ (x1)), (2, xI (x2)), (4, xI (x4))]) (xsb_of ⟨rfl, rfl, rfl, rfl, trivial⟩ (show [0, 1, 2, 4].Nodup by decide)) ?_
      exact k254_158  hr2 hr99 hx2 hx4 h
    · rw [if_neg c108] at h
      refine xe_alr (ins := .aload_n 1) (len := 1) (i := 1) (by decide +kernel) rfl rfl rfl rfl rfl ?_
      obtain ⟨v109, e110, h⟩ := xbnd h
      refine xs_gr (i := 207) (c := 14) (k := 12) (by decide +kernel) (by decide) (by decide +kernel) e110 rfl ?_
      refine xe_ldn (ins := .iload 4) (len := 2) (by decide +kernel) rfl rfl rfl rfl ?_
      obtain ⟨v111, e112, h⟩ := xbnd h
      refine xs_iald rfl (by decide +kernel) hx4 e112 rfl ?_
      refine xe_iconst (n := -1) (by decide +kernel) rfl ?_
      refine xe_icmpeq (off := 31) (t := 158) (by decide +kernel) (by decide) rfl (xq_ai_in e112) (show xin (-1) by decide) (fun c113 => ?_) (fun c113 => ?_)
      · rw [if_pos c113] at h
        refine xW_lv rfl (l := [(0, xR_ (x0)), (1, xR_ (x1)), (2, xI (x2)), (4, xI (x4))]) (xsb_of ⟨rfl, rfl, rfl, rfl, trivial⟩ (show [0, 1, 2, 4].Nodup by decide)) ?_
        exact k254_158  hr2 hr99 hx2 hx4 h
      · rw [if_neg c113] at h
        refine xe_alr (ins := .aload_n 1) (len := 1) (i := 1) (by decide +kernel) rfl rfl rfl rfl rfl ?_
        obtain ⟨v114, e115, h⟩ := xbnd h
        refine xs_gr (i := 207) (c := 14) (k := 12) (by decide +kernel) (by decide) (by decide +kernel) e115 rfl ?_
        refine xe_ldn (ins := .iload 4) (len := 2) (by decide +kernel) rfl rfl rfl rfl ?_
        obtain ⟨v116, e117, h⟩ := xbnd h
        refine xs_iald rfl (by decide +kernel) hx4 e117 rfl ?_
        refine xe_alr (ins := .aload_n 1) (len := 1) (i := 1) (by decide +kernel) rfl rfl rfl rfl rfl ?_
        obtain ⟨v118, e119, h⟩ := xbnd h
        refine xs_gr (i := 180) (c := 14) (k := 1) (by decide +kernel) (by decide) (by decide +kernel) e119 rfl ?_
        refine xe_ldn (ins := .iload_n 2) (len := 1) (by decide +kernel) rfl rfl rfl rfl ?_
        obtain ⟨v120, e121, h⟩ := xbnd h
        refine xs_iald rfl (by decide +kernel) hx2 e121 rfl ?_
        refine xe_icmpeq (off := 15) (t := 158) (by decide +kernel) (by decide) rfl (xq_ai_in e117) (xq_ai_in e121) (fun c122 => ?_) (fun c122 => ?_)
        · rw [if_pos c122] at h
          refine xW_lv rfl (l := [(0, xR_ (x0)), (1, xR_ (x1)), (2, xI (x2)), (4, xI (x4))]) (xsb_of ⟨rfl, rfl, rfl, rfl, trivial⟩ (show [0, 1, 2, 4].Nodup by decide)) ?_
          exact k254_158  hr2 hr99 hx2 hx4 h
        · rw [if_neg c122] at h
          refine xe_alr (ins := .aload_n 0) (len := 1) (i := 0) (by decide +kernel) rfl rfl rfl rfl rfl ?_
          refine xe_iconst (n := 3) (by decide +kernel) rfl ?_
          refine xe_alr (ins := .aload_n 1) (len := 1) (i := 1) (by decide +kernel) rfl rfl rfl rfl rfl ?_
          obtain ⟨v123, e124, h⟩ := xbnd h
          refine xs_gr (i := 204) (c := 14) (k := 11) (by decide +kernel) (by decide) (by decide +kernel) e124 rfl ?_
          refine xe_ldn (ins := .iload 4) (len := 2) (by decide +kernel) rfl rfl rfl rfl ?_
          obtain ⟨v125, e126, h⟩ := xbnd h
          refine xs_iald rfl (by decide +kernel) hx4 e126 rfl ?_
          obtain ⟨_, e128, h⟩ := xbnd h
          obtain ⟨M129, e127, h⟩ := xbnd h
          refine xs_cv (i := 392) (j := 251) (ar := [xI (v125), xI (3)]) (rest := []) (r2 := xr_251) (by decide +kernel) (by decide +kernel) (by decide +kernel) xr_251_e rfl (by decide) (by decide) e128 ?_
          refine xc_v (k251 (d := d + 0)  (show xin (3) by decide) (xq_ai_in e126) e127) rfl ?_
          refine xW_lv rfl (l := [(0, xR_ (x0)), (1, xR_ (x1)), (2, xI (x2)), (4, xI (x4))]) (xsb_of ⟨rfl, rfl, rfl, rfl, trivial⟩ (show [0, 1, 2, 4].Nodup by decide)) ?_
          exact k254_158  hr2 hr99 hx2 hx4 h
def f254_99  (r2 : Nat → Nat → Int → xj_M → Option (xj_M)) (f : Nat) : Nat → Nat → Nat → Int → Int → xj_M → Option (xj_M)
  | 0, _, _, _, _, _ => none
  | n + 1, x0, x1, x2, x4, M => f254_99b  r2 (f254_99  r2 f n) f x0 x1 x2 x4 M
theorem k254_99 {d f : Nat}  {r2 : Nat → Nat → Int → xj_M → Option (xj_M)}  (hr2 : ∀ {x0 : Nat} {x1 : Nat} {x2 : Int} {M : xj_M} {R : xj_M}, xin x2 → r2 x0 x1 x2 M = some R → xW (d + 1) (none, d + 1, none) xr_254 (2, [(0, xR_ x0), (1, xR_ x1), (2, xI x2)], [], M) (xQv R)) : ∀ {n : Nat} {x0 : Nat} {x1 : Nat} {x2 : Int} {x4 : Int} {M : xj_M} {R : xj_M}, xin x2 → xin x4 → f254_99  r2 f n x0 x1 x2 x4 M = some R → xW (d + 1) (none, d + 1, none) xr_254 (99, [(0, xR_ x0), (1, xR_ x1), (2, xI x2), (4, xI x4)], [], M) (xQv R) := by
  intro n
  induction n with
  | zero => intros; rename_i h; cases h
  | succ n ih => intros; rename_i h; exact k254_99b  hr2 ih (by assumption) (by assumption) h
def f254_15b  (r2 : Nat → Nat → Int → xj_M → Option (xj_M)) (r15 : Nat → Nat → Int → Int → Int → xj_M → Option (xj_M)) (f : Nat) (x0 : Nat) (x1 : Nat) (x2 : Int) (x3 : Int) (x4 : Int) (M : xj_M) : Option (xj_M) := ((xq_gi 14 14 (x1) M).bind fun v131 => (if (v131) ≤ (x4) then (if ¬ (x3) = (-1) then ((xq_gr 14 1 (x1) M).bind fun v135 => ((xq_gr 14 12 (x1) M).bind fun v137 => ((xq_ai 3 (v137) (x3) M).bind fun v139 => ((xq_si (v135) (x2) (v139) M).bind fun M141 => f254_99  r2 f f (x0) (x1) (x2) (0) M141)))) else f254_164  r2 f (x0) (x1) (x2) M) else ((xq_gr 14 10 (x1) M).bind fun v143 => ((xq_ai 3 (v143) (x4) M).bind fun v145 => (if ¬ (v145) = (x2) then f254_70  r2 r15 f (x0) (x1) (x2) (x3) (x4) M else ((xq_gr 14 12 (x1) M).bind fun v148 => ((xq_ai 3 (v148) (x4) M).bind fun v150 => (if (v150) = (-1) then f254_70  r2 r15 f (x0) (x1) (x2) (x3) (x4) M else (if (x3) = (-1) then f254_67  r2 r15 f (x0) (x1) (x2) (x4) M else ((xq_gr 14 11 (x1) M).bind fun v154 => ((xq_ai 3 (v154) (x4) M).bind fun v156 => ((xq_gr 14 11 (x1) M).bind fun v158 => ((xq_ai 3 (v158) (x3) M).bind fun v160 => (if (v160) ≤ (v156) then f254_70  r2 r15 f (x0) (x1) (x2) (x3) (x4) M else f254_67  r2 r15 f (x0) (x1) (x2) (x4) M))))))))))))))
theorem k254_15b {d f : Nat}  {r2 : Nat → Nat → Int → xj_M → Option (xj_M)} {r15 : Nat → Nat → Int → Int → Int → xj_M → Option (xj_M)}  (hr2 : ∀ {x0 : Nat} {x1 : Nat} {x2 : Int} {M : xj_M} {R : xj_M}, xin x2 → r2 x0 x1 x2 M = some R → xW (d + 1) (none, d + 1, none) xr_254 (2, [(0, xR_ x0), (1, xR_ x1), (2, xI x2)], [], M) (xQv R)) (hr15 : ∀ {x0 : Nat} {x1 : Nat} {x2 : Int} {x3 : Int} {x4 : Int} {M : xj_M} {R : xj_M}, xin x2 → xin x3 → xin x4 → r15 x0 x1 x2 x3 x4 M = some R → xW (d + 1) (none, d + 1, none) xr_254 (15, [(0, xR_ x0), (1, xR_ x1), (2, xI x2), (3, xI x3), (4, xI x4)], [], M) (xQv R)) {x0 : Nat} {x1 : Nat} {x2 : Int} {x3 : Int} {x4 : Int} {M : xj_M} {R : xj_M} (hx2 : xin x2) (hx3 : xin x3) (hx4 : xin x4) (h : f254_15b  r2 r15 f x0 x1 x2 x3 x4 M = some R) : xW (d + 1) (none, d + 1, none) xr_254 (15, [(0, xR_ x0), (1, xR_ x1), (2, xI x2), (3, xI x3), (4, xI x4)], [], M) (xQv R) := by
  unfold f254_15b at h
  refine xe_ldn (ins := .iload 4) (len := 2) (by decide +kernel) rfl rfl rfl rfl ?_
  refine xe_alr (ins := .aload_n 1) (len := 1) (i := 1) (by decide +kernel) rfl rfl rfl rfl rfl ?_
  obtain ⟨v131, e132, h⟩ := xbnd h
  refine xs_gi (i := 174) (c := 14) (k := 14) (by decide +kernel) (by decide) (by decide +kernel) e132 rfl ?_
  refine xe_icmpge (off := 55) (t := 76) (by decide +kernel) (by decide) rfl hx4 (xq_gi_in e132) (fun c133 => ?_) (fun c133 => ?_)
  · rw [if_pos c133] at h
    refine xe_ldn (ins := .iload_n 3) (len := 1) (by decide +kernel) rfl rfl rfl rfl ?_
    refine xe_iconst (n := -1) (by decide +kernel) rfl ?_
    refine xe_icmpne (off := 6) (t := 84) (by decide +kernel) (by decide) rfl hx3 (show xin (-1) by decide) (fun c134 => ?_) (fun c134 => ?_)
    · rw [if_pos c134] at h
      refine xe_alr (ins := .aload_n 1) (len := 1) (i := 1) (by decide +kernel) rfl rfl rfl rfl rfl ?_
      obtain ⟨v135, e136, h⟩ := xbnd h
      refine xs_gr (i := 180) (c := 14) (k := 1) (by decide +kernel) (by decide) (by decide +kernel) e136 rfl ?_
      refine xe_ldn (ins := .iload_n 2) (len := 1) (by decide +kernel) rfl rfl rfl rfl ?_
      refine xe_alr (ins := .aload_n 1) (len := 1) (i := 1) (by decide +kernel) rfl rfl rfl rfl rfl ?_
      obtain ⟨v137, e138, h⟩ := xbnd h
      refine xs_gr (i := 207) (c := 14) (k := 12) (by decide +kernel) (by decide) (by decide +kernel) e138 rfl ?_
      refine xe_ldn (ins := .iload_n 3) (len := 1) (by decide +kernel) rfl rfl rfl rfl ?_
      obtain ⟨v139, e140, h⟩ := xbnd h
      refine xs_iald rfl (by decide +kernel) hx3 e140 rfl ?_
      obtain ⟨M141, e142, h⟩ := xbnd h
      refine xs_iast (by decide +kernel) hx2 e142 rfl ?_
      refine xe_iconst (n := 0) (by decide +kernel) rfl ?_
      refine xe_isr (ins := .istore 4) (len := 2) (i := 4) (by decide +kernel) rfl rfl rfl (by decide) (xk_k (show ¬ (0 : Nat) = 4 by decide) (Or.inl (show ¬ (0 + 1 : Nat) = 4 by decide)) (xk_k (show ¬ (1 : Nat) = 4 by decide) (Or.inl (show ¬ (1 + 1 : Nat) = 4 by decide)) (xk_k (show ¬ (2 : Nat) = 4 by decide) (Or.inl (show ¬ (2 + 1 : Nat) = 4 by decide)) (xk_k (show ¬ (3 : Nat) = 4 by decide) (Or.inr (xI_cat _)) (xk_d rfl xk_n))))) rfl ?_
      refine xW_lv rfl (l := [(0, xR_ (x0)), (1, xR_ (x1)), (2, xI (x2)), (4, xI (0))]) (xsb_of ⟨rfl, rfl, rfl, rfl, trivial⟩ (show [4, 0, 1, 2, 3].Nodup by decide)) ?_
      exact k254_99  hr2 hx2 (show xin (0) by decide) h
    · rw [if_neg c134] at h
      refine xe_goto (off := 83) (nx := 164) (by decide +kernel) (by decide) ?_
      refine xW_lv rfl (l := [(0, xR_ (x0)), (1, xR_ (x1)), (2, xI (x2))]) (xsb_of ⟨rfl, rfl, rfl, trivial⟩ (show [0, 1, 2, 3, 4].Nodup by decide)) ?_
      exact k254_164  hr2 hx2 h
  · rw [if_neg c133] at h
    refine xe_alr (ins := .aload_n 1) (len := 1) (i := 1) (by decide +kernel) rfl rfl rfl rfl rfl ?_
    obtain ⟨v143, e144, h⟩ := xbnd h
    refine xs_gr (i := 201) (c := 14) (k := 10) (by decide +kernel) (by decide) (by decide +kernel) e144 rfl ?_
    refine xe_ldn (ins := .iload 4) (len := 2) (by decide +kernel) rfl rfl rfl rfl ?_
    obtain ⟨v145, e146, h⟩ := xbnd h
    refine xs_iald rfl (by decide +kernel) hx4 e146 rfl ?_
    refine xe_ldn (ins := .iload_n 2) (len := 1) (by decide +kernel) rfl rfl rfl rfl ?_
    refine xe_icmpne (off := 38) (t := 70) (by decide +kernel) (by decide) rfl (xq_ai_in e146) hx2 (fun c147 => ?_) (fun c147 => ?_)
    · rw [if_pos c147] at h
      refine xW_lv rfl (l := [(0, xR_ (x0)), (1, xR_ (x1)), (2, xI (x2)), (3, xI (x3)), (4, xI (x4))]) (xsb_of ⟨rfl, rfl, rfl, rfl, rfl, trivial⟩ (show [0, 1, 2, 3, 4].Nodup by decide)) ?_
      exact k254_70  hr2 hr15 hx2 hx3 hx4 h
    · rw [if_neg c147] at h
      refine xe_alr (ins := .aload_n 1) (len := 1) (i := 1) (by decide +kernel) rfl rfl rfl rfl rfl ?_
      obtain ⟨v148, e149, h⟩ := xbnd h
      refine xs_gr (i := 207) (c := 14) (k := 12) (by decide +kernel) (by decide) (by decide +kernel) e149 rfl ?_
      refine xe_ldn (ins := .iload 4) (len := 2) (by decide +kernel) rfl rfl rfl rfl ?_
      obtain ⟨v150, e151, h⟩ := xbnd h
      refine xs_iald rfl (by decide +kernel) hx4 e151 rfl ?_
      refine xe_iconst (n := -1) (by decide +kernel) rfl ?_
      refine xe_icmpeq (off := 27) (t := 70) (by decide +kernel) (by decide) rfl (xq_ai_in e151) (show xin (-1) by decide) (fun c152 => ?_) (fun c152 => ?_)
      · rw [if_pos c152] at h
        refine xW_lv rfl (l := [(0, xR_ (x0)), (1, xR_ (x1)), (2, xI (x2)), (3, xI (x3)), (4, xI (x4))]) (xsb_of ⟨rfl, rfl, rfl, rfl, rfl, trivial⟩ (show [0, 1, 2, 3, 4].Nodup by decide)) ?_
        exact k254_70  hr2 hr15 hx2 hx3 hx4 h
      · rw [if_neg c152] at h
        refine xe_ldn (ins := .iload_n 3) (len := 1) (by decide +kernel) rfl rfl rfl rfl ?_
        refine xe_iconst (n := -1) (by decide +kernel) rfl ?_
        refine xe_icmpeq (off := 19) (t := 67) (by decide +kernel) (by decide) rfl hx3 (show xin (-1) by decide) (fun c153 => ?_) (fun c153 => ?_)
        · rw [if_pos c153] at h
          refine xW_lv rfl (l := [(0, xR_ (x0)), (1, xR_ (x1)), (2, xI (x2)), (4, xI (x4))]) (xsb_of ⟨rfl, rfl, rfl, rfl, trivial⟩ (show [0, 1, 2, 3, 4].Nodup by decide)) ?_
          exact k254_67  hr2 hr15 hx2 hx4 h
        · rw [if_neg c153] at h
          refine xe_alr (ins := .aload_n 1) (len := 1) (i := 1) (by decide +kernel) rfl rfl rfl rfl rfl ?_
          obtain ⟨v154, e155, h⟩ := xbnd h
          refine xs_gr (i := 204) (c := 14) (k := 11) (by decide +kernel) (by decide) (by decide +kernel) e155 rfl ?_
          refine xe_ldn (ins := .iload 4) (len := 2) (by decide +kernel) rfl rfl rfl rfl ?_
          obtain ⟨v156, e157, h⟩ := xbnd h
          refine xs_iald rfl (by decide +kernel) hx4 e157 rfl ?_
          refine xe_alr (ins := .aload_n 1) (len := 1) (i := 1) (by decide +kernel) rfl rfl rfl rfl rfl ?_
          obtain ⟨v158, e159, h⟩ := xbnd h
          refine xs_gr (i := 204) (c := 14) (k := 11) (by decide +kernel) (by decide) (by decide +kernel) e159 rfl ?_
          refine xe_ldn (ins := .iload_n 3) (len := 1) (by decide +kernel) rfl rfl rfl rfl ?_
          obtain ⟨v160, e161, h⟩ := xbnd h
          refine xs_iald rfl (by decide +kernel) hx3 e161 rfl ?_
          refine xe_icmpge (off := 6) (t := 70) (by decide +kernel) (by decide) rfl (xq_ai_in e157) (xq_ai_in e161) (fun c162 => ?_) (fun c162 => ?_)
          · rw [if_pos c162] at h
            refine xW_lv rfl (l := [(0, xR_ (x0)), (1, xR_ (x1)), (2, xI (x2)), (3, xI (x3)), (4, xI (x4))]) (xsb_of ⟨rfl, rfl, rfl, rfl, rfl, trivial⟩ (show [0, 1, 2, 3, 4].Nodup by decide)) ?_
            exact k254_70  hr2 hr15 hx2 hx3 hx4 h
          · rw [if_neg c162] at h
            refine xW_lv rfl (l := [(0, xR_ (x0)), (1, xR_ (x1)), (2, xI (x2)), (4, xI (x4))]) (xsb_of ⟨rfl, rfl, rfl, rfl, trivial⟩ (show [0, 1, 2, 3, 4].Nodup by decide)) ?_
            exact k254_67  hr2 hr15 hx2 hx4 h
def f254_15  (r2 : Nat → Nat → Int → xj_M → Option (xj_M)) (f : Nat) : Nat → Nat → Nat → Int → Int → Int → xj_M → Option (xj_M)
  | 0, _, _, _, _, _, _ => none
  | n + 1, x0, x1, x2, x3, x4, M => f254_15b  r2 (f254_15  r2 f n) f x0 x1 x2 x3 x4 M
theorem k254_15 {d f : Nat}  {r2 : Nat → Nat → Int → xj_M → Option (xj_M)}  (hr2 : ∀ {x0 : Nat} {x1 : Nat} {x2 : Int} {M : xj_M} {R : xj_M}, xin x2 → r2 x0 x1 x2 M = some R → xW (d + 1) (none, d + 1, none) xr_254 (2, [(0, xR_ x0), (1, xR_ x1), (2, xI x2)], [], M) (xQv R)) : ∀ {n : Nat} {x0 : Nat} {x1 : Nat} {x2 : Int} {x3 : Int} {x4 : Int} {M : xj_M} {R : xj_M}, xin x2 → xin x3 → xin x4 → f254_15  r2 f n x0 x1 x2 x3 x4 M = some R → xW (d + 1) (none, d + 1, none) xr_254 (15, [(0, xR_ x0), (1, xR_ x1), (2, xI x2), (3, xI x3), (4, xI x4)], [], M) (xQv R) := by
  intro n
  induction n with
  | zero => intros; rename_i h; cases h
  | succ n ih => intros; rename_i h; exact k254_15b  hr2 ih (by assumption) (by assumption) (by assumption) h
def f254_2b  (r2 : Nat → Nat → Int → xj_M → Option (xj_M)) (f : Nat) (x0 : Nat) (x1 : Nat) (x2 : Int) (M : xj_M) : Option (xj_M) := ((xq_gi 14 8 (x1) M).bind fun v163 => (if (v163) ≤ (x2) then (some M) else f254_15  r2 f f (x0) (x1) (x2) (-1) (0) M))
theorem k254_2b {d f : Nat}  {r2 : Nat → Nat → Int → xj_M → Option (xj_M)}  (hr2 : ∀ {x0 : Nat} {x1 : Nat} {x2 : Int} {M : xj_M} {R : xj_M}, xin x2 → r2 x0 x1 x2 M = some R → xW (d + 1) (none, d + 1, none) xr_254 (2, [(0, xR_ x0), (1, xR_ x1), (2, xI x2)], [], M) (xQv R)) {x0 : Nat} {x1 : Nat} {x2 : Int} {M : xj_M} {R : xj_M} (hx2 : xin x2) (h : f254_2b  r2 f x0 x1 x2 M = some R) : xW (d + 1) (none, d + 1, none) xr_254 (2, [(0, xR_ x0), (1, xR_ x1), (2, xI x2)], [], M) (xQv R) := by
  unfold f254_2b at h
  refine xe_ldn (ins := .iload_n 2) (len := 1) (by decide +kernel) rfl rfl rfl rfl ?_
  refine xe_alr (ins := .aload_n 1) (len := 1) (i := 1) (by decide +kernel) rfl rfl rfl rfl rfl ?_
  obtain ⟨v163, e164, h⟩ := xbnd h
  refine xs_gi (i := 166) (c := 14) (k := 8) (by decide +kernel) (by decide) (by decide +kernel) e164 rfl ?_
  refine xe_icmpge (off := 163) (t := 170) (by decide +kernel) (by decide) rfl hx2 (xq_gi_in e164) (fun c165 => ?_) (fun c165 => ?_)
  · rw [if_pos c165] at h
    cases h
    exact xe_ret_v (by decide +kernel) rfl ⟨rfl, rfl⟩
  · rw [if_neg c165] at h
    refine xe_iconst (n := -1) (by decide +kernel) rfl ?_
    refine xe_isr (ins := .istore_n 3) (len := 1) (i := 3) (by decide +kernel) rfl rfl rfl (by decide) (xk_k (show ¬ (0 : Nat) = 3 by decide) (Or.inl (show ¬ (0 + 1 : Nat) = 3 by decide)) (xk_k (show ¬ (1 : Nat) = 3 by decide) (Or.inl (show ¬ (1 + 1 : Nat) = 3 by decide)) (xk_k (show ¬ (2 : Nat) = 3 by decide) (Or.inr (xI_cat _)) xk_n))) rfl ?_
    refine xe_iconst (n := 0) (by decide +kernel) rfl ?_
    refine xe_isr (ins := .istore 4) (len := 2) (i := 4) (by decide +kernel) rfl rfl rfl (by decide) (xk_k (show ¬ (3 : Nat) = 4 by decide) (Or.inr (xI_cat _)) (xk_k (show ¬ (0 : Nat) = 4 by decide) (Or.inl (show ¬ (0 + 1 : Nat) = 4 by decide)) (xk_k (show ¬ (1 : Nat) = 4 by decide) (Or.inl (show ¬ (1 + 1 : Nat) = 4 by decide)) (xk_k (show ¬ (2 : Nat) = 4 by decide) (Or.inl (show ¬ (2 + 1 : Nat) = 4 by decide)) xk_n)))) rfl ?_
    refine xW_lv rfl (l := [(0, xR_ (x0)), (1, xR_ (x1)), (2, xI (x2)), (3, xI (-1)), (4, xI (0))]) (xsb_of ⟨rfl, rfl, rfl, rfl, rfl, trivial⟩ (show [4, 3, 0, 1, 2].Nodup by decide)) ?_
    exact k254_15  hr2 hx2 (show xin (-1) by decide) (show xin (0) by decide) h
def f254_2   (f : Nat) : Nat → Nat → Nat → Int → xj_M → Option (xj_M)
  | 0, _, _, _, _ => none
  | n + 1, x0, x1, x2, M => f254_2b   (f254_2   f n) f x0 x1 x2 M
theorem k254_2 {d f : Nat}     : ∀ {n : Nat} {x0 : Nat} {x1 : Nat} {x2 : Int} {M : xj_M} {R : xj_M}, xin x2 → f254_2   f n x0 x1 x2 M = some R → xW (d + 1) (none, d + 1, none) xr_254 (2, [(0, xR_ x0), (1, xR_ x1), (2, xI x2)], [], M) (xQv R) := by
  intro n
  induction n with
  | zero => intros; rename_i h; cases h
  | succ n ih => intros; rename_i h; exact k254_2b   ih (by assumption) h
def f254  (f : Nat) (a0 : Nat) (a1 : Nat) (M : xj_M) : Option (xj_M) := f254_2   f f (a0) (a1) (0) M
theorem k254 {d f : Nat}   {a0 : Nat} {a1 : Nat} {M : xj_M} {R : xj_M}  (h : f254  f a0 a1 M = some R) : xT (d + 2) 254 [xR_ a0, xR_ a1] M (xQv R) := by
  refine xT_m xr_254_e (X := (none, d + 1, none)) rfl (xa_1 (xR_cat _) (xa_1 (xR_cat _) xa_n)) (by decide) ?_
  unfold f254 at h
  refine xe_iconst (n := 0) (by decide +kernel) rfl ?_
  refine xe_isr (ins := .istore_n 2) (len := 1) (i := 2) (by decide +kernel) rfl rfl rfl (by decide) (xk_k (show ¬ (0 : Nat) = 2 by decide) (Or.inl (show ¬ (0 + 1 : Nat) = 2 by decide)) (xk_k (show ¬ (1 : Nat) = 2 by decide) (Or.inr (xR_cat _)) xk_n)) rfl ?_
  refine xW_lv rfl (l := [(0, xR_ (a0)), (1, xR_ (a1)), (2, xI (0))]) (xsb_of ⟨rfl, rfl, rfl, trivial⟩ (show [2, 0, 1].Nodup by decide)) ?_
  exact k254_2   (show xin (0) by decide) h
-- ChangeHouseModel.variablesOf
def xr_255 : xj_mR := (15, yX15_variablesOf, cX15_variablesOf, 5, (Option.some Jvm.ClassFile.FieldType.int), 3, false, (9, 98), (1, 12))
set_option maxRecDepth 20000 in
theorem xr_255_e : xj_row 255 = some xr_255 := rfl
def f255_35  (r5 : Nat → Int → Int → Int → xj_M → Option (Int × xj_M)) (f : Nat) (x0 : Nat) (x2 : Int) (x3 : Int) (x4 : Int) (M : xj_M) : Option (Int × xj_M) := r5 (x0) (x2) (x3) (xwr ((x4) + (1))) M
theorem k255_35 {d f : Nat}  {r5 : Nat → Int → Int → Int → xj_M → Option (Int × xj_M)}  (hr5 : ∀ {x0 : Nat} {x2 : Int} {x3 : Int} {x4 : Int} {M : xj_M} {R : Int × xj_M}, xin x2 → xin x3 → xin x4 → r5 x0 x2 x3 x4 M = some R → xW (d + 0) (none, d + 0, none) xr_255 (5, [(0, xR_ x0), (2, xI x2), (3, xI x3), (4, xI x4)], [], M) (xQi R)) {x0 : Nat} {x2 : Int} {x3 : Int} {x4 : Int} {M : xj_M} {R : Int × xj_M} (hx2 : xin x2) (hx3 : xin x3) (hx4 : xin x4) (h : f255_35  r5 f x0 x2 x3 x4 M = some R) : xW (d + 0) (none, d + 0, none) xr_255 (35, [(0, xR_ x0), (2, xI x2), (3, xI x3), (4, xI x4)], [], M) (xQi R) := by
  unfold f255_35 at h
  refine xe_iincr (i := 4) (n := 1) (by decide +kernel) (by decide) rfl (xk_k (show ¬ (0 : Nat) = 4 by decide) (Or.inl (show ¬ (0 + 1 : Nat) = 4 by decide)) (xk_k (show ¬ (2 : Nat) = 4 by decide) (Or.inl (show ¬ (2 + 1 : Nat) = 4 by decide)) (xk_k (show ¬ (3 : Nat) = 4 by decide) (Or.inr (xI_cat _)) (xk_d rfl xk_n)))) rfl ?_
  refine xe_goto (off := -33) (nx := 5) (by decide +kernel) (by decide) ?_
  refine xW_lv rfl (l := [(0, xR_ (x0)), (2, xI (x2)), (3, xI (x3)), (4, xI (xwr ((x4) + (1))))]) (xsb_of ⟨rfl, rfl, rfl, rfl, trivial⟩ (show [4, 0, 2, 3].Nodup by decide)) ?_
  exact hr5 hx2 hx3 (xin_wr _) h
def f255_5b  (r5 : Nat → Int → Int → Int → xj_M → Option (Int × xj_M)) (f : Nat) (x0 : Nat) (x2 : Int) (x3 : Int) (x4 : Int) (M : xj_M) : Option (Int × xj_M) := (if (x2) ≤ (x4) then (some (x3, M)) else ((xq_gr 14 35 (x0) M).bind fun v102 => ((xq_ai 3 (v102) (x4) M).bind fun v104 => (if ¬ (v104) = (2) then f255_35  r5 f (x0) (x2) (x3) (x4) M else ((xq_gr 14 36 (x0) M).bind fun v107 => ((xq_al (v107) (x4) M).bind fun v109 => f255_35  r5 f (x0) (x2) (xor_ (x3) (xshl (1) (xwr (v109)))) (x4) M))))))
theorem k255_5b {d f : Nat}  {r5 : Nat → Int → Int → Int → xj_M → Option (Int × xj_M)}  (hr5 : ∀ {x0 : Nat} {x2 : Int} {x3 : Int} {x4 : Int} {M : xj_M} {R : Int × xj_M}, xin x2 → xin x3 → xin x4 → r5 x0 x2 x3 x4 M = some R → xW (d + 0) (none, d + 0, none) xr_255 (5, [(0, xR_ x0), (2, xI x2), (3, xI x3), (4, xI x4)], [], M) (xQi R)) {x0 : Nat} {x2 : Int} {x3 : Int} {x4 : Int} {M : xj_M} {R : Int × xj_M} (hx2 : xin x2) (hx3 : xin x3) (hx4 : xin x4) (h : f255_5b  r5 f x0 x2 x3 x4 M = some R) : xW (d + 0) (none, d + 0, none) xr_255 (5, [(0, xR_ x0), (2, xI x2), (3, xI x3), (4, xI x4)], [], M) (xQi R) := by
  unfold f255_5b at h
  refine xe_ldn (ins := .iload 4) (len := 2) (by decide +kernel) rfl rfl rfl rfl ?_
  refine xe_ldn (ins := .iload_n 2) (len := 1) (by decide +kernel) rfl rfl rfl rfl ?_
  refine xe_icmpge (off := 33) (t := 41) (by decide +kernel) (by decide) rfl hx4 hx2 (fun c101 => ?_) (fun c101 => ?_)
  · rw [if_pos c101] at h
    refine xe_ldn (ins := .iload_n 3) (len := 1) (by decide +kernel) rfl rfl rfl rfl ?_
    cases h
    exact xe_ret_i (ty := .int) (by decide +kernel) rfl rfl ⟨rfl, rfl, hx3⟩
  · rw [if_neg c101] at h
    refine xe_alr (ins := .aload_n 0) (len := 1) (i := 0) (by decide +kernel) rfl rfl rfl rfl rfl ?_
    obtain ⟨v102, e103, h⟩ := xbnd h
    refine xs_gr (i := 318) (c := 14) (k := 35) (by decide +kernel) (by decide) (by decide +kernel) e103 rfl ?_
    refine xe_ldn (ins := .iload 4) (len := 2) (by decide +kernel) rfl rfl rfl rfl ?_
    obtain ⟨v104, e105, h⟩ := xbnd h
    refine xs_iald rfl (by decide +kernel) hx4 e105 rfl ?_
    refine xe_iconst (n := 2) (by decide +kernel) rfl ?_
    refine xe_icmpne (off := 16) (t := 35) (by decide +kernel) (by decide) rfl (xq_ai_in e105) (show xin (2) by decide) (fun c106 => ?_) (fun c106 => ?_)
    · rw [if_pos c106] at h
      refine xW_lv rfl (l := [(0, xR_ (x0)), (2, xI (x2)), (3, xI (x3)), (4, xI (x4))]) (xsb_of ⟨rfl, rfl, rfl, rfl, trivial⟩ (show [0, 2, 3, 4].Nodup by decide)) ?_
      exact k255_35  hr5 hx2 hx3 hx4 h
    · rw [if_neg c106] at h
      refine xe_ldn (ins := .iload_n 3) (len := 1) (by decide +kernel) rfl rfl rfl rfl ?_
      refine xe_iconst (n := 1) (by decide +kernel) rfl ?_
      refine xe_alr (ins := .aload_n 0) (len := 1) (i := 0) (by decide +kernel) rfl rfl rfl rfl rfl ?_
      obtain ⟨v107, e108, h⟩ := xbnd h
      refine xs_gr (i := 321) (c := 14) (k := 36) (by decide +kernel) (by decide) (by decide +kernel) e108 rfl ?_
      refine xe_ldn (ins := .iload 4) (len := 2) (by decide +kernel) rfl rfl rfl rfl ?_
      obtain ⟨v109, e110, h⟩ := xbnd h
      refine xs_lald (by decide +kernel) hx4 e110 rfl ?_
      refine xe_l2i (by decide +kernel) rfl ?_
      refine xe_ishl (by decide +kernel) rfl ?_
      refine xe_ior (by decide +kernel) rfl ?_
      refine xe_isr (ins := .istore_n 3) (len := 1) (i := 3) (by decide +kernel) rfl rfl rfl (by decide) (xk_k (show ¬ (0 : Nat) = 3 by decide) (Or.inl (show ¬ (0 + 1 : Nat) = 3 by decide)) (xk_k (show ¬ (2 : Nat) = 3 by decide) (Or.inr (xI_cat _)) (xk_d rfl (xk_k (show ¬ (4 : Nat) = 3 by decide) (Or.inl (show ¬ (4 + 1 : Nat) = 3 by decide)) xk_n)))) rfl ?_
      refine xW_lv rfl (l := [(0, xR_ (x0)), (2, xI (x2)), (3, xI (xor_ (x3) (xshl (1) (xwr (v109))))), (4, xI (x4))]) (xsb_of ⟨rfl, rfl, rfl, rfl, trivial⟩ (show [3, 0, 2, 4].Nodup by decide)) ?_
      exact k255_35  hr5 hx2 (xin_of _) hx4 h
def f255_5   (f : Nat) : Nat → Nat → Int → Int → Int → xj_M → Option (Int × xj_M)
  | 0, _, _, _, _, _ => none
  | n + 1, x0, x2, x3, x4, M => f255_5b   (f255_5   f n) f x0 x2 x3 x4 M
theorem k255_5 {d f : Nat}     : ∀ {n : Nat} {x0 : Nat} {x2 : Int} {x3 : Int} {x4 : Int} {M : xj_M} {R : Int × xj_M}, xin x2 → xin x3 → xin x4 → f255_5   f n x0 x2 x3 x4 M = some R → xW (d + 0) (none, d + 0, none) xr_255 (5, [(0, xR_ x0), (2, xI x2), (3, xI x3), (4, xI x4)], [], M) (xQi R) := by
  intro n
  induction n with
  | zero => intros; rename_i h; cases h
  | succ n ih => intros; rename_i h; exact k255_5b   ih (by assumption) (by assumption) (by assumption) h
def f255  (f : Nat) (a0 : Nat) (a1 : Int) (a2 : Int) (M : xj_M) : Option (Int × xj_M) := f255_5   f f (a0) (a2) (0) (a1) M
theorem k255 {d f : Nat}   {a0 : Nat} {a1 : Int} {a2 : Int} {M : xj_M} {R : Int × xj_M} (ha1 : xin a1) (ha2 : xin a2) (h : f255  f a0 a1 a2 M = some R) : xT (d + 1) 255 [xR_ a0, xI a1, xI a2] M (xQi R) := by
  refine xT_m xr_255_e (X := (none, d + 0, none)) rfl (xa_1 (xR_cat _) (xa_1 (xI_cat _) (xa_1 (xI_cat _) xa_n))) (by decide) ?_
  unfold f255 at h
  refine xe_iconst (n := 0) (by decide +kernel) rfl ?_
  refine xe_isr (ins := .istore_n 3) (len := 1) (i := 3) (by decide +kernel) rfl rfl rfl (by decide) (xk_k (show ¬ (0 : Nat) = 3 by decide) (Or.inl (show ¬ (0 + 1 : Nat) = 3 by decide)) (xk_k (show ¬ (1 : Nat) = 3 by decide) (Or.inl (show ¬ (1 + 1 : Nat) = 3 by decide)) (xk_k (show ¬ (2 : Nat) = 3 by decide) (Or.inr (xI_cat _)) xk_n))) rfl ?_
  refine xe_ldn (ins := .iload_n 1) (len := 1) (by decide +kernel) rfl rfl rfl rfl ?_
  refine xe_isr (ins := .istore 4) (len := 2) (i := 4) (by decide +kernel) rfl rfl rfl (by decide) (xk_k (show ¬ (3 : Nat) = 4 by decide) (Or.inr (xI_cat _)) (xk_k (show ¬ (0 : Nat) = 4 by decide) (Or.inl (show ¬ (0 + 1 : Nat) = 4 by decide)) (xk_k (show ¬ (1 : Nat) = 4 by decide) (Or.inl (show ¬ (1 + 1 : Nat) = 4 by decide)) (xk_k (show ¬ (2 : Nat) = 4 by decide) (Or.inl (show ¬ (2 + 1 : Nat) = 4 by decide)) xk_n)))) rfl ?_
  refine xW_lv rfl (l := [(0, xR_ (a0)), (2, xI (a2)), (3, xI (0)), (4, xI (a1))]) (xsb_of ⟨rfl, rfl, rfl, rfl, trivial⟩ (show [4, 3, 0, 1, 2].Nodup by decide)) ?_
  exact k255_5   ha2 (show xin (0) by decide) ha1 h
-- ChangeHouseModel.isAlone
def xr_256 : xj_mR := (15, yX15_isAlone, cX15_isAlone, 3, (Option.some Jvm.ClassFile.FieldType.boolean), 3, false, (9, 101), (1, 12))
set_option maxRecDepth 20000 in
theorem xr_256_e : xj_row 256 = some xr_256 := rfl
def f256_22   (f : Nat) (y0 : Int) (M : xj_M) : Option (Int × xj_M) := (if (y0) = 0 ∨ (y0) = 1 then some (y0, M) else none)
theorem k256_22 {d f : Nat}     {y0 : Int} {M : xj_M} {R : Int × xj_M} (hy0 : xin y0) (h : f256_22   f y0 M = some R) : xW (d + 0) (none, d + 0, none) xr_256 (22, [], [xI y0], M) (xQi R) := by
  unfold f256_22 at h
  by_cases c101 : (y0) = 0 ∨ (y0) = 1
  · rw [if_pos c101] at h; cases h; exact xe_ret_i (ty := .boolean) (by decide +kernel) rfl (xbool c101) ⟨rfl, rfl, hy0⟩
  · rw [if_neg c101] at h; cases h
def f256_21   (f : Nat)  (M : xj_M) : Option (Int × xj_M) := f256_22   f (0) M
theorem k256_21 {d f : Nat}      {M : xj_M} {R : Int × xj_M}  (h : f256_21   f  M = some R) : xW (d + 0) (none, d + 0, none) xr_256 (21, [], [], M) (xQi R) := by
  unfold f256_21 at h
  refine xe_iconst (n := 0) (by decide +kernel) rfl ?_
  refine xW_lv rfl (l := []) (xsb_of trivial (show [].Nodup by decide)) ?_
  exact k256_22   (show xin (0) by decide) h
def f256  (f : Nat) (a0 : Nat) (a1 : Int) (a2 : Int) (M : xj_M) : Option (Int × xj_M) := (if ¬ (a2) = (xwr ((a1) + (1))) then f256_21   f  M else ((xq_gr 14 35 (a0) M).bind fun v103 => ((xq_ai 3 (v103) (a1) M).bind fun v105 => (if ¬ (v105) = (2) then f256_21   f  M else f256_22   f (1) M))))
theorem k256 {d f : Nat}   {a0 : Nat} {a1 : Int} {a2 : Int} {M : xj_M} {R : Int × xj_M} (ha1 : xin a1) (ha2 : xin a2) (h : f256  f a0 a1 a2 M = some R) : xT (d + 1) 256 [xR_ a0, xI a1, xI a2] M (xQi R) := by
  refine xT_m xr_256_e (X := (none, d + 0, none)) rfl (xa_1 (xR_cat _) (xa_1 (xI_cat _) (xa_1 (xI_cat _) xa_n))) (by decide) ?_
  unfold f256 at h
  refine xe_ldn (ins := .iload_n 2) (len := 1) (by decide +kernel) rfl rfl rfl rfl ?_
  refine xe_ldn (ins := .iload_n 1) (len := 1) (by decide +kernel) rfl rfl rfl rfl ?_
  refine xe_iconst (n := 1) (by decide +kernel) rfl ?_
  refine xe_iadd (by decide +kernel) rfl ?_
  refine xe_icmpne (off := 17) (t := 21) (by decide +kernel) (by decide) rfl ha2 (xin_wr _) (fun c102 => ?_) (fun c102 => ?_)
  · rw [if_pos c102] at h
    refine xW_lv rfl (l := []) (xsb_of trivial (show [0, 1, 2].Nodup by decide)) ?_
    exact k256_21    h
  · rw [if_neg c102] at h
    refine xe_alr (ins := .aload_n 0) (len := 1) (i := 0) (by decide +kernel) rfl rfl rfl rfl rfl ?_
    obtain ⟨v103, e104, h⟩ := xbnd h
    refine xs_gr (i := 318) (c := 14) (k := 35) (by decide +kernel) (by decide) (by decide +kernel) e104 rfl ?_
    refine xe_ldn (ins := .iload_n 1) (len := 1) (by decide +kernel) rfl rfl rfl rfl ?_
    obtain ⟨v105, e106, h⟩ := xbnd h
    refine xs_iald rfl (by decide +kernel) ha1 e106 rfl ?_
    refine xe_iconst (n := 2) (by decide +kernel) rfl ?_
    refine xe_icmpne (off := 7) (t := 21) (by decide +kernel) (by decide) rfl (xq_ai_in e106) (show xin (2) by decide) (fun c107 => ?_) (fun c107 => ?_)
    · rw [if_pos c107] at h
      refine xW_lv rfl (l := []) (xsb_of trivial (show [0, 1, 2].Nodup by decide)) ?_
      exact k256_21    h
    · rw [if_neg c107] at h
      refine xe_iconst (n := 1) (by decide +kernel) rfl ?_
      refine xe_goto (off := 4) (nx := 22) (by decide +kernel) (by decide) ?_
      refine xW_lv rfl (l := []) (xsb_of trivial (show [0, 1, 2].Nodup by decide)) ?_
      exact k256_22   (show xin (1) by decide) h
-- ChangeHouseModel.boundBy
def xr_257 : xj_mR := (15, yX15_boundBy, cX15_boundBy, 8, (Option.some Jvm.ClassFile.FieldType.int), 2, false, (9, 95), (1, 12))
set_option maxRecDepth 20000 in
theorem xr_257_e : xj_row 257 = some xr_257 := rfl
def f257_82  (r4 : Nat → Int → Int → Int → xj_M → Option (Int × xj_M)) (r25 : Nat → Int → Int → Int → Int → Int → xj_M → Option (Int × xj_M)) (f : Nat) (x0 : Nat) (x1 : Int) (x2 : Int) (x3 : Int) (x4 : Int) (x5 : Int) (M : xj_M) : Option (Int × xj_M) := r25 (x0) (x1) (x2) (x3) (x4) (xwr ((x5) + (1))) M
theorem k257_82 {d f : Nat}  {r4 : Nat → Int → Int → Int → xj_M → Option (Int × xj_M)} {r25 : Nat → Int → Int → Int → Int → Int → xj_M → Option (Int × xj_M)}  (hr4 : ∀ {x0 : Nat} {x1 : Int} {x2 : Int} {x3 : Int} {M : xj_M} {R : Int × xj_M}, xin x1 → xin x2 → xin x3 → r4 x0 x1 x2 x3 M = some R → xW (d + 1) (none, d + 1, none) xr_257 (4, [(0, xR_ x0), (1, xI x1), (2, xI x2), (3, xI x3)], [], M) (xQi R)) (hr25 : ∀ {x0 : Nat} {x1 : Int} {x2 : Int} {x3 : Int} {x4 : Int} {x5 : Int} {M : xj_M} {R : Int × xj_M}, xin x1 → xin x2 → xin x3 → xin x4 → xin x5 → r25 x0 x1 x2 x3 x4 x5 M = some R → xW (d + 1) (none, d + 1, none) xr_257 (25, [(0, xR_ x0), (1, xI x1), (2, xI x2), (3, xI x3), (4, xI x4), (5, xI x5)], [], M) (xQi R)) {x0 : Nat} {x1 : Int} {x2 : Int} {x3 : Int} {x4 : Int} {x5 : Int} {M : xj_M} {R : Int × xj_M} (hx1 : xin x1) (hx2 : xin x2) (hx3 : xin x3) (hx4 : xin x4) (hx5 : xin x5) (h : f257_82  r4 r25 f x0 x1 x2 x3 x4 x5 M = some R) : xW (d + 1) (none, d + 1, none) xr_257 (82, [(0, xR_ x0), (1, xI x1), (2, xI x2), (3, xI x3), (4, xI x4), (5, xI x5)], [], M) (xQi R) := by
  unfold f257_82 at h
  refine xe_iincr (i := 5) (n := 1) (by decide +kernel) (by decide) rfl (xk_k (show ¬ (0 : Nat) = 5 by decide) (Or.inl (show ¬ (0 + 1 : Nat) = 5 by decide)) (xk_k (show ¬ (1 : Nat) = 5 by decide) (Or.inl (show ¬ (1 + 1 : Nat) = 5 by decide)) (xk_k (show ¬ (2 : Nat) = 5 by decide) (Or.inl (show ¬ (2 + 1 : Nat) = 5 by decide)) (xk_k (show ¬ (3 : Nat) = 5 by decide) (Or.inl (show ¬ (3 + 1 : Nat) = 5 by decide)) (xk_k (show ¬ (4 : Nat) = 5 by decide) (Or.inr (xI_cat _)) (xk_d rfl xk_n)))))) rfl ?_
  refine xe_goto (off := -60) (nx := 25) (by decide +kernel) (by decide) ?_
  refine xW_lv rfl (l := [(0, xR_ (x0)), (1, xI (x1)), (2, xI (x2)), (3, xI (x3)), (4, xI (x4)), (5, xI (xwr ((x5) + (1))))]) (xsb_of ⟨rfl, rfl, rfl, rfl, rfl, rfl, trivial⟩ (show [5, 0, 1, 2, 3, 4].Nodup by decide)) ?_
  exact hr25 hx1 hx2 hx3 hx4 (xin_wr _) h
def f257_88  (r4 : Nat → Int → Int → Int → xj_M → Option (Int × xj_M)) (f : Nat) (x0 : Nat) (x1 : Int) (x2 : Int) (x3 : Int) (M : xj_M) : Option (Int × xj_M) := r4 (x0) (x1) (x2) (xwr ((x3) + (1))) M
theorem k257_88 {d f : Nat}  {r4 : Nat → Int → Int → Int → xj_M → Option (Int × xj_M)}  (hr4 : ∀ {x0 : Nat} {x1 : Int} {x2 : Int} {x3 : Int} {M : xj_M} {R : Int × xj_M}, xin x1 → xin x2 → xin x3 → r4 x0 x1 x2 x3 M = some R → xW (d + 1) (none, d + 1, none) xr_257 (4, [(0, xR_ x0), (1, xI x1), (2, xI x2), (3, xI x3)], [], M) (xQi R)) {x0 : Nat} {x1 : Int} {x2 : Int} {x3 : Int} {M : xj_M} {R : Int × xj_M} (hx1 : xin x1) (hx2 : xin x2) (hx3 : xin x3) (h : f257_88  r4 f x0 x1 x2 x3 M = some R) : xW (d + 1) (none, d + 1, none) xr_257 (88, [(0, xR_ x0), (1, xI x1), (2, xI x2), (3, xI x3)], [], M) (xQi R) := by
  unfold f257_88 at h
  refine xe_iincr (i := 3) (n := 1) (by decide +kernel) (by decide) rfl (xk_k (show ¬ (0 : Nat) = 3 by decide) (Or.inl (show ¬ (0 + 1 : Nat) = 3 by decide)) (xk_k (show ¬ (1 : Nat) = 3 by decide) (Or.inl (show ¬ (1 + 1 : Nat) = 3 by decide)) (xk_k (show ¬ (2 : Nat) = 3 by decide) (Or.inr (xI_cat _)) (xk_d rfl xk_n)))) rfl ?_
  refine xe_goto (off := -87) (nx := 4) (by decide +kernel) (by decide) ?_
  refine xW_lv rfl (l := [(0, xR_ (x0)), (1, xI (x1)), (2, xI (x2)), (3, xI (xwr ((x3) + (1))))]) (xsb_of ⟨rfl, rfl, rfl, rfl, trivial⟩ (show [3, 0, 1, 2].Nodup by decide)) ?_
  exact hr4 hx1 hx2 (xin_wr _) h
def f257_25b  (r4 : Nat → Int → Int → Int → xj_M → Option (Int × xj_M)) (r25 : Nat → Int → Int → Int → Int → Int → xj_M → Option (Int × xj_M)) (f : Nat) (x0 : Nat) (x1 : Int) (x2 : Int) (x3 : Int) (x4 : Int) (x5 : Int) (M : xj_M) : Option (Int × xj_M) := ((xq_gr 14 27 (x0) M).bind fun v101 => ((xq_ai 3 (v101) (x4) M).bind fun v103 => (if ¬ (v103) = (1) then f257_88  r4 f (x0) (x1) (x2) (x3) M else ((xq_gr 14 29 (x0) M).bind fun v106 => ((xq_ai 3 (v106) (x4) M).bind fun v108 => (if (v108) ≤ (x5) then f257_88  r4 f (x0) (x1) (x2) (x3) M else ((xq_gr 14 33 (x0) M).bind fun v111 => ((xq_ai 3 (v111) (xwr ((xwr ((x4) * (4))) + (x5))) M).bind fun v113 => (if ¬ (v113) = (1) then f257_82  r4 r25 f (x0) (x1) (x2) (x3) (x4) (x5) M else ((xq_gr 14 34 (x0) M).bind fun v116 => ((xq_al (v116) (xwr ((xwr ((x4) * (4))) + (x5))) M).bind fun v118 => f257_82  r4 r25 f (x0) (x1) (xor_ (x2) (xshl (1) (xwr (v118)))) (x3) (x4) (x5) M)))))))))))
theorem k257_25b {d f : Nat}  {r4 : Nat → Int → Int → Int → xj_M → Option (Int × xj_M)} {r25 : Nat → Int → Int → Int → Int → Int → xj_M → Option (Int × xj_M)}  (hr4 : ∀ {x0 : Nat} {x1 : Int} {x2 : Int} {x3 : Int} {M : xj_M} {R : Int × xj_M}, xin x1 → xin x2 → xin x3 → r4 x0 x1 x2 x3 M = some R → xW (d + 1) (none, d + 1, none) xr_257 (4, [(0, xR_ x0), (1, xI x1), (2, xI x2), (3, xI x3)], [], M) (xQi R)) (hr25 : ∀ {x0 : Nat} {x1 : Int} {x2 : Int} {x3 : Int} {x4 : Int} {x5 : Int} {M : xj_M} {R : Int × xj_M}, xin x1 → xin x2 → xin x3 → xin x4 → xin x5 → r25 x0 x1 x2 x3 x4 x5 M = some R → xW (d + 1) (none, d + 1, none) xr_257 (25, [(0, xR_ x0), (1, xI x1), (2, xI x2), (3, xI x3), (4, xI x4), (5, xI x5)], [], M) (xQi R)) {x0 : Nat} {x1 : Int} {x2 : Int} {x3 : Int} {x4 : Int} {x5 : Int} {M : xj_M} {R : Int × xj_M} (hx1 : xin x1) (hx2 : xin x2) (hx3 : xin x3) (hx4 : xin x4) (hx5 : xin x5) (h : f257_25b  r4 r25 f x0 x1 x2 x3 x4 x5 M = some R) : xW (d + 1) (none, d + 1, none) xr_257 (25, [(0, xR_ x0), (1, xI x1), (2, xI x2), (3, xI x3), (4, xI x4), (5, xI x5)], [], M) (xQi R) := by
  unfold f257_25b at h
  refine xe_alr (ins := .aload_n 0) (len := 1) (i := 0) (by decide +kernel) rfl rfl rfl rfl rfl ?_
  obtain ⟨v101, e102, h⟩ := xbnd h
  refine xs_gr (i := 357) (c := 14) (k := 27) (by decide +kernel) (by decide) (by decide +kernel) e102 rfl ?_
  refine xe_ldn (ins := .iload 4) (len := 2) (by decide +kernel) rfl rfl rfl rfl ?_
  obtain ⟨v103, e104, h⟩ := xbnd h
  refine xs_iald rfl (by decide +kernel) hx4 e104 rfl ?_
  refine xe_iconst (n := 1) (by decide +kernel) rfl ?_
  refine xe_icmpne (off := 55) (t := 88) (by decide +kernel) (by decide) rfl (xq_ai_in e104) (show xin (1) by decide) (fun c105 => ?_) (fun c105 => ?_)
  · rw [if_pos c105] at h
    refine xW_lv rfl (l := [(0, xR_ (x0)), (1, xI (x1)), (2, xI (x2)), (3, xI (x3))]) (xsb_of ⟨rfl, rfl, rfl, rfl, trivial⟩ (show [0, 1, 2, 3, 4, 5].Nodup by decide)) ?_
    exact k257_88  hr4 hx1 hx2 hx3 h
  · rw [if_neg c105] at h
    refine xe_ldn (ins := .iload 5) (len := 2) (by decide +kernel) rfl rfl rfl rfl ?_
    refine xe_alr (ins := .aload_n 0) (len := 1) (i := 0) (by decide +kernel) rfl rfl rfl rfl rfl ?_
    obtain ⟨v106, e107, h⟩ := xbnd h
    refine xs_gr (i := 373) (c := 14) (k := 29) (by decide +kernel) (by decide) (by decide +kernel) e107 rfl ?_
    refine xe_ldn (ins := .iload 4) (len := 2) (by decide +kernel) rfl rfl rfl rfl ?_
    obtain ⟨v108, e109, h⟩ := xbnd h
    refine xs_iald rfl (by decide +kernel) hx4 e109 rfl ?_
    refine xe_icmpge (off := 43) (t := 88) (by decide +kernel) (by decide) rfl hx5 (xq_ai_in e109) (fun c110 => ?_) (fun c110 => ?_)
    · rw [if_pos c110] at h
      refine xW_lv rfl (l := [(0, xR_ (x0)), (1, xI (x1)), (2, xI (x2)), (3, xI (x3))]) (xsb_of ⟨rfl, rfl, rfl, rfl, trivial⟩ (show [0, 1, 2, 3, 4, 5].Nodup by decide)) ?_
      exact k257_88  hr4 hx1 hx2 hx3 h
    · rw [if_neg c110] at h
      refine xe_alr (ins := .aload_n 0) (len := 1) (i := 0) (by decide +kernel) rfl rfl rfl rfl rfl ?_
      obtain ⟨v111, e112, h⟩ := xbnd h
      refine xs_gr (i := 376) (c := 14) (k := 33) (by decide +kernel) (by decide) (by decide +kernel) e112 rfl ?_
      refine xe_ldn (ins := .iload 4) (len := 2) (by decide +kernel) rfl rfl rfl rfl ?_
      refine xe_iconst (n := 4) (by decide +kernel) rfl ?_
      refine xe_imul (by decide +kernel) rfl ?_
      refine xe_ldn (ins := .iload 5) (len := 2) (by decide +kernel) rfl rfl rfl rfl ?_
      refine xe_iadd (by decide +kernel) rfl ?_
      obtain ⟨v113, e114, h⟩ := xbnd h
      refine xs_iald rfl (by decide +kernel) (xin_wr _) e114 rfl ?_
      refine xe_iconst (n := 1) (by decide +kernel) rfl ?_
      refine xe_icmpne (off := 21) (t := 82) (by decide +kernel) (by decide) rfl (xq_ai_in e114) (show xin (1) by decide) (fun c115 => ?_) (fun c115 => ?_)
      · rw [if_pos c115] at h
        refine xW_lv rfl (l := [(0, xR_ (x0)), (1, xI (x1)), (2, xI (x2)), (3, xI (x3)), (4, xI (x4)), (5, xI (x5))]) (xsb_of ⟨rfl, rfl, rfl, rfl, rfl, rfl, trivial⟩ (show [0, 1, 2, 3, 4, 5].Nodup by decide)) ?_
        exact k257_82  hr4 hr25 hx1 hx2 hx3 hx4 hx5 h
      · rw [if_neg c115] at h
        refine xe_ldn (ins := .iload_n 2) (len := 1) (by decide +kernel) rfl rfl rfl rfl ?_
        refine xe_iconst (n := 1) (by decide +kernel) rfl ?_
        refine xe_alr (ins := .aload_n 0) (len := 1) (i := 0) (by decide +kernel) rfl rfl rfl rfl rfl ?_
        obtain ⟨v116, e117, h⟩ := xbnd h
        refine xs_gr (i := 379) (c := 14) (k := 34) (by decide +kernel) (by decide) (by decide +kernel) e117 rfl ?_
        refine xe_ldn (ins := .iload 4) (len := 2) (by decide +kernel) rfl rfl rfl rfl ?_
        refine xe_iconst (n := 4) (by decide +kernel) rfl ?_
        refine xe_imul (by decide +kernel) rfl ?_
        refine xe_ldn (ins := .iload 5) (len := 2) (by decide +kernel) rfl rfl rfl rfl ?_
        refine xe_iadd (by decide +kernel) rfl ?_
        obtain ⟨v118, e119, h⟩ := xbnd h
        refine xs_lald (by decide +kernel) (xin_wr _) e119 rfl ?_
        refine xe_l2i (by decide +kernel) rfl ?_
        refine xe_ishl (by decide +kernel) rfl ?_
        refine xe_ior (by decide +kernel) rfl ?_
        refine xe_isr (ins := .istore_n 2) (len := 1) (i := 2) (by decide +kernel) rfl rfl rfl (by decide) (xk_k (show ¬ (0 : Nat) = 2 by decide) (Or.inl (show ¬ (0 + 1 : Nat) = 2 by decide)) (xk_k (show ¬ (1 : Nat) = 2 by decide) (Or.inr (xI_cat _)) (xk_d rfl (xk_k (show ¬ (3 : Nat) = 2 by decide) (Or.inl (show ¬ (3 + 1 : Nat) = 2 by decide)) (xk_k (show ¬ (4 : Nat) = 2 by decide) (Or.inl (show ¬ (4 + 1 : Nat) = 2 by decide)) (xk_k (show ¬ (5 : Nat) = 2 by decide) (Or.inl (show ¬ (5 + 1 : Nat) = 2 by decide)) xk_n)))))) rfl ?_
        refine xW_lv rfl (l := [(0, xR_ (x0)), (1, xI (x1)), (2, xI (xor_ (x2) (xshl (1) (xwr (v118))))), (3, xI (x3)), (4, xI (x4)), (5, xI (x5))]) (xsb_of ⟨rfl, rfl, rfl, rfl, rfl, rfl, trivial⟩ (show [2, 0, 1, 3, 4, 5].Nodup by decide)) ?_
        exact k257_82  hr4 hr25 hx1 (xin_of _) hx3 hx4 hx5 h
def f257_25  (r4 : Nat → Int → Int → Int → xj_M → Option (Int × xj_M)) (f : Nat) : Nat → Nat → Int → Int → Int → Int → Int → xj_M → Option (Int × xj_M)
  | 0, _, _, _, _, _, _, _ => none
  | n + 1, x0, x1, x2, x3, x4, x5, M => f257_25b  r4 (f257_25  r4 f n) f x0 x1 x2 x3 x4 x5 M
theorem k257_25 {d f : Nat}  {r4 : Nat → Int → Int → Int → xj_M → Option (Int × xj_M)}  (hr4 : ∀ {x0 : Nat} {x1 : Int} {x2 : Int} {x3 : Int} {M : xj_M} {R : Int × xj_M}, xin x1 → xin x2 → xin x3 → r4 x0 x1 x2 x3 M = some R → xW (d + 1) (none, d + 1, none) xr_257 (4, [(0, xR_ x0), (1, xI x1), (2, xI x2), (3, xI x3)], [], M) (xQi R)) : ∀ {n : Nat} {x0 : Nat} {x1 : Int} {x2 : Int} {x3 : Int} {x4 : Int} {x5 : Int} {M : xj_M} {R : Int × xj_M}, xin x1 → xin x2 → xin x3 → xin x4 → xin x5 → f257_25  r4 f n x0 x1 x2 x3 x4 x5 M = some R → xW (d + 1) (none, d + 1, none) xr_257 (25, [(0, xR_ x0), (1, xI x1), (2, xI x2), (3, xI x3), (4, xI x4), (5, xI x5)], [], M) (xQi R) := by
  intro n
  induction n with
  | zero => intros; rename_i h; cases h
  | succ n ih => intros; rename_i h; exact k257_25b  hr4 ih (by assumption) (by assumption) (by assumption) (by assumption) (by assumption) h
def f257_262  (r96 : Nat → Int → Int → Int → xj_M → Option (Int × xj_M)) (r106 : Nat → Int → Int → Int → Int → xj_M → Option (Int × xj_M)) (f : Nat) (x0 : Nat) (x1 : Int) (x2 : Int) (x3 : Int) (x4 : Int) (M : xj_M) : Option (Int × xj_M) := r106 (x0) (x1) (x2) (x3) (xwr ((x4) + (1))) M
theorem k257_262 {d f : Nat}  {r96 : Nat → Int → Int → Int → xj_M → Option (Int × xj_M)} {r106 : Nat → Int → Int → Int → Int → xj_M → Option (Int × xj_M)}  (hr96 : ∀ {x0 : Nat} {x1 : Int} {x2 : Int} {x3 : Int} {M : xj_M} {R : Int × xj_M}, xin x1 → xin x2 → xin x3 → r96 x0 x1 x2 x3 M = some R → xW (d + 1) (none, d + 1, none) xr_257 (96, [(0, xR_ x0), (1, xI x1), (2, xI x2), (3, xI x3)], [], M) (xQi R)) (hr106 : ∀ {x0 : Nat} {x1 : Int} {x2 : Int} {x3 : Int} {x4 : Int} {M : xj_M} {R : Int × xj_M}, xin x1 → xin x2 → xin x3 → xin x4 → r106 x0 x1 x2 x3 x4 M = some R → xW (d + 1) (none, d + 1, none) xr_257 (106, [(0, xR_ x0), (1, xI x1), (2, xI x2), (3, xI x3), (4, xI x4)], [], M) (xQi R)) {x0 : Nat} {x1 : Int} {x2 : Int} {x3 : Int} {x4 : Int} {M : xj_M} {R : Int × xj_M} (hx1 : xin x1) (hx2 : xin x2) (hx3 : xin x3) (hx4 : xin x4) (h : f257_262  r96 r106 f x0 x1 x2 x3 x4 M = some R) : xW (d + 1) (none, d + 1, none) xr_257 (262, [(0, xR_ x0), (1, xI x1), (2, xI x2), (3, xI x3), (4, xI x4)], [], M) (xQi R) := by
  unfold f257_262 at h
  refine xe_iincr (i := 4) (n := 1) (by decide +kernel) (by decide) rfl (xk_k (show ¬ (0 : Nat) = 4 by decide) (Or.inl (show ¬ (0 + 1 : Nat) = 4 by decide)) (xk_k (show ¬ (1 : Nat) = 4 by decide) (Or.inl (show ¬ (1 + 1 : Nat) = 4 by decide)) (xk_k (show ¬ (2 : Nat) = 4 by decide) (Or.inl (show ¬ (2 + 1 : Nat) = 4 by decide)) (xk_k (show ¬ (3 : Nat) = 4 by decide) (Or.inr (xI_cat _)) (xk_d rfl xk_n))))) rfl ?_
  refine xe_goto (off := -159) (nx := 106) (by decide +kernel) (by decide) ?_
  refine xW_lv rfl (l := [(0, xR_ (x0)), (1, xI (x1)), (2, xI (x2)), (3, xI (x3)), (4, xI (xwr ((x4) + (1))))]) (xsb_of ⟨rfl, rfl, rfl, rfl, rfl, trivial⟩ (show [4, 0, 1, 2, 3].Nodup by decide)) ?_
  exact hr106 hx1 hx2 hx3 (xin_wr _) h
def f257_227  (r96 : Nat → Int → Int → Int → xj_M → Option (Int × xj_M)) (r106 : Nat → Int → Int → Int → Int → xj_M → Option (Int × xj_M)) (f : Nat) (x0 : Nat) (x1 : Int) (x2 : Int) (x3 : Int) (x4 : Int) (x5 : Int) (x6 : Int) (x7 : Int) (M : xj_M) : Option (Int × xj_M) := ((xq_gr 14 31 (x0) M).bind fun v120 => ((xq_ai 3 (v120) (x5) M).bind fun v122 => ((xq_gr 14 32 (x0) M).bind fun v124 => ((xq_ai 3 (v124) (x5) M).bind fun v126 => ((f256  f (x0) (v122) (v126) M).bind fun R129 => (if (R129.1) = 0 then f257_262  r96 r106 f (x0) (x1) (x2) (x3) (x4) R129.2 else (if ¬ (xand (x6) (xxor (x2) (-1))) = 0 then f257_262  r96 r106 f (x0) (x1) (x2) (x3) (x4) R129.2 else f257_262  r96 r106 f (x0) (x1) (xor_ (x2) (x7)) (x3) (x4) R129.2)))))))
theorem k257_227 {d f : Nat}  {r96 : Nat → Int → Int → Int → xj_M → Option (Int × xj_M)} {r106 : Nat → Int → Int → Int → Int → xj_M → Option (Int × xj_M)}  (hr96 : ∀ {x0 : Nat} {x1 : Int} {x2 : Int} {x3 : Int} {M : xj_M} {R : Int × xj_M}, xin x1 → xin x2 → xin x3 → r96 x0 x1 x2 x3 M = some R → xW (d + 1) (none, d + 1, none) xr_257 (96, [(0, xR_ x0), (1, xI x1), (2, xI x2), (3, xI x3)], [], M) (xQi R)) (hr106 : ∀ {x0 : Nat} {x1 : Int} {x2 : Int} {x3 : Int} {x4 : Int} {M : xj_M} {R : Int × xj_M}, xin x1 → xin x2 → xin x3 → xin x4 → r106 x0 x1 x2 x3 x4 M = some R → xW (d + 1) (none, d + 1, none) xr_257 (106, [(0, xR_ x0), (1, xI x1), (2, xI x2), (3, xI x3), (4, xI x4)], [], M) (xQi R)) {x0 : Nat} {x1 : Int} {x2 : Int} {x3 : Int} {x4 : Int} {x5 : Int} {x6 : Int} {x7 : Int} {M : xj_M} {R : Int × xj_M} (hx1 : xin x1) (hx2 : xin x2) (hx3 : xin x3) (hx4 : xin x4) (hx5 : xin x5) (hx6 : xin x6) (hx7 : xin x7) (h : f257_227  r96 r106 f x0 x1 x2 x3 x4 x5 x6 x7 M = some R) : xW (d + 1) (none, d + 1, none) xr_257 (227, [(0, xR_ x0), (1, xI x1), (2, xI x2), (3, xI x3), (4, xI x4), (5, xI x5), (6, xI x6), (7, xI x7)], [], M) (xQi R) := by
  unfold f257_227 at h
  refine xe_alr (ins := .aload_n 0) (len := 1) (i := 0) (by decide +kernel) rfl rfl rfl rfl rfl ?_
  refine xe_alr (ins := .aload_n 0) (len := 1) (i := 0) (by decide +kernel) rfl rfl rfl rfl rfl ?_
  obtain ⟨v120, e121, h⟩ := xbnd h
  refine xs_gr (i := 360) (c := 14) (k := 31) (by decide +kernel) (by decide) (by decide +kernel) e121 rfl ?_
  refine xe_ldn (ins := .iload 5) (len := 2) (by decide +kernel) rfl rfl rfl rfl ?_
  obtain ⟨v122, e123, h⟩ := xbnd h
  refine xs_iald rfl (by decide +kernel) hx5 e123 rfl ?_
  refine xe_alr (ins := .aload_n 0) (len := 1) (i := 0) (by decide +kernel) rfl rfl rfl rfl rfl ?_
  obtain ⟨v124, e125, h⟩ := xbnd h
  refine xs_gr (i := 366) (c := 14) (k := 32) (by decide +kernel) (by decide) (by decide +kernel) e125 rfl ?_
  refine xe_ldn (ins := .iload 5) (len := 2) (by decide +kernel) rfl rfl rfl rfl ?_
  obtain ⟨v126, e127, h⟩ := xbnd h
  refine xs_iald rfl (by decide +kernel) hx5 e127 rfl ?_
  obtain ⟨R129, e128, h⟩ := xbnd h
  refine xs_cs (kd := 2) (by decide) (i := 413) (j := 256) (ar := [xI (v126), xI (v122), xR_ (x0)]) (rest := []) (r2 := xr_256) (by decide +kernel) (by decide +kernel) (by decide +kernel) xr_256_e rfl (by decide) ?_
  refine xc_i (k256 (d := d + 0)  (xq_ai_in e123) (xq_ai_in e127) e128) rfl (fun hi130 => ?_)
  refine xe_ifeq (off := 17) (t := 262) (by decide +kernel) (by decide) rfl hi130 (fun c131 => ?_) (fun c131 => ?_)
  · rw [if_pos c131] at h
    refine xW_lv rfl (l := [(0, xR_ (x0)), (1, xI (x1)), (2, xI (x2)), (3, xI (x3)), (4, xI (x4))]) (xsb_of ⟨rfl, rfl, rfl, rfl, rfl, trivial⟩ (show [0, 1, 2, 3, 4, 5, 6, 7].Nodup by decide)) ?_
    exact k257_262  hr96 hr106 hx1 hx2 hx3 hx4 h
  · rw [if_neg c131] at h
    refine xe_ldn (ins := .iload 6) (len := 2) (by decide +kernel) rfl rfl rfl rfl ?_
    refine xe_ldn (ins := .iload_n 2) (len := 1) (by decide +kernel) rfl rfl rfl rfl ?_
    refine xe_iconst (n := -1) (by decide +kernel) rfl ?_
    refine xe_ixor (by decide +kernel) rfl ?_
    refine xe_iand (by decide +kernel) rfl ?_
    refine xe_ifne (off := 8) (t := 262) (by decide +kernel) (by decide) rfl (xin_of _) (fun c132 => ?_) (fun c132 => ?_)
    · rw [if_pos c132] at h
      refine xW_lv rfl (l := [(0, xR_ (x0)), (1, xI (x1)), (2, xI (x2)), (3, xI (x3)), (4, xI (x4))]) (xsb_of ⟨rfl, rfl, rfl, rfl, rfl, trivial⟩ (show [0, 1, 2, 3, 4, 5, 6, 7].Nodup by decide)) ?_
      exact k257_262  hr96 hr106 hx1 hx2 hx3 hx4 h
    · rw [if_neg c132] at h
      refine xe_ldn (ins := .iload_n 2) (len := 1) (by decide +kernel) rfl rfl rfl rfl ?_
      refine xe_ldn (ins := .iload 7) (len := 2) (by decide +kernel) rfl rfl rfl rfl ?_
      refine xe_ior (by decide +kernel) rfl ?_
      refine xe_isr (ins := .istore_n 2) (len := 1) (i := 2) (by decide +kernel) rfl rfl rfl (by decide) (xk_k (show ¬ (0 : Nat) = 2 by decide) (Or.inl (show ¬ (0 + 1 : Nat) = 2 by decide)) (xk_k (show ¬ (1 : Nat) = 2 by decide) (Or.inr (xI_cat _)) (xk_d rfl (xk_k (show ¬ (3 : Nat) = 2 by decide) (Or.inl (show ¬ (3 + 1 : Nat) = 2 by decide)) (xk_k (show ¬ (4 : Nat) = 2 by decide) (Or.inl (show ¬ (4 + 1 : Nat) = 2 by decide)) (xk_k (show ¬ (5 : Nat) = 2 by decide) (Or.inl (show ¬ (5 + 1 : Nat) = 2 by decide)) (xk_k (show ¬ (6 : Nat) = 2 by decide) (Or.inl (show ¬ (6 + 1 : Nat) = 2 by decide)) (xk_k (show ¬ (7 : Nat) = 2 by decide) (Or.inl (show ¬ (7 + 1 : Nat) = 2 by decide)) xk_n)))))))) rfl ?_
      refine xW_lv rfl (l := [(0, xR_ (x0)), (1, xI (x1)), (2, xI (xor_ (x2) (x7))), (3, xI (x3)), (4, xI (x4))]) (xsb_of ⟨rfl, rfl, rfl, rfl, rfl, trivial⟩ (show [2, 0, 1, 3, 4, 5, 6, 7].Nodup by decide)) ?_
      exact k257_262  hr96 hr106 hx1 (xin_of _) hx3 hx4 h
def f257_106b  (r96 : Nat → Int → Int → Int → xj_M → Option (Int × xj_M)) (r106 : Nat → Int → Int → Int → Int → xj_M → Option (Int × xj_M)) (f : Nat) (x0 : Nat) (x1 : Int) (x2 : Int) (x3 : Int) (x4 : Int) (M : xj_M) : Option (Int × xj_M) := ((xq_gr 14 21 (x0) M).bind fun v133 => ((xq_ai 3 (v133) (x1) M).bind fun v135 => (if (v135) ≤ (x4) then r96 (x0) (x1) (x2) (x3) M else ((xq_gr 14 27 (x0) M).bind fun v138 => ((xq_ai 3 (v138) (xwr ((xwr ((x1) * (8))) + (x4))) M).bind fun v140 => (if ¬ (v140) = (3) then f257_262  r96 r106 f (x0) (x1) (x2) (x3) (x4) M else ((xq_gr 14 28 (x0) M).bind fun v143 => ((xq_ai 3 (v143) (xwr ((xwr ((x1) * (8))) + (x4))) M).bind fun v145 => (if (v145) = (61) then ((xq_gr 14 30 (x0) M).bind fun v148 => ((xq_ai 3 (v148) (xwr ((xwr ((x1) * (8))) + (x4))) M).bind fun v150 => ((xq_gr 14 31 (x0) M).bind fun v152 => ((xq_ai 3 (v152) (xwr ((xwr ((x1) * (8))) + (x4))) M).bind fun v154 => ((f255  f (x0) (v150) (v154) M).bind fun R157 => ((xq_gr 14 31 (x0) R157.2).bind fun v159 => ((xq_ai 3 (v159) (xwr ((xwr ((x1) * (8))) + (x4))) R157.2).bind fun v161 => ((xq_gr 14 32 (x0) R157.2).bind fun v163 => ((xq_ai 3 (v163) (xwr ((xwr ((x1) * (8))) + (x4))) R157.2).bind fun v165 => ((f255  f (x0) (v161) (v165) R157.2).bind fun R168 => ((xq_gr 14 30 (x0) R168.2).bind fun v170 => ((xq_ai 3 (v170) (xwr ((xwr ((x1) * (8))) + (x4))) R168.2).bind fun v172 => ((xq_gr 14 31 (x0) R168.2).bind fun v174 => ((xq_ai 3 (v174) (xwr ((xwr ((x1) * (8))) + (x4))) R168.2).bind fun v176 => ((f256  f (x0) (v172) (v176) R168.2).bind fun R179 => (if (R179.1) = 0 then f257_227  r96 r106 f (x0) (x1) (x2) (x3) (x4) (xwr ((xwr ((x1) * (8))) + (x4))) (R157.1) (R168.1) R179.2 else (if ¬ (xand (R168.1) (xxor (x2) (-1))) = 0 then f257_227  r96 r106 f (x0) (x1) (x2) (x3) (x4) (xwr ((xwr ((x1) * (8))) + (x4))) (R157.1) (R168.1) R179.2 else f257_227  r96 r106 f (x0) (x1) (xor_ (x2) (R157.1)) (x3) (x4) (xwr ((xwr ((x1) * (8))) + (x4))) (R157.1) (R168.1) R179.2))))))))))))))))) else f257_262  r96 r106 f (x0) (x1) (x2) (x3) (x4) M)))))))))
theorem k257_106b {d f : Nat}  {r96 : Nat → Int → Int → Int → xj_M → Option (Int × xj_M)} {r106 : Nat → Int → Int → Int → Int → xj_M → Option (Int × xj_M)}  (hr96 : ∀ {x0 : Nat} {x1 : Int} {x2 : Int} {x3 : Int} {M : xj_M} {R : Int × xj_M}, xin x1 → xin x2 → xin x3 → r96 x0 x1 x2 x3 M = some R → xW (d + 1) (none, d + 1, none) xr_257 (96, [(0, xR_ x0), (1, xI x1), (2, xI x2), (3, xI x3)], [], M) (xQi R)) (hr106 : ∀ {x0 : Nat} {x1 : Int} {x2 : Int} {x3 : Int} {x4 : Int} {M : xj_M} {R : Int × xj_M}, xin x1 → xin x2 → xin x3 → xin x4 → r106 x0 x1 x2 x3 x4 M = some R → xW (d + 1) (none, d + 1, none) xr_257 (106, [(0, xR_ x0), (1, xI x1), (2, xI x2), (3, xI x3), (4, xI x4)], [], M) (xQi R)) {x0 : Nat} {x1 : Int} {x2 : Int} {x3 : Int} {x4 : Int} {M : xj_M} {R : Int × xj_M} (hx1 : xin x1) (hx2 : xin x2) (hx3 : xin x3) (hx4 : xin x4) (h : f257_106b  r96 r106 f x0 x1 x2 x3 x4 M = some R) : xW (d + 1) (none, d + 1, none) xr_257 (106, [(0, xR_ x0), (1, xI x1), (2, xI x2), (3, xI x3), (4, xI x4)], [], M) (xQi R) := by
  unfold f257_106b at h
  refine xe_ldn (ins := .iload 4) (len := 2) (by decide +kernel) rfl rfl rfl rfl ?_
  refine xe_alr (ins := .aload_n 0) (len := 1) (i := 0) (by decide +kernel) rfl rfl rfl rfl rfl ?_
  obtain ⟨v133, e134, h⟩ := xbnd h
  refine xs_gr (i := 268) (c := 14) (k := 21) (by decide +kernel) (by decide) (by decide +kernel) e134 rfl ?_
  refine xe_ldn (ins := .iload_n 1) (len := 1) (by decide +kernel) rfl rfl rfl rfl ?_
  obtain ⟨v135, e136, h⟩ := xbnd h
  refine xs_iald rfl (by decide +kernel) hx1 e136 rfl ?_
  refine xe_icmpge (off := 154) (t := 268) (by decide +kernel) (by decide) rfl hx4 (xq_ai_in e136) (fun c137 => ?_) (fun c137 => ?_)
  · rw [if_pos c137] at h
    refine xe_goto (off := -172) (nx := 96) (by decide +kernel) (by decide) ?_
    refine xW_lv rfl (l := [(0, xR_ (x0)), (1, xI (x1)), (2, xI (x2)), (3, xI (x3))]) (xsb_of ⟨rfl, rfl, rfl, rfl, trivial⟩ (show [0, 1, 2, 3, 4].Nodup by decide)) ?_
    exact hr96 hx1 hx2 hx3 h
  · rw [if_neg c137] at h
    refine xe_ldn (ins := .iload_n 1) (len := 1) (by decide +kernel) rfl rfl rfl rfl ?_
    refine xe_bipush (n := 8) (by decide +kernel) (by decide) rfl ?_
    refine xe_imul (by decide +kernel) rfl ?_
    refine xe_ldn (ins := .iload 4) (len := 2) (by decide +kernel) rfl rfl rfl rfl ?_
    refine xe_iadd (by decide +kernel) rfl ?_
    refine xe_isr (ins := .istore 5) (len := 2) (i := 5) (by decide +kernel) rfl rfl rfl (by decide) (xk_k (show ¬ (0 : Nat) = 5 by decide) (Or.inl (show ¬ (0 + 1 : Nat) = 5 by decide)) (xk_k (show ¬ (1 : Nat) = 5 by decide) (Or.inl (show ¬ (1 + 1 : Nat) = 5 by decide)) (xk_k (show ¬ (2 : Nat) = 5 by decide) (Or.inl (show ¬ (2 + 1 : Nat) = 5 by decide)) (xk_k (show ¬ (3 : Nat) = 5 by decide) (Or.inl (show ¬ (3 + 1 : Nat) = 5 by decide)) (xk_k (show ¬ (4 : Nat) = 5 by decide) (Or.inr (xI_cat _)) xk_n))))) rfl ?_
    refine xe_alr (ins := .aload_n 0) (len := 1) (i := 0) (by decide +kernel) rfl rfl rfl rfl rfl ?_
    obtain ⟨v138, e139, h⟩ := xbnd h
    refine xs_gr (i := 357) (c := 14) (k := 27) (by decide +kernel) (by decide) (by decide +kernel) e139 rfl ?_
    refine xe_ldn (ins := .iload 5) (len := 2) (by decide +kernel) rfl rfl rfl rfl ?_
    obtain ⟨v140, e141, h⟩ := xbnd h
    refine xs_iald rfl (by decide +kernel) (xin_wr _) e141 rfl ?_
    refine xe_iconst (n := 3) (by decide +kernel) rfl ?_
    refine xe_icmpne (off := 128) (t := 262) (by decide +kernel) (by decide) rfl (xq_ai_in e141) (show xin (3) by decide) (fun c142 => ?_) (fun c142 => ?_)
    · rw [if_pos c142] at h
      refine xW_lv rfl (l := [(0, xR_ (x0)), (1, xI (x1)), (2, xI (x2)), (3, xI (x3)), (4, xI (x4))]) (xsb_of ⟨rfl, rfl, rfl, rfl, rfl, trivial⟩ (show [5, 0, 1, 2, 3, 4].Nodup by decide)) ?_
      exact k257_262  hr96 hr106 hx1 hx2 hx3 hx4 h
    · rw [if_neg c142] at h
      refine xe_alr (ins := .aload_n 0) (len := 1) (i := 0) (by decide +kernel) rfl rfl rfl rfl rfl ?_
      obtain ⟨v143, e144, h⟩ := xbnd h
      refine xs_gr (i := 363) (c := 14) (k := 28) (by decide +kernel) (by decide) (by decide +kernel) e144 rfl ?_
      refine xe_ldn (ins := .iload 5) (len := 2) (by decide +kernel) rfl rfl rfl rfl ?_
      obtain ⟨v145, e146, h⟩ := xbnd h
      refine xs_iald rfl (by decide +kernel) (xin_wr _) e146 rfl ?_
      refine xe_bipush (n := 61) (by decide +kernel) (by decide) rfl ?_
      refine xe_icmpeq (off := 6) (t := 152) (by decide +kernel) (by decide) rfl (xq_ai_in e146) (show xin (61) by decide) (fun c147 => ?_) (fun c147 => ?_)
      · rw [if_pos c147] at h
        refine xe_alr (ins := .aload_n 0) (len := 1) (i := 0) (by decide +kernel) rfl rfl rfl rfl rfl ?_
        refine xe_alr (ins := .aload_n 0) (len := 1) (i := 0) (by decide +kernel) rfl rfl rfl rfl rfl ?_
        obtain ⟨v148, e149, h⟩ := xbnd h
        refine xs_gr (i := 351) (c := 14) (k := 30) (by decide +kernel) (by decide) (by decide +kernel) e149 rfl ?_
        refine xe_ldn (ins := .iload 5) (len := 2) (by decide +kernel) rfl rfl rfl rfl ?_
        obtain ⟨v150, e151, h⟩ := xbnd h
        refine xs_iald rfl (by decide +kernel) (xin_wr _) e151 rfl ?_
        refine xe_alr (ins := .aload_n 0) (len := 1) (i := 0) (by decide +kernel) rfl rfl rfl rfl rfl ?_
        obtain ⟨v152, e153, h⟩ := xbnd h
        refine xs_gr (i := 360) (c := 14) (k := 31) (by decide +kernel) (by decide) (by decide +kernel) e153 rfl ?_
        refine xe_ldn (ins := .iload 5) (len := 2) (by decide +kernel) rfl rfl rfl rfl ?_
        obtain ⟨v154, e155, h⟩ := xbnd h
        refine xs_iald rfl (by decide +kernel) (xin_wr _) e155 rfl ?_
        obtain ⟨R157, e156, h⟩ := xbnd h
        refine xs_cs (kd := 2) (by decide) (i := 409) (j := 255) (ar := [xI (v154), xI (v150), xR_ (x0)]) (rest := []) (r2 := xr_255) (by decide +kernel) (by decide +kernel) (by decide +kernel) xr_255_e rfl (by decide) ?_
        refine xc_i (k255 (d := d + 0)  (xq_ai_in e151) (xq_ai_in e155) e156) rfl (fun hi158 => ?_)
        refine xe_isr (ins := .istore 6) (len := 2) (i := 6) (by decide +kernel) rfl rfl rfl (by decide) (xk_k (show ¬ (5 : Nat) = 6 by decide) (Or.inr (xI_cat _)) (xk_k (show ¬ (0 : Nat) = 6 by decide) (Or.inl (show ¬ (0 + 1 : Nat) = 6 by decide)) (xk_k (show ¬ (1 : Nat) = 6 by decide) (Or.inl (show ¬ (1 + 1 : Nat) = 6 by decide)) (xk_k (show ¬ (2 : Nat) = 6 by decide) (Or.inl (show ¬ (2 + 1 : Nat) = 6 by decide)) (xk_k (show ¬ (3 : Nat) = 6 by decide) (Or.inl (show ¬ (3 + 1 : Nat) = 6 by decide)) (xk_k (show ¬ (4 : Nat) = 6 by decide) (Or.inl (show ¬ (4 + 1 : Nat) = 6 by decide)) xk_n)))))) rfl ?_
        refine xe_alr (ins := .aload_n 0) (len := 1) (i := 0) (by decide +kernel) rfl rfl rfl rfl rfl ?_
        refine xe_alr (ins := .aload_n 0) (len := 1) (i := 0) (by decide +kernel) rfl rfl rfl rfl rfl ?_
        obtain ⟨v159, e160, h⟩ := xbnd h
        refine xs_gr (i := 360) (c := 14) (k := 31) (by decide +kernel) (by decide) (by decide +kernel) e160 rfl ?_
        refine xe_ldn (ins := .iload 5) (len := 2) (by decide +kernel) rfl rfl rfl rfl ?_
        obtain ⟨v161, e162, h⟩ := xbnd h
        refine xs_iald rfl (by decide +kernel) (xin_wr _) e162 rfl ?_
        refine xe_alr (ins := .aload_n 0) (len := 1) (i := 0) (by decide +kernel) rfl rfl rfl rfl rfl ?_
        obtain ⟨v163, e164, h⟩ := xbnd h
        refine xs_gr (i := 366) (c := 14) (k := 32) (by decide +kernel) (by decide) (by decide +kernel) e164 rfl ?_
        refine xe_ldn (ins := .iload 5) (len := 2) (by decide +kernel) rfl rfl rfl rfl ?_
        obtain ⟨v165, e166, h⟩ := xbnd h
        refine xs_iald rfl (by decide +kernel) (xin_wr _) e166 rfl ?_
        obtain ⟨R168, e167, h⟩ := xbnd h
        refine xs_cs (kd := 2) (by decide) (i := 409) (j := 255) (ar := [xI (v165), xI (v161), xR_ (x0)]) (rest := []) (r2 := xr_255) (by decide +kernel) (by decide +kernel) (by decide +kernel) xr_255_e rfl (by decide) ?_
        refine xc_i (k255 (d := d + 0)  (xq_ai_in e162) (xq_ai_in e166) e167) rfl (fun hi169 => ?_)
        refine xe_isr (ins := .istore 7) (len := 2) (i := 7) (by decide +kernel) rfl rfl rfl (by decide) (xk_k (show ¬ (6 : Nat) = 7 by decide) (Or.inr (xI_cat _)) (xk_k (show ¬ (5 : Nat) = 7 by decide) (Or.inl (show ¬ (5 + 1 : Nat) = 7 by decide)) (xk_k (show ¬ (0 : Nat) = 7 by decide) (Or.inl (show ¬ (0 + 1 : Nat) = 7 by decide)) (xk_k (show ¬ (1 : Nat) = 7 by decide) (Or.inl (show ¬ (1 + 1 : Nat) = 7 by decide)) (xk_k (show ¬ (2 : Nat) = 7 by decide) (Or.inl (show ¬ (2 + 1 : Nat) = 7 by decide)) (xk_k (show ¬ (3 : Nat) = 7 by decide) (Or.inl (show ¬ (3 + 1 : Nat) = 7 by decide)) (xk_k (show ¬ (4 : Nat) = 7 by decide) (Or.inl (show ¬ (4 + 1 : Nat) = 7 by decide)) xk_n))))))) rfl ?_
        refine xe_alr (ins := .aload_n 0) (len := 1) (i := 0) (by decide +kernel) rfl rfl rfl rfl rfl ?_
        refine xe_alr (ins := .aload_n 0) (len := 1) (i := 0) (by decide +kernel) rfl rfl rfl rfl rfl ?_
        obtain ⟨v170, e171, h⟩ := xbnd h
        refine xs_gr (i := 351) (c := 14) (k := 30) (by decide +kernel) (by decide) (by decide +kernel) e171 rfl ?_
        refine xe_ldn (ins := .iload 5) (len := 2) (by decide +kernel) rfl rfl rfl rfl ?_
        obtain ⟨v172, e173, h⟩ := xbnd h
        refine xs_iald rfl (by decide +kernel) (xin_wr _) e173 rfl ?_
        refine xe_alr (ins := .aload_n 0) (len := 1) (i := 0) (by decide +kernel) rfl rfl rfl rfl rfl ?_
        obtain ⟨v174, e175, h⟩ := xbnd h
        refine xs_gr (i := 360) (c := 14) (k := 31) (by decide +kernel) (by decide) (by decide +kernel) e175 rfl ?_
        refine xe_ldn (ins := .iload 5) (len := 2) (by decide +kernel) rfl rfl rfl rfl ?_
        obtain ⟨v176, e177, h⟩ := xbnd h
        refine xs_iald rfl (by decide +kernel) (xin_wr _) e177 rfl ?_
        obtain ⟨R179, e178, h⟩ := xbnd h
        refine xs_cs (kd := 2) (by decide) (i := 413) (j := 256) (ar := [xI (v176), xI (v172), xR_ (x0)]) (rest := []) (r2 := xr_256) (by decide +kernel) (by decide +kernel) (by decide +kernel) xr_256_e rfl (by decide) ?_
        refine xc_i (k256 (d := d + 0)  (xq_ai_in e173) (xq_ai_in e177) e178) rfl (fun hi180 => ?_)
        refine xe_ifeq (off := 17) (t := 227) (by decide +kernel) (by decide) rfl hi180 (fun c181 => ?_) (fun c181 => ?_)
        · rw [if_pos c181] at h
          refine xW_lv rfl (l := [(0, xR_ (x0)), (1, xI (x1)), (2, xI (x2)), (3, xI (x3)), (4, xI (x4)), (5, xI (xwr ((xwr ((x1) * (8))) + (x4)))), (6, xI (R157.1)), (7, xI (R168.1))]) (xsb_of ⟨rfl, rfl, rfl, rfl, rfl, rfl, rfl, rfl, trivial⟩ (show [7, 6, 5, 0, 1, 2, 3, 4].Nodup by decide)) ?_
          exact k257_227  hr96 hr106 hx1 hx2 hx3 hx4 (xin_wr _) hi158 hi169 h
        · rw [if_neg c181] at h
          refine xe_ldn (ins := .iload 7) (len := 2) (by decide +kernel) rfl rfl rfl rfl ?_
          refine xe_ldn (ins := .iload_n 2) (len := 1) (by decide +kernel) rfl rfl rfl rfl ?_
          refine xe_iconst (n := -1) (by decide +kernel) rfl ?_
          refine xe_ixor (by decide +kernel) rfl ?_
          refine xe_iand (by decide +kernel) rfl ?_
          refine xe_ifne (off := 8) (t := 227) (by decide +kernel) (by decide) rfl (xin_of _) (fun c182 => ?_) (fun c182 => ?_)
          · rw [if_pos c182] at h
            refine xW_lv rfl (l := [(0, xR_ (x0)), (1, xI (x1)), (2, xI (x2)), (3, xI (x3)), (4, xI (x4)), (5, xI (xwr ((xwr ((x1) * (8))) + (x4)))), (6, xI (R157.1)), (7, xI (R168.1))]) (xsb_of ⟨rfl, rfl, rfl, rfl, rfl, rfl, rfl, rfl, trivial⟩ (show [7, 6, 5, 0, 1, 2, 3, 4].Nodup by decide)) ?_
            exact k257_227  hr96 hr106 hx1 hx2 hx3 hx4 (xin_wr _) hi158 hi169 h
          · rw [if_neg c182] at h
            refine xe_ldn (ins := .iload_n 2) (len := 1) (by decide +kernel) rfl rfl rfl rfl ?_
            refine xe_ldn (ins := .iload 6) (len := 2) (by decide +kernel) rfl rfl rfl rfl ?_
            refine xe_ior (by decide +kernel) rfl ?_
            refine xe_isr (ins := .istore_n 2) (len := 1) (i := 2) (by decide +kernel) rfl rfl rfl (by decide) (xk_k (show ¬ (7 : Nat) = 2 by decide) (Or.inl (show ¬ (7 + 1 : Nat) = 2 by decide)) (xk_k (show ¬ (6 : Nat) = 2 by decide) (Or.inl (show ¬ (6 + 1 : Nat) = 2 by decide)) (xk_k (show ¬ (5 : Nat) = 2 by decide) (Or.inl (show ¬ (5 + 1 : Nat) = 2 by decide)) (xk_k (show ¬ (0 : Nat) = 2 by decide) (Or.inl (show ¬ (0 + 1 : Nat) = 2 by decide)) (xk_k (show ¬ (1 : Nat) = 2 by decide) (Or.inr (xI_cat _)) (xk_d rfl (xk_k (show ¬ (3 : Nat) = 2 by decide) (Or.inl (show ¬ (3 + 1 : Nat) = 2 by decide)) (xk_k (show ¬ (4 : Nat) = 2 by decide) (Or.inl (show ¬ (4 + 1 : Nat) = 2 by decide)) xk_n)))))))) rfl ?_
            refine xW_lv rfl (l := [(0, xR_ (x0)), (1, xI (x1)), (2, xI (xor_ (x2) (R157.1))), (3, xI (x3)), (4, xI (x4)), (5, xI (xwr ((xwr ((x1) * (8))) + (x4)))), (6, xI (R157.1)), (7, xI (R168.1))]) (xsb_of ⟨rfl, rfl, rfl, rfl, rfl, rfl, rfl, rfl, trivial⟩ (show [2, 7, 6, 5, 0, 1, 3, 4].Nodup by decide)) ?_
            exact k257_227  hr96 hr106 hx1 (xin_of _) hx3 hx4 (xin_wr _) hi158 hi169 h
      · rw [if_neg c147] at h
        refine xe_goto (off := 113) (nx := 262) (by decide +kernel) (by decide) ?_
        refine xW_lv rfl (l := [(0, xR_ (x0)), (1, xI (x1)), (2, xI (x2)), (3, xI (x3)), (4, xI (x4))]) (xsb_of ⟨rfl, rfl, rfl, rfl, rfl, trivial⟩ (show [5, 0, 1, 2, 3, 4].Nodup by decide)) ?_
        exact k257_262  hr96 hr106 hx1 hx2 hx3 hx4 h
def f257_106  (r96 : Nat → Int → Int → Int → xj_M → Option (Int × xj_M)) (f : Nat) : Nat → Nat → Int → Int → Int → Int → xj_M → Option (Int × xj_M)
  | 0, _, _, _, _, _, _ => none
  | n + 1, x0, x1, x2, x3, x4, M => f257_106b  r96 (f257_106  r96 f n) f x0 x1 x2 x3 x4 M
theorem k257_106 {d f : Nat}  {r96 : Nat → Int → Int → Int → xj_M → Option (Int × xj_M)}  (hr96 : ∀ {x0 : Nat} {x1 : Int} {x2 : Int} {x3 : Int} {M : xj_M} {R : Int × xj_M}, xin x1 → xin x2 → xin x3 → r96 x0 x1 x2 x3 M = some R → xW (d + 1) (none, d + 1, none) xr_257 (96, [(0, xR_ x0), (1, xI x1), (2, xI x2), (3, xI x3)], [], M) (xQi R)) : ∀ {n : Nat} {x0 : Nat} {x1 : Int} {x2 : Int} {x3 : Int} {x4 : Int} {M : xj_M} {R : Int × xj_M}, xin x1 → xin x2 → xin x3 → xin x4 → f257_106  r96 f n x0 x1 x2 x3 x4 M = some R → xW (d + 1) (none, d + 1, none) xr_257 (106, [(0, xR_ x0), (1, xI x1), (2, xI x2), (3, xI x3), (4, xI x4)], [], M) (xQi R) := by
  intro n
  induction n with
  | zero => intros; rename_i h; cases h
  | succ n ih => intros; rename_i h; exact k257_106b  hr96 ih (by assumption) (by assumption) (by assumption) (by assumption) h
def f257_96b  (r96 : Nat → Int → Int → Int → xj_M → Option (Int × xj_M)) (f : Nat) (x0 : Nat) (x1 : Int) (x2 : Int) (x3 : Int) (M : xj_M) : Option (Int × xj_M) := (if (x3) = (x2) then (some (x2, M)) else f257_106  r96 f f (x0) (x1) (x2) (x2) (0) M)
theorem k257_96b {d f : Nat}  {r96 : Nat → Int → Int → Int → xj_M → Option (Int × xj_M)}  (hr96 : ∀ {x0 : Nat} {x1 : Int} {x2 : Int} {x3 : Int} {M : xj_M} {R : Int × xj_M}, xin x1 → xin x2 → xin x3 → r96 x0 x1 x2 x3 M = some R → xW (d + 1) (none, d + 1, none) xr_257 (96, [(0, xR_ x0), (1, xI x1), (2, xI x2), (3, xI x3)], [], M) (xQi R)) {x0 : Nat} {x1 : Int} {x2 : Int} {x3 : Int} {M : xj_M} {R : Int × xj_M} (hx1 : xin x1) (hx2 : xin x2) (hx3 : xin x3) (h : f257_96b  r96 f x0 x1 x2 x3 M = some R) : xW (d + 1) (none, d + 1, none) xr_257 (96, [(0, xR_ x0), (1, xI x1), (2, xI x2), (3, xI x3)], [], M) (xQi R) := by
  unfold f257_96b at h
  refine xe_ldn (ins := .iload_n 3) (len := 1) (by decide +kernel) rfl rfl rfl rfl ?_
  refine xe_ldn (ins := .iload_n 2) (len := 1) (by decide +kernel) rfl rfl rfl rfl ?_
  refine xe_icmpeq (off := 173) (t := 271) (by decide +kernel) (by decide) rfl hx3 hx2 (fun c183 => ?_) (fun c183 => ?_)
  · rw [if_pos c183] at h
    refine xe_ldn (ins := .iload_n 2) (len := 1) (by decide +kernel) rfl rfl rfl rfl ?_
    cases h
    exact xe_ret_i (ty := .int) (by decide +kernel) rfl rfl ⟨rfl, rfl, hx2⟩
  · rw [if_neg c183] at h
    refine xe_ldn (ins := .iload_n 2) (len := 1) (by decide +kernel) rfl rfl rfl rfl ?_
    refine xe_isr (ins := .istore_n 3) (len := 1) (i := 3) (by decide +kernel) rfl rfl rfl (by decide) (xk_k (show ¬ (0 : Nat) = 3 by decide) (Or.inl (show ¬ (0 + 1 : Nat) = 3 by decide)) (xk_k (show ¬ (1 : Nat) = 3 by decide) (Or.inl (show ¬ (1 + 1 : Nat) = 3 by decide)) (xk_k (show ¬ (2 : Nat) = 3 by decide) (Or.inr (xI_cat _)) (xk_d rfl xk_n)))) rfl ?_
    refine xe_iconst (n := 0) (by decide +kernel) rfl ?_
    refine xe_isr (ins := .istore 4) (len := 2) (i := 4) (by decide +kernel) rfl rfl rfl (by decide) (xk_k (show ¬ (3 : Nat) = 4 by decide) (Or.inr (xI_cat _)) (xk_k (show ¬ (0 : Nat) = 4 by decide) (Or.inl (show ¬ (0 + 1 : Nat) = 4 by decide)) (xk_k (show ¬ (1 : Nat) = 4 by decide) (Or.inl (show ¬ (1 + 1 : Nat) = 4 by decide)) (xk_k (show ¬ (2 : Nat) = 4 by decide) (Or.inl (show ¬ (2 + 1 : Nat) = 4 by decide)) xk_n)))) rfl ?_
    refine xW_lv rfl (l := [(0, xR_ (x0)), (1, xI (x1)), (2, xI (x2)), (3, xI (x2)), (4, xI (0))]) (xsb_of ⟨rfl, rfl, rfl, rfl, rfl, trivial⟩ (show [4, 3, 0, 1, 2].Nodup by decide)) ?_
    exact k257_106  hr96 hx1 hx2 hx2 (show xin (0) by decide) h
def f257_96   (f : Nat) : Nat → Nat → Int → Int → Int → xj_M → Option (Int × xj_M)
  | 0, _, _, _, _, _ => none
  | n + 1, x0, x1, x2, x3, M => f257_96b   (f257_96   f n) f x0 x1 x2 x3 M
theorem k257_96 {d f : Nat}     : ∀ {n : Nat} {x0 : Nat} {x1 : Int} {x2 : Int} {x3 : Int} {M : xj_M} {R : Int × xj_M}, xin x1 → xin x2 → xin x3 → f257_96   f n x0 x1 x2 x3 M = some R → xW (d + 1) (none, d + 1, none) xr_257 (96, [(0, xR_ x0), (1, xI x1), (2, xI x2), (3, xI x3)], [], M) (xQi R) := by
  intro n
  induction n with
  | zero => intros; rename_i h; cases h
  | succ n ih => intros; rename_i h; exact k257_96b   ih (by assumption) (by assumption) (by assumption) h
def f257_4b  (r4 : Nat → Int → Int → Int → xj_M → Option (Int × xj_M)) (f : Nat) (x0 : Nat) (x1 : Int) (x2 : Int) (x3 : Int) (M : xj_M) : Option (Int × xj_M) := ((xq_gr 14 21 (x0) M).bind fun v184 => ((xq_ai 3 (v184) (x1) M).bind fun v186 => (if (v186) ≤ (x3) then f257_96   f f (x0) (x1) (x2) (-1) M else f257_25  r4 f f (x0) (x1) (x2) (x3) (xwr ((xwr ((x1) * (8))) + (x3))) (0) M)))
theorem k257_4b {d f : Nat}  {r4 : Nat → Int → Int → Int → xj_M → Option (Int × xj_M)}  (hr4 : ∀ {x0 : Nat} {x1 : Int} {x2 : Int} {x3 : Int} {M : xj_M} {R : Int × xj_M}, xin x1 → xin x2 → xin x3 → r4 x0 x1 x2 x3 M = some R → xW (d + 1) (none, d + 1, none) xr_257 (4, [(0, xR_ x0), (1, xI x1), (2, xI x2), (3, xI x3)], [], M) (xQi R)) {x0 : Nat} {x1 : Int} {x2 : Int} {x3 : Int} {M : xj_M} {R : Int × xj_M} (hx1 : xin x1) (hx2 : xin x2) (hx3 : xin x3) (h : f257_4b  r4 f x0 x1 x2 x3 M = some R) : xW (d + 1) (none, d + 1, none) xr_257 (4, [(0, xR_ x0), (1, xI x1), (2, xI x2), (3, xI x3)], [], M) (xQi R) := by
  unfold f257_4b at h
  refine xe_ldn (ins := .iload_n 3) (len := 1) (by decide +kernel) rfl rfl rfl rfl ?_
  refine xe_alr (ins := .aload_n 0) (len := 1) (i := 0) (by decide +kernel) rfl rfl rfl rfl rfl ?_
  obtain ⟨v184, e185, h⟩ := xbnd h
  refine xs_gr (i := 268) (c := 14) (k := 21) (by decide +kernel) (by decide) (by decide +kernel) e185 rfl ?_
  refine xe_ldn (ins := .iload_n 1) (len := 1) (by decide +kernel) rfl rfl rfl rfl ?_
  obtain ⟨v186, e187, h⟩ := xbnd h
  refine xs_iald rfl (by decide +kernel) hx1 e187 rfl ?_
  refine xe_icmpge (off := 83) (t := 94) (by decide +kernel) (by decide) rfl hx3 (xq_ai_in e187) (fun c188 => ?_) (fun c188 => ?_)
  · rw [if_pos c188] at h
    refine xe_iconst (n := -1) (by decide +kernel) rfl ?_
    refine xe_isr (ins := .istore_n 3) (len := 1) (i := 3) (by decide +kernel) rfl rfl rfl (by decide) (xk_k (show ¬ (0 : Nat) = 3 by decide) (Or.inl (show ¬ (0 + 1 : Nat) = 3 by decide)) (xk_k (show ¬ (1 : Nat) = 3 by decide) (Or.inl (show ¬ (1 + 1 : Nat) = 3 by decide)) (xk_k (show ¬ (2 : Nat) = 3 by decide) (Or.inr (xI_cat _)) (xk_d rfl xk_n)))) rfl ?_
    refine xW_lv rfl (l := [(0, xR_ (x0)), (1, xI (x1)), (2, xI (x2)), (3, xI (-1))]) (xsb_of ⟨rfl, rfl, rfl, rfl, trivial⟩ (show [3, 0, 1, 2].Nodup by decide)) ?_
    exact k257_96   hx1 hx2 (show xin (-1) by decide) h
  · rw [if_neg c188] at h
    refine xe_ldn (ins := .iload_n 1) (len := 1) (by decide +kernel) rfl rfl rfl rfl ?_
    refine xe_bipush (n := 8) (by decide +kernel) (by decide) rfl ?_
    refine xe_imul (by decide +kernel) rfl ?_
    refine xe_ldn (ins := .iload_n 3) (len := 1) (by decide +kernel) rfl rfl rfl rfl ?_
    refine xe_iadd (by decide +kernel) rfl ?_
    refine xe_isr (ins := .istore 4) (len := 2) (i := 4) (by decide +kernel) rfl rfl rfl (by decide) (xk_k (show ¬ (0 : Nat) = 4 by decide) (Or.inl (show ¬ (0 + 1 : Nat) = 4 by decide)) (xk_k (show ¬ (1 : Nat) = 4 by decide) (Or.inl (show ¬ (1 + 1 : Nat) = 4 by decide)) (xk_k (show ¬ (2 : Nat) = 4 by decide) (Or.inl (show ¬ (2 + 1 : Nat) = 4 by decide)) (xk_k (show ¬ (3 : Nat) = 4 by decide) (Or.inr (xI_cat _)) xk_n)))) rfl ?_
    refine xe_iconst (n := 0) (by decide +kernel) rfl ?_
    refine xe_isr (ins := .istore 5) (len := 2) (i := 5) (by decide +kernel) rfl rfl rfl (by decide) (xk_k (show ¬ (4 : Nat) = 5 by decide) (Or.inr (xI_cat _)) (xk_k (show ¬ (0 : Nat) = 5 by decide) (Or.inl (show ¬ (0 + 1 : Nat) = 5 by decide)) (xk_k (show ¬ (1 : Nat) = 5 by decide) (Or.inl (show ¬ (1 + 1 : Nat) = 5 by decide)) (xk_k (show ¬ (2 : Nat) = 5 by decide) (Or.inl (show ¬ (2 + 1 : Nat) = 5 by decide)) (xk_k (show ¬ (3 : Nat) = 5 by decide) (Or.inl (show ¬ (3 + 1 : Nat) = 5 by decide)) xk_n))))) rfl ?_
    refine xW_lv rfl (l := [(0, xR_ (x0)), (1, xI (x1)), (2, xI (x2)), (3, xI (x3)), (4, xI (xwr ((xwr ((x1) * (8))) + (x3)))), (5, xI (0))]) (xsb_of ⟨rfl, rfl, rfl, rfl, rfl, rfl, trivial⟩ (show [5, 4, 0, 1, 2, 3].Nodup by decide)) ?_
    exact k257_25  hr4 hx1 hx2 hx3 (xin_wr _) (show xin (0) by decide) h
def f257_4   (f : Nat) : Nat → Nat → Int → Int → Int → xj_M → Option (Int × xj_M)
  | 0, _, _, _, _, _ => none
  | n + 1, x0, x1, x2, x3, M => f257_4b   (f257_4   f n) f x0 x1 x2 x3 M
theorem k257_4 {d f : Nat}     : ∀ {n : Nat} {x0 : Nat} {x1 : Int} {x2 : Int} {x3 : Int} {M : xj_M} {R : Int × xj_M}, xin x1 → xin x2 → xin x3 → f257_4   f n x0 x1 x2 x3 M = some R → xW (d + 1) (none, d + 1, none) xr_257 (4, [(0, xR_ x0), (1, xI x1), (2, xI x2), (3, xI x3)], [], M) (xQi R) := by
  intro n
  induction n with
  | zero => intros; rename_i h; cases h
  | succ n ih => intros; rename_i h; exact k257_4b   ih (by assumption) (by assumption) (by assumption) h
def f257  (f : Nat) (a0 : Nat) (a1 : Int) (M : xj_M) : Option (Int × xj_M) := f257_4   f f (a0) (a1) (0) (0) M
theorem k257 {d f : Nat}   {a0 : Nat} {a1 : Int} {M : xj_M} {R : Int × xj_M} (ha1 : xin a1) (h : f257  f a0 a1 M = some R) : xT (d + 2) 257 [xR_ a0, xI a1] M (xQi R) := by
  refine xT_m xr_257_e (X := (none, d + 1, none)) rfl (xa_1 (xR_cat _) (xa_1 (xI_cat _) xa_n)) (by decide) ?_
  unfold f257 at h
  refine xe_iconst (n := 0) (by decide +kernel) rfl ?_
  refine xe_isr (ins := .istore_n 2) (len := 1) (i := 2) (by decide +kernel) rfl rfl rfl (by decide) (xk_k (show ¬ (0 : Nat) = 2 by decide) (Or.inl (show ¬ (0 + 1 : Nat) = 2 by decide)) (xk_k (show ¬ (1 : Nat) = 2 by decide) (Or.inr (xI_cat _)) xk_n)) rfl ?_
  refine xe_iconst (n := 0) (by decide +kernel) rfl ?_
  refine xe_isr (ins := .istore_n 3) (len := 1) (i := 3) (by decide +kernel) rfl rfl rfl (by decide) (xk_k (show ¬ (2 : Nat) = 3 by decide) (Or.inr (xI_cat _)) (xk_k (show ¬ (0 : Nat) = 3 by decide) (Or.inl (show ¬ (0 + 1 : Nat) = 3 by decide)) (xk_k (show ¬ (1 : Nat) = 3 by decide) (Or.inl (show ¬ (1 + 1 : Nat) = 3 by decide)) xk_n))) rfl ?_
  refine xW_lv rfl (l := [(0, xR_ (a0)), (1, xI (a1)), (2, xI (0)), (3, xI (0))]) (xsb_of ⟨rfl, rfl, rfl, rfl, trivial⟩ (show [3, 2, 0, 1].Nodup by decide)) ?_
  exact k257_4   ha1 (show xin (0) by decide) (show xin (0) by decide) h
-- ChangeHouseModel.findUnsafe
def xr_258 : xj_mR := (15, yX15_findUnsafe, cX15_findUnsafe, 5, (Option.none : Option Jvm.ClassFile.FieldType), 2, false, (9, 92), (1, 12))
set_option maxRecDepth 20000 in
theorem xr_258_e : xj_row 258 = some xr_258 := rfl
def f258_46  (r9 : Nat → Nat → Int → Int → Int → xj_M → Option (xj_M)) (f : Nat) (x0 : Nat) (x1 : Nat) (x2 : Int) (x3 : Int) (x4 : Int) (M : xj_M) : Option (xj_M) := r9 (x0) (x1) (x2) (x3) (xwr ((x4) + (1))) M
theorem k258_46 {d f : Nat}  {r9 : Nat → Nat → Int → Int → Int → xj_M → Option (xj_M)}  (hr9 : ∀ {x0 : Nat} {x1 : Nat} {x2 : Int} {x3 : Int} {x4 : Int} {M : xj_M} {R : xj_M}, xin x2 → xin x3 → xin x4 → r9 x0 x1 x2 x3 x4 M = some R → xW (d + 2) (none, d + 2, none) xr_258 (9, [(0, xR_ x0), (1, xR_ x1), (2, xI x2), (3, xI x3), (4, xI x4)], [], M) (xQv R)) {x0 : Nat} {x1 : Nat} {x2 : Int} {x3 : Int} {x4 : Int} {M : xj_M} {R : xj_M} (hx2 : xin x2) (hx3 : xin x3) (hx4 : xin x4) (h : f258_46  r9 f x0 x1 x2 x3 x4 M = some R) : xW (d + 2) (none, d + 2, none) xr_258 (46, [(0, xR_ x0), (1, xR_ x1), (2, xI x2), (3, xI x3), (4, xI x4)], [], M) (xQv R) := by
  unfold f258_46 at h
  refine xe_iincr (i := 4) (n := 1) (by decide +kernel) (by decide) rfl (xk_k (show ¬ (0 : Nat) = 4 by decide) (Or.inl (show ¬ (0 + 1 : Nat) = 4 by decide)) (xk_k (show ¬ (1 : Nat) = 4 by decide) (Or.inl (show ¬ (1 + 1 : Nat) = 4 by decide)) (xk_k (show ¬ (2 : Nat) = 4 by decide) (Or.inl (show ¬ (2 + 1 : Nat) = 4 by decide)) (xk_k (show ¬ (3 : Nat) = 4 by decide) (Or.inr (xI_cat _)) (xk_d rfl xk_n))))) rfl ?_
  refine xe_goto (off := -40) (nx := 9) (by decide +kernel) (by decide) ?_
  refine xW_lv rfl (l := [(0, xR_ (x0)), (1, xR_ (x1)), (2, xI (x2)), (3, xI (x3)), (4, xI (xwr ((x4) + (1))))]) (xsb_of ⟨rfl, rfl, rfl, rfl, rfl, trivial⟩ (show [4, 0, 1, 2, 3].Nodup by decide)) ?_
  exact hr9 hx2 hx3 (xin_wr _) h
def f258_9b  (r9 : Nat → Nat → Int → Int → Int → xj_M → Option (xj_M)) (f : Nat) (x0 : Nat) (x1 : Nat) (x2 : Int) (x3 : Int) (x4 : Int) (M : xj_M) : Option (xj_M) := ((xq_gr 14 22 (x1) M).bind fun v101 => ((xq_ai 3 (v101) (x2) M).bind fun v103 => (if (v103) ≤ (x4) then (some M) else (if ¬ (xand (xshr (x3) (x4)) (1)) = 0 then f258_46  r9 f (x0) (x1) (x2) (x3) (x4) M else ((xq_gr 14 26 (x1) M).bind fun v107 => ((xq_ai 3 (v107) (xwr ((xwr ((x2) * (8))) + (x4))) M).bind fun v109 => ((xq_is 15 (x0) M).bind fun _ => ((f251  f (x0) (4) (v109) M).bind fun M113 => f258_46  r9 f (x0) (x1) (x2) (x3) (x4) M113))))))))
theorem k258_9b {d f : Nat}  {r9 : Nat → Nat → Int → Int → Int → xj_M → Option (xj_M)}  (hr9 : ∀ {x0 : Nat} {x1 : Nat} {x2 : Int} {x3 : Int} {x4 : Int} {M : xj_M} {R : xj_M}, xin x2 → xin x3 → xin x4 → r9 x0 x1 x2 x3 x4 M = some R → xW (d + 2) (none, d + 2, none) xr_258 (9, [(0, xR_ x0), (1, xR_ x1), (2, xI x2), (3, xI x3), (4, xI x4)], [], M) (xQv R)) {x0 : Nat} {x1 : Nat} {x2 : Int} {x3 : Int} {x4 : Int} {M : xj_M} {R : xj_M} (hx2 : xin x2) (hx3 : xin x3) (hx4 : xin x4) (h : f258_9b  r9 f x0 x1 x2 x3 x4 M = some R) : xW (d + 2) (none, d + 2, none) xr_258 (9, [(0, xR_ x0), (1, xR_ x1), (2, xI x2), (3, xI x3), (4, xI x4)], [], M) (xQv R) := by
  unfold f258_9b at h
  refine xe_ldn (ins := .iload 4) (len := 2) (by decide +kernel) rfl rfl rfl rfl ?_
  refine xe_alr (ins := .aload_n 1) (len := 1) (i := 1) (by decide +kernel) rfl rfl rfl rfl rfl ?_
  obtain ⟨v101, e102, h⟩ := xbnd h
  refine xs_gr (i := 271) (c := 14) (k := 22) (by decide +kernel) (by decide) (by decide +kernel) e102 rfl ?_
  refine xe_ldn (ins := .iload_n 2) (len := 1) (by decide +kernel) rfl rfl rfl rfl ?_
  obtain ⟨v103, e104, h⟩ := xbnd h
  refine xs_iald rfl (by decide +kernel) hx2 e104 rfl ?_
  refine xe_icmpge (off := 35) (t := 52) (by decide +kernel) (by decide) rfl hx4 (xq_ai_in e104) (fun c105 => ?_) (fun c105 => ?_)
  · rw [if_pos c105] at h
    cases h
    exact xe_ret_v (by decide +kernel) rfl ⟨rfl, rfl⟩
  · rw [if_neg c105] at h
    refine xe_ldn (ins := .iload_n 3) (len := 1) (by decide +kernel) rfl rfl rfl rfl ?_
    refine xe_ldn (ins := .iload 4) (len := 2) (by decide +kernel) rfl rfl rfl rfl ?_
    refine xe_ishr (by decide +kernel) rfl ?_
    refine xe_iconst (n := 1) (by decide +kernel) rfl ?_
    refine xe_iand (by decide +kernel) rfl ?_
    refine xe_ifne (off := 20) (t := 46) (by decide +kernel) (by decide) rfl (xin_of _) (fun c106 => ?_) (fun c106 => ?_)
    · rw [if_pos c106] at h
      refine xW_lv rfl (l := [(0, xR_ (x0)), (1, xR_ (x1)), (2, xI (x2)), (3, xI (x3)), (4, xI (x4))]) (xsb_of ⟨rfl, rfl, rfl, rfl, rfl, trivial⟩ (show [0, 1, 2, 3, 4].Nodup by decide)) ?_
      exact k258_46  hr9 hx2 hx3 hx4 h
    · rw [if_neg c106] at h
      refine xe_alr (ins := .aload_n 0) (len := 1) (i := 0) (by decide +kernel) rfl rfl rfl rfl rfl ?_
      refine xe_iconst (n := 4) (by decide +kernel) rfl ?_
      refine xe_alr (ins := .aload_n 1) (len := 1) (i := 1) (by decide +kernel) rfl rfl rfl rfl rfl ?_
      obtain ⟨v107, e108, h⟩ := xbnd h
      refine xs_gr (i := 315) (c := 14) (k := 26) (by decide +kernel) (by decide) (by decide +kernel) e108 rfl ?_
      refine xe_ldn (ins := .iload_n 2) (len := 1) (by decide +kernel) rfl rfl rfl rfl ?_
      refine xe_bipush (n := 8) (by decide +kernel) (by decide) rfl ?_
      refine xe_imul (by decide +kernel) rfl ?_
      refine xe_ldn (ins := .iload 4) (len := 2) (by decide +kernel) rfl rfl rfl rfl ?_
      refine xe_iadd (by decide +kernel) rfl ?_
      obtain ⟨v109, e110, h⟩ := xbnd h
      refine xs_iald rfl (by decide +kernel) (xin_wr _) e110 rfl ?_
      obtain ⟨_, e112, h⟩ := xbnd h
      obtain ⟨M113, e111, h⟩ := xbnd h
      refine xs_cv (i := 392) (j := 251) (ar := [xI (v109), xI (4)]) (rest := []) (r2 := xr_251) (by decide +kernel) (by decide +kernel) (by decide +kernel) xr_251_e rfl (by decide) (by decide) e112 ?_
      refine xc_v (k251 (d := d + 1)  (show xin (4) by decide) (xq_ai_in e110) e111) rfl ?_
      refine xW_lv rfl (l := [(0, xR_ (x0)), (1, xR_ (x1)), (2, xI (x2)), (3, xI (x3)), (4, xI (x4))]) (xsb_of ⟨rfl, rfl, rfl, rfl, rfl, trivial⟩ (show [0, 1, 2, 3, 4].Nodup by decide)) ?_
      exact k258_46  hr9 hx2 hx3 hx4 h
def f258_9   (f : Nat) : Nat → Nat → Nat → Int → Int → Int → xj_M → Option (xj_M)
  | 0, _, _, _, _, _, _ => none
  | n + 1, x0, x1, x2, x3, x4, M => f258_9b   (f258_9   f n) f x0 x1 x2 x3 x4 M
theorem k258_9 {d f : Nat}     : ∀ {n : Nat} {x0 : Nat} {x1 : Nat} {x2 : Int} {x3 : Int} {x4 : Int} {M : xj_M} {R : xj_M}, xin x2 → xin x3 → xin x4 → f258_9   f n x0 x1 x2 x3 x4 M = some R → xW (d + 2) (none, d + 2, none) xr_258 (9, [(0, xR_ x0), (1, xR_ x1), (2, xI x2), (3, xI x3), (4, xI x4)], [], M) (xQv R) := by
  intro n
  induction n with
  | zero => intros; rename_i h; cases h
  | succ n ih => intros; rename_i h; exact k258_9b   ih (by assumption) (by assumption) (by assumption) h
def f258  (f : Nat) (a0 : Nat) (a1 : Nat) (a2 : Int) (M : xj_M) : Option (xj_M) := ((f257  f (a1) (a2) M).bind fun R116 => f258_9   f f (a0) (a1) (a2) (R116.1) (0) R116.2)
theorem k258 {d f : Nat}   {a0 : Nat} {a1 : Nat} {a2 : Int} {M : xj_M} {R : xj_M} (ha2 : xin a2) (h : f258  f a0 a1 a2 M = some R) : xT (d + 3) 258 [xR_ a0, xR_ a1, xI a2] M (xQv R) := by
  refine xT_m xr_258_e (X := (none, d + 2, none)) rfl (xa_1 (xR_cat _) (xa_1 (xR_cat _) (xa_1 (xI_cat _) xa_n))) (by decide) ?_
  unfold f258 at h
  refine xe_alr (ins := .aload_n 1) (len := 1) (i := 1) (by decide +kernel) rfl rfl rfl rfl rfl ?_
  refine xe_ldn (ins := .iload_n 2) (len := 1) (by decide +kernel) rfl rfl rfl rfl ?_
  obtain ⟨R116, e115, h⟩ := xbnd h
  refine xs_cs (kd := 2) (by decide) (i := 417) (j := 257) (ar := [xI (a2), xR_ (a1)]) (rest := []) (r2 := xr_257) (by decide +kernel) (by decide +kernel) (by decide +kernel) xr_257_e rfl (by decide) ?_
  refine xc_i (k257 (d := d + 0)  ha2 e115) rfl (fun hi117 => ?_)
  refine xe_isr (ins := .istore_n 3) (len := 1) (i := 3) (by decide +kernel) rfl rfl rfl (by decide) (xk_k (show ¬ (0 : Nat) = 3 by decide) (Or.inl (show ¬ (0 + 1 : Nat) = 3 by decide)) (xk_k (show ¬ (1 : Nat) = 3 by decide) (Or.inl (show ¬ (1 + 1 : Nat) = 3 by decide)) (xk_k (show ¬ (2 : Nat) = 3 by decide) (Or.inr (xI_cat _)) xk_n))) rfl ?_
  refine xe_iconst (n := 0) (by decide +kernel) rfl ?_
  refine xe_isr (ins := .istore 4) (len := 2) (i := 4) (by decide +kernel) rfl rfl rfl (by decide) (xk_k (show ¬ (3 : Nat) = 4 by decide) (Or.inr (xI_cat _)) (xk_k (show ¬ (0 : Nat) = 4 by decide) (Or.inl (show ¬ (0 + 1 : Nat) = 4 by decide)) (xk_k (show ¬ (1 : Nat) = 4 by decide) (Or.inl (show ¬ (1 + 1 : Nat) = 4 by decide)) (xk_k (show ¬ (2 : Nat) = 4 by decide) (Or.inl (show ¬ (2 + 1 : Nat) = 4 by decide)) xk_n)))) rfl ?_
  refine xW_lv rfl (l := [(0, xR_ (a0)), (1, xR_ (a1)), (2, xI (a2)), (3, xI (R116.1)), (4, xI (0))]) (xsb_of ⟨rfl, rfl, rfl, rfl, rfl, trivial⟩ (show [4, 3, 0, 1, 2].Nodup by decide)) ?_
  exact k258_9   ha2 hi117 (show xin (0) by decide) h
-- ChangeHouseModel.findRings
def xr_259 : xj_mR := (15, yX15_findRings, cX15_findRings, 5, (Option.none : Option Jvm.ClassFile.FieldType), 1, false, (9, 105), (1, 12))
set_option maxRecDepth 20000 in
theorem xr_259_e : xj_row 259 = some xr_259 := rfl
def f259_87  (r25 : Nat → Nat → Int → xj_M → Option (xj_M)) (r35 : Nat → Nat → Int → Int → xj_M → Option (xj_M)) (f : Nat) (x0 : Nat) (x1 : Nat) (x2 : Int) (x3 : Int) (M : xj_M) : Option (xj_M) := r35 (x0) (x1) (x2) (xwr ((x3) + (1))) M
theorem k259_87 {d f : Nat}  {r25 : Nat → Nat → Int → xj_M → Option (xj_M)} {r35 : Nat → Nat → Int → Int → xj_M → Option (xj_M)}  (hr25 : ∀ {x0 : Nat} {x1 : Nat} {x2 : Int} {M : xj_M} {R : xj_M}, xin x2 → r25 x0 x1 x2 M = some R → xW (d + 0) (none, d + 0, none) xr_259 (25, [(0, xR_ x0), (1, xR_ x1), (2, xI x2)], [], M) (xQv R)) (hr35 : ∀ {x0 : Nat} {x1 : Nat} {x2 : Int} {x3 : Int} {M : xj_M} {R : xj_M}, xin x2 → xin x3 → r35 x0 x1 x2 x3 M = some R → xW (d + 0) (none, d + 0, none) xr_259 (35, [(0, xR_ x0), (1, xR_ x1), (2, xI x2), (3, xI x3)], [], M) (xQv R)) {x0 : Nat} {x1 : Nat} {x2 : Int} {x3 : Int} {M : xj_M} {R : xj_M} (hx2 : xin x2) (hx3 : xin x3) (h : f259_87  r25 r35 f x0 x1 x2 x3 M = some R) : xW (d + 0) (none, d + 0, none) xr_259 (87, [(0, xR_ x0), (1, xR_ x1), (2, xI x2), (3, xI x3)], [], M) (xQv R) := by
  unfold f259_87 at h
  refine xe_iincr (i := 3) (n := 1) (by decide +kernel) (by decide) rfl (xk_k (show ¬ (0 : Nat) = 3 by decide) (Or.inl (show ¬ (0 + 1 : Nat) = 3 by decide)) (xk_k (show ¬ (1 : Nat) = 3 by decide) (Or.inl (show ¬ (1 + 1 : Nat) = 3 by decide)) (xk_k (show ¬ (2 : Nat) = 3 by decide) (Or.inr (xI_cat _)) (xk_d rfl xk_n)))) rfl ?_
  refine xe_goto (off := -55) (nx := 35) (by decide +kernel) (by decide) ?_
  refine xW_lv rfl (l := [(0, xR_ (x0)), (1, xR_ (x1)), (2, xI (x2)), (3, xI (xwr ((x3) + (1))))]) (xsb_of ⟨rfl, rfl, rfl, rfl, trivial⟩ (show [3, 0, 1, 2].Nodup by decide)) ?_
  exact hr35 hx2 (xin_wr _) h
def f259_35b  (r25 : Nat → Nat → Int → xj_M → Option (xj_M)) (r35 : Nat → Nat → Int → Int → xj_M → Option (xj_M)) (f : Nat) (x0 : Nat) (x1 : Nat) (x2 : Int) (x3 : Int) (M : xj_M) : Option (xj_M) := ((xq_gr 14 21 (x1) M).bind fun v101 => ((xq_ai 3 (v101) (x2) M).bind fun v103 => (if (v103) ≤ (x3) then r25 (x0) (x1) (xwr ((x2) + (1))) M else ((xq_gr 14 27 (x1) M).bind fun v106 => ((xq_ai 3 (v106) (xwr ((xwr ((x2) * (8))) + (x3))) M).bind fun v108 => (if (v108) = (3) then f259_87  r25 r35 f (x0) (x1) (x2) (x3) M else ((xq_gr 14 3 (x1) M).bind fun v111 => ((xq_gr 14 15 (x1) M).bind fun v113 => ((xq_ai 3 (v113) (x2) M).bind fun v115 => ((xq_ai 3 (v111) (v115) M).bind fun v117 => ((xq_gr 14 28 (x1) M).bind fun v119 => ((xq_ai 3 (v119) (xwr ((xwr ((x2) * (8))) + (x3))) M).bind fun v121 => ((xq_si (v111) (v115) (xor_ (v117) (xshl (1) (v121))) M).bind fun M123 => f259_87  r25 r35 f (x0) (x1) (x2) (x3) M123)))))))))))))
theorem k259_35b {d f : Nat}  {r25 : Nat → Nat → Int → xj_M → Option (xj_M)} {r35 : Nat → Nat → Int → Int → xj_M → Option (xj_M)}  (hr25 : ∀ {x0 : Nat} {x1 : Nat} {x2 : Int} {M : xj_M} {R : xj_M}, xin x2 → r25 x0 x1 x2 M = some R → xW (d + 0) (none, d + 0, none) xr_259 (25, [(0, xR_ x0), (1, xR_ x1), (2, xI x2)], [], M) (xQv R)) (hr35 : ∀ {x0 : Nat} {x1 : Nat} {x2 : Int} {x3 : Int} {M : xj_M} {R : xj_M}, xin x2 → xin x3 → r35 x0 x1 x2 x3 M = some R → xW (d + 0) (none, d + 0, none) xr_259 (35, [(0, xR_ x0), (1, xR_ x1), (2, xI x2), (3, xI x3)], [], M) (xQv R)) {x0 : Nat} {x1 : Nat} {x2 : Int} {x3 : Int} {M : xj_M} {R : xj_M} (hx2 : xin x2) (hx3 : xin x3) (h : f259_35b  r25 r35 f x0 x1 x2 x3 M = some R) : xW (d + 0) (none, d + 0, none) xr_259 (35, [(0, xR_ x0), (1, xR_ x1), (2, xI x2), (3, xI x3)], [], M) (xQv R) := by
  unfold f259_35b at h
  refine xe_ldn (ins := .iload_n 3) (len := 1) (by decide +kernel) rfl rfl rfl rfl ?_
  refine xe_alr (ins := .aload_n 1) (len := 1) (i := 1) (by decide +kernel) rfl rfl rfl rfl rfl ?_
  obtain ⟨v101, e102, h⟩ := xbnd h
  refine xs_gr (i := 268) (c := 14) (k := 21) (by decide +kernel) (by decide) (by decide +kernel) e102 rfl ?_
  refine xe_ldn (ins := .iload_n 2) (len := 1) (by decide +kernel) rfl rfl rfl rfl ?_
  obtain ⟨v103, e104, h⟩ := xbnd h
  refine xs_iald rfl (by decide +kernel) hx2 e104 rfl ?_
  refine xe_icmpge (off := 51) (t := 93) (by decide +kernel) (by decide) rfl hx3 (xq_ai_in e104) (fun c105 => ?_) (fun c105 => ?_)
  · rw [if_pos c105] at h
    refine xe_iincr (i := 2) (n := 1) (by decide +kernel) (by decide) rfl (xk_k (show ¬ (0 : Nat) = 2 by decide) (Or.inl (show ¬ (0 + 1 : Nat) = 2 by decide)) (xk_k (show ¬ (1 : Nat) = 2 by decide) (Or.inr (xR_cat _)) (xk_d rfl (xk_k (show ¬ (3 : Nat) = 2 by decide) (Or.inl (show ¬ (3 + 1 : Nat) = 2 by decide)) xk_n)))) rfl ?_
    refine xe_goto (off := -71) (nx := 25) (by decide +kernel) (by decide) ?_
    refine xW_lv rfl (l := [(0, xR_ (x0)), (1, xR_ (x1)), (2, xI (xwr ((x2) + (1))))]) (xsb_of ⟨rfl, rfl, rfl, trivial⟩ (show [2, 0, 1, 3].Nodup by decide)) ?_
    exact hr25 (xin_wr _) h
  · rw [if_neg c105] at h
    refine xe_alr (ins := .aload_n 1) (len := 1) (i := 1) (by decide +kernel) rfl rfl rfl rfl rfl ?_
    obtain ⟨v106, e107, h⟩ := xbnd h
    refine xs_gr (i := 357) (c := 14) (k := 27) (by decide +kernel) (by decide) (by decide +kernel) e107 rfl ?_
    refine xe_ldn (ins := .iload_n 2) (len := 1) (by decide +kernel) rfl rfl rfl rfl ?_
    refine xe_bipush (n := 8) (by decide +kernel) (by decide) rfl ?_
    refine xe_imul (by decide +kernel) rfl ?_
    refine xe_ldn (ins := .iload_n 3) (len := 1) (by decide +kernel) rfl rfl rfl rfl ?_
    refine xe_iadd (by decide +kernel) rfl ?_
    obtain ⟨v108, e109, h⟩ := xbnd h
    refine xs_iald rfl (by decide +kernel) (xin_wr _) e109 rfl ?_
    refine xe_iconst (n := 3) (by decide +kernel) rfl ?_
    refine xe_icmpeq (off := 30) (t := 87) (by decide +kernel) (by decide) rfl (xq_ai_in e109) (show xin (3) by decide) (fun c110 => ?_) (fun c110 => ?_)
    · rw [if_pos c110] at h
      refine xW_lv rfl (l := [(0, xR_ (x0)), (1, xR_ (x1)), (2, xI (x2)), (3, xI (x3))]) (xsb_of ⟨rfl, rfl, rfl, rfl, trivial⟩ (show [0, 1, 2, 3].Nodup by decide)) ?_
      exact k259_87  hr25 hr35 hx2 hx3 h
    · rw [if_neg c110] at h
      refine xe_alr (ins := .aload_n 1) (len := 1) (i := 1) (by decide +kernel) rfl rfl rfl rfl rfl ?_
      obtain ⟨v111, e112, h⟩ := xbnd h
      refine xs_gr (i := 421) (c := 14) (k := 3) (by decide +kernel) (by decide) (by decide +kernel) e112 rfl ?_
      refine xe_alr (ins := .aload_n 1) (len := 1) (i := 1) (by decide +kernel) rfl rfl rfl rfl rfl ?_
      obtain ⟨v113, e114, h⟩ := xbnd h
      refine xs_gr (i := 292) (c := 14) (k := 15) (by decide +kernel) (by decide) (by decide +kernel) e114 rfl ?_
      refine xe_ldn (ins := .iload_n 2) (len := 1) (by decide +kernel) rfl rfl rfl rfl ?_
      obtain ⟨v115, e116, h⟩ := xbnd h
      refine xs_iald rfl (by decide +kernel) hx2 e116 rfl ?_
      refine xe_dup2r (xI_cat _) (xR_cat _) (by decide +kernel) rfl ?_
      obtain ⟨v117, e118, h⟩ := xbnd h
      refine xs_iald rfl (by decide +kernel) (xq_ai_in e116) e118 rfl ?_
      refine xe_iconst (n := 1) (by decide +kernel) rfl ?_
      refine xe_alr (ins := .aload_n 1) (len := 1) (i := 1) (by decide +kernel) rfl rfl rfl rfl rfl ?_
      obtain ⟨v119, e120, h⟩ := xbnd h
      refine xs_gr (i := 363) (c := 14) (k := 28) (by decide +kernel) (by decide) (by decide +kernel) e120 rfl ?_
      refine xe_ldn (ins := .iload_n 2) (len := 1) (by decide +kernel) rfl rfl rfl rfl ?_
      refine xe_bipush (n := 8) (by decide +kernel) (by decide) rfl ?_
      refine xe_imul (by decide +kernel) rfl ?_
      refine xe_ldn (ins := .iload_n 3) (len := 1) (by decide +kernel) rfl rfl rfl rfl ?_
      refine xe_iadd (by decide +kernel) rfl ?_
      obtain ⟨v121, e122, h⟩ := xbnd h
      refine xs_iald rfl (by decide +kernel) (xin_wr _) e122 rfl ?_
      refine xe_ishl (by decide +kernel) rfl ?_
      refine xe_ior (by decide +kernel) rfl ?_
      obtain ⟨M123, e124, h⟩ := xbnd h
      refine xs_iast (by decide +kernel) (xq_ai_in e116) e124 rfl ?_
      refine xW_lv rfl (l := [(0, xR_ (x0)), (1, xR_ (x1)), (2, xI (x2)), (3, xI (x3))]) (xsb_of ⟨rfl, rfl, rfl, rfl, trivial⟩ (show [0, 1, 2, 3].Nodup by decide)) ?_
      exact k259_87  hr25 hr35 hx2 hx3 h
def f259_35  (r25 : Nat → Nat → Int → xj_M → Option (xj_M)) (f : Nat) : Nat → Nat → Nat → Int → Int → xj_M → Option (xj_M)
  | 0, _, _, _, _, _ => none
  | n + 1, x0, x1, x2, x3, M => f259_35b  r25 (f259_35  r25 f n) f x0 x1 x2 x3 M
theorem k259_35 {d f : Nat}  {r25 : Nat → Nat → Int → xj_M → Option (xj_M)}  (hr25 : ∀ {x0 : Nat} {x1 : Nat} {x2 : Int} {M : xj_M} {R : xj_M}, xin x2 → r25 x0 x1 x2 M = some R → xW (d + 0) (none, d + 0, none) xr_259 (25, [(0, xR_ x0), (1, xR_ x1), (2, xI x2)], [], M) (xQv R)) : ∀ {n : Nat} {x0 : Nat} {x1 : Nat} {x2 : Int} {x3 : Int} {M : xj_M} {R : xj_M}, xin x2 → xin x3 → f259_35  r25 f n x0 x1 x2 x3 M = some R → xW (d + 0) (none, d + 0, none) xr_259 (35, [(0, xR_ x0), (1, xR_ x1), (2, xI x2), (3, xI x3)], [], M) (xQv R) := by
  intro n
  induction n with
  | zero => intros; rename_i h; cases h
  | succ n ih => intros; rename_i h; exact k259_35b  hr25 ih (by assumption) (by assumption) h
def f259_173  (r131 : Nat → Nat → Int → xj_M → Option (xj_M)) (r142 : Nat → Nat → Int → Int → xj_M → Option (xj_M)) (f : Nat) (x1 : Nat) (x2 : Nat) (x3 : Int) (x4 : Int) (M : xj_M) : Option (xj_M) := r142 (x1) (x2) (x3) (xwr ((x4) + (1))) M
theorem k259_173 {d f : Nat}  {r131 : Nat → Nat → Int → xj_M → Option (xj_M)} {r142 : Nat → Nat → Int → Int → xj_M → Option (xj_M)}  (hr131 : ∀ {x1 : Nat} {x2 : Nat} {x3 : Int} {M : xj_M} {R : xj_M}, xin x3 → r131 x1 x2 x3 M = some R → xW (d + 0) (none, d + 0, none) xr_259 (131, [(1, xR_ x1), (2, xR_ x2), (3, xI x3)], [], M) (xQv R)) (hr142 : ∀ {x1 : Nat} {x2 : Nat} {x3 : Int} {x4 : Int} {M : xj_M} {R : xj_M}, xin x3 → xin x4 → r142 x1 x2 x3 x4 M = some R → xW (d + 0) (none, d + 0, none) xr_259 (142, [(1, xR_ x1), (2, xR_ x2), (3, xI x3), (4, xI x4)], [], M) (xQv R)) {x1 : Nat} {x2 : Nat} {x3 : Int} {x4 : Int} {M : xj_M} {R : xj_M} (hx3 : xin x3) (hx4 : xin x4) (h : f259_173  r131 r142 f x1 x2 x3 x4 M = some R) : xW (d + 0) (none, d + 0, none) xr_259 (173, [(1, xR_ x1), (2, xR_ x2), (3, xI x3), (4, xI x4)], [], M) (xQv R) := by
  unfold f259_173 at h
  refine xe_iincr (i := 4) (n := 1) (by decide +kernel) (by decide) rfl (xk_k (show ¬ (1 : Nat) = 4 by decide) (Or.inl (show ¬ (1 + 1 : Nat) = 4 by decide)) (xk_k (show ¬ (2 : Nat) = 4 by decide) (Or.inl (show ¬ (2 + 1 : Nat) = 4 by decide)) (xk_k (show ¬ (3 : Nat) = 4 by decide) (Or.inr (xI_cat _)) (xk_d rfl xk_n)))) rfl ?_
  refine xe_goto (off := -34) (nx := 142) (by decide +kernel) (by decide) ?_
  refine xW_lv rfl (l := [(1, xR_ (x1)), (2, xR_ (x2)), (3, xI (x3)), (4, xI (xwr ((x4) + (1))))]) (xsb_of ⟨rfl, rfl, rfl, rfl, trivial⟩ (show [4, 1, 2, 3].Nodup by decide)) ?_
  exact hr142 hx3 (xin_wr _) h
def f259_142b  (r131 : Nat → Nat → Int → xj_M → Option (xj_M)) (r142 : Nat → Nat → Int → Int → xj_M → Option (xj_M)) (f : Nat) (x1 : Nat) (x2 : Nat) (x3 : Int) (x4 : Int) (M : xj_M) : Option (xj_M) := ((xq_gi 14 8 (x1) M).bind fun v125 => (if (v125) ≤ (x4) then r131 (x1) (x2) (xwr ((x3) + (1))) M else ((xq_ai 3 (x2) (x4) M).bind fun v128 => (if ¬ (xand (xshr (v128) (x3)) (1)) = (1) then f259_173  r131 r142 f (x1) (x2) (x3) (x4) M else ((xq_ai 3 (x2) (x4) M).bind fun v131 => ((xq_ai 3 (x2) (x3) M).bind fun v133 => ((xq_si (x2) (x4) (xor_ (v131) (v133)) M).bind fun M135 => f259_173  r131 r142 f (x1) (x2) (x3) (x4) M135)))))))
theorem k259_142b {d f : Nat}  {r131 : Nat → Nat → Int → xj_M → Option (xj_M)} {r142 : Nat → Nat → Int → Int → xj_M → Option (xj_M)}  (hr131 : ∀ {x1 : Nat} {x2 : Nat} {x3 : Int} {M : xj_M} {R : xj_M}, xin x3 → r131 x1 x2 x3 M = some R → xW (d + 0) (none, d + 0, none) xr_259 (131, [(1, xR_ x1), (2, xR_ x2), (3, xI x3)], [], M) (xQv R)) (hr142 : ∀ {x1 : Nat} {x2 : Nat} {x3 : Int} {x4 : Int} {M : xj_M} {R : xj_M}, xin x3 → xin x4 → r142 x1 x2 x3 x4 M = some R → xW (d + 0) (none, d + 0, none) xr_259 (142, [(1, xR_ x1), (2, xR_ x2), (3, xI x3), (4, xI x4)], [], M) (xQv R)) {x1 : Nat} {x2 : Nat} {x3 : Int} {x4 : Int} {M : xj_M} {R : xj_M} (hx3 : xin x3) (hx4 : xin x4) (h : f259_142b  r131 r142 f x1 x2 x3 x4 M = some R) : xW (d + 0) (none, d + 0, none) xr_259 (142, [(1, xR_ x1), (2, xR_ x2), (3, xI x3), (4, xI x4)], [], M) (xQv R) := by
  unfold f259_142b at h
  refine xe_ldn (ins := .iload 4) (len := 2) (by decide +kernel) rfl rfl rfl rfl ?_
  refine xe_alr (ins := .aload_n 1) (len := 1) (i := 1) (by decide +kernel) rfl rfl rfl rfl rfl ?_
  obtain ⟨v125, e126, h⟩ := xbnd h
  refine xs_gi (i := 166) (c := 14) (k := 8) (by decide +kernel) (by decide) (by decide +kernel) e126 rfl ?_
  refine xe_icmpge (off := 31) (t := 179) (by decide +kernel) (by decide) rfl hx4 (xq_gi_in e126) (fun c127 => ?_) (fun c127 => ?_)
  · rw [if_pos c127] at h
    refine xe_iincr (i := 3) (n := 1) (by decide +kernel) (by decide) rfl (xk_k (show ¬ (1 : Nat) = 3 by decide) (Or.inl (show ¬ (1 + 1 : Nat) = 3 by decide)) (xk_k (show ¬ (2 : Nat) = 3 by decide) (Or.inr (xR_cat _)) (xk_d rfl (xk_k (show ¬ (4 : Nat) = 3 by decide) (Or.inl (show ¬ (4 + 1 : Nat) = 3 by decide)) xk_n)))) rfl ?_
    refine xe_goto (off := -51) (nx := 131) (by decide +kernel) (by decide) ?_
    refine xW_lv rfl (l := [(1, xR_ (x1)), (2, xR_ (x2)), (3, xI (xwr ((x3) + (1))))]) (xsb_of ⟨rfl, rfl, rfl, trivial⟩ (show [3, 1, 2, 4].Nodup by decide)) ?_
    exact hr131 (xin_wr _) h
  · rw [if_neg c127] at h
    refine xe_alr (ins := .aload_n 2) (len := 1) (i := 2) (by decide +kernel) rfl rfl rfl rfl rfl ?_
    refine xe_ldn (ins := .iload 4) (len := 2) (by decide +kernel) rfl rfl rfl rfl ?_
    obtain ⟨v128, e129, h⟩ := xbnd h
    refine xs_iald rfl (by decide +kernel) hx4 e129 rfl ?_
    refine xe_ldn (ins := .iload_n 3) (len := 1) (by decide +kernel) rfl rfl rfl rfl ?_
    refine xe_ishr (by decide +kernel) rfl ?_
    refine xe_iconst (n := 1) (by decide +kernel) rfl ?_
    refine xe_iand (by decide +kernel) rfl ?_
    refine xe_iconst (n := 1) (by decide +kernel) rfl ?_
    refine xe_icmpne (off := 13) (t := 173) (by decide +kernel) (by decide) rfl (xin_of _) (show xin (1) by decide) (fun c130 => ?_) (fun c130 => ?_)
    · rw [if_pos c130] at h
      refine xW_lv rfl (l := [(1, xR_ (x1)), (2, xR_ (x2)), (3, xI (x3)), (4, xI (x4))]) (xsb_of ⟨rfl, rfl, rfl, rfl, trivial⟩ (show [1, 2, 3, 4].Nodup by decide)) ?_
      exact k259_173  hr131 hr142 hx3 hx4 h
    · rw [if_neg c130] at h
      refine xe_alr (ins := .aload_n 2) (len := 1) (i := 2) (by decide +kernel) rfl rfl rfl rfl rfl ?_
      refine xe_ldn (ins := .iload 4) (len := 2) (by decide +kernel) rfl rfl rfl rfl ?_
      refine xe_dup2r (xI_cat _) (xR_cat _) (by decide +kernel) rfl ?_
      obtain ⟨v131, e132, h⟩ := xbnd h
      refine xs_iald rfl (by decide +kernel) hx4 e132 rfl ?_
      refine xe_alr (ins := .aload_n 2) (len := 1) (i := 2) (by decide +kernel) rfl rfl rfl rfl rfl ?_
      refine xe_ldn (ins := .iload_n 3) (len := 1) (by decide +kernel) rfl rfl rfl rfl ?_
      obtain ⟨v133, e134, h⟩ := xbnd h
      refine xs_iald rfl (by decide +kernel) hx3 e134 rfl ?_
      refine xe_ior (by decide +kernel) rfl ?_
      obtain ⟨M135, e136, h⟩ := xbnd h
      refine xs_iast (by decide +kernel) hx4 e136 rfl ?_
      refine xW_lv rfl (l := [(1, xR_ (x1)), (2, xR_ (x2)), (3, xI (x3)), (4, xI (x4))]) (xsb_of ⟨rfl, rfl, rfl, rfl, trivial⟩ (show [1, 2, 3, 4].Nodup by decide)) ?_
      exact k259_173  hr131 hr142 hx3 hx4 h
def f259_142  (r131 : Nat → Nat → Int → xj_M → Option (xj_M)) (f : Nat) : Nat → Nat → Nat → Int → Int → xj_M → Option (xj_M)
  | 0, _, _, _, _, _ => none
  | n + 1, x1, x2, x3, x4, M => f259_142b  r131 (f259_142  r131 f n) f x1 x2 x3 x4 M
theorem k259_142 {d f : Nat}  {r131 : Nat → Nat → Int → xj_M → Option (xj_M)}  (hr131 : ∀ {x1 : Nat} {x2 : Nat} {x3 : Int} {M : xj_M} {R : xj_M}, xin x3 → r131 x1 x2 x3 M = some R → xW (d + 0) (none, d + 0, none) xr_259 (131, [(1, xR_ x1), (2, xR_ x2), (3, xI x3)], [], M) (xQv R)) : ∀ {n : Nat} {x1 : Nat} {x2 : Nat} {x3 : Int} {x4 : Int} {M : xj_M} {R : xj_M}, xin x3 → xin x4 → f259_142  r131 f n x1 x2 x3 x4 M = some R → xW (d + 0) (none, d + 0, none) xr_259 (142, [(1, xR_ x1), (2, xR_ x2), (3, xI x3), (4, xI x4)], [], M) (xQv R) := by
  intro n
  induction n with
  | zero => intros; rename_i h; cases h
  | succ n ih => intros; rename_i h; exact k259_142b  hr131 ih (by assumption) (by assumption) h
def f259_244  (r187 : Nat → Nat → Int → xj_M → Option (xj_M)) (r207 : Nat → Nat → Int → Int → xj_M → Option (xj_M)) (f : Nat) (x1 : Nat) (x2 : Nat) (x3 : Int) (x4 : Int) (M : xj_M) : Option (xj_M) := r207 (x1) (x2) (x3) (xwr ((x4) + (-1))) M
theorem k259_244 {d f : Nat}  {r187 : Nat → Nat → Int → xj_M → Option (xj_M)} {r207 : Nat → Nat → Int → Int → xj_M → Option (xj_M)}  (hr187 : ∀ {x1 : Nat} {x2 : Nat} {x3 : Int} {M : xj_M} {R : xj_M}, xin x3 → r187 x1 x2 x3 M = some R → xW (d + 0) (none, d + 0, none) xr_259 (187, [(1, xR_ x1), (2, xR_ x2), (3, xI x3)], [], M) (xQv R)) (hr207 : ∀ {x1 : Nat} {x2 : Nat} {x3 : Int} {x4 : Int} {M : xj_M} {R : xj_M}, xin x3 → xin x4 → r207 x1 x2 x3 x4 M = some R → xW (d + 0) (none, d + 0, none) xr_259 (207, [(1, xR_ x1), (2, xR_ x2), (3, xI x3), (4, xI x4)], [], M) (xQv R)) {x1 : Nat} {x2 : Nat} {x3 : Int} {x4 : Int} {M : xj_M} {R : xj_M} (hx3 : xin x3) (hx4 : xin x4) (h : f259_244  r187 r207 f x1 x2 x3 x4 M = some R) : xW (d + 0) (none, d + 0, none) xr_259 (244, [(1, xR_ x1), (2, xR_ x2), (3, xI x3), (4, xI x4)], [], M) (xQv R) := by
  unfold f259_244 at h
  refine xe_iincr (i := 4) (n := -1) (by decide +kernel) (by decide) rfl (xk_k (show ¬ (1 : Nat) = 4 by decide) (Or.inl (show ¬ (1 + 1 : Nat) = 4 by decide)) (xk_k (show ¬ (2 : Nat) = 4 by decide) (Or.inl (show ¬ (2 + 1 : Nat) = 4 by decide)) (xk_k (show ¬ (3 : Nat) = 4 by decide) (Or.inr (xI_cat _)) (xk_d rfl xk_n)))) rfl ?_
  refine xe_goto (off := -40) (nx := 207) (by decide +kernel) (by decide) ?_
  refine xW_lv rfl (l := [(1, xR_ (x1)), (2, xR_ (x2)), (3, xI (x3)), (4, xI (xwr ((x4) + (-1))))]) (xsb_of ⟨rfl, rfl, rfl, rfl, trivial⟩ (show [4, 1, 2, 3].Nodup by decide)) ?_
  exact hr207 hx3 (xin_wr _) h
def f259_207b  (r187 : Nat → Nat → Int → xj_M → Option (xj_M)) (r207 : Nat → Nat → Int → Int → xj_M → Option (xj_M)) (f : Nat) (x1 : Nat) (x2 : Nat) (x3 : Int) (x4 : Int) (M : xj_M) : Option (xj_M) := (if (x4) < 0 then r187 (x1) (x2) (xwr ((x3) + (1))) M else ((xq_ai 3 (x2) (x3) M).bind fun v138 => (if ¬ (xand (xshr (v138) (x4)) (1)) = (1) then f259_244  r187 r207 f (x1) (x2) (x3) (x4) M else ((xq_ai 3 (x2) (x4) M).bind fun v141 => (if ¬ (xand (xshr (v141) (x3)) (1)) = (1) then f259_244  r187 r207 f (x1) (x2) (x3) (x4) M else ((xq_gr 14 4 (x1) M).bind fun v144 => ((xq_si (v144) (x3) (x4) M).bind fun M146 => f259_244  r187 r207 f (x1) (x2) (x3) (x4) M146)))))))
theorem k259_207b {d f : Nat}  {r187 : Nat → Nat → Int → xj_M → Option (xj_M)} {r207 : Nat → Nat → Int → Int → xj_M → Option (xj_M)}  (hr187 : ∀ {x1 : Nat} {x2 : Nat} {x3 : Int} {M : xj_M} {R : xj_M}, xin x3 → r187 x1 x2 x3 M = some R → xW (d + 0) (none, d + 0, none) xr_259 (187, [(1, xR_ x1), (2, xR_ x2), (3, xI x3)], [], M) (xQv R)) (hr207 : ∀ {x1 : Nat} {x2 : Nat} {x3 : Int} {x4 : Int} {M : xj_M} {R : xj_M}, xin x3 → xin x4 → r207 x1 x2 x3 x4 M = some R → xW (d + 0) (none, d + 0, none) xr_259 (207, [(1, xR_ x1), (2, xR_ x2), (3, xI x3), (4, xI x4)], [], M) (xQv R)) {x1 : Nat} {x2 : Nat} {x3 : Int} {x4 : Int} {M : xj_M} {R : xj_M} (hx3 : xin x3) (hx4 : xin x4) (h : f259_207b  r187 r207 f x1 x2 x3 x4 M = some R) : xW (d + 0) (none, d + 0, none) xr_259 (207, [(1, xR_ x1), (2, xR_ x2), (3, xI x3), (4, xI x4)], [], M) (xQv R) := by
  unfold f259_207b at h
  refine xe_ldn (ins := .iload 4) (len := 2) (by decide +kernel) rfl rfl rfl rfl ?_
  refine xe_iflt (off := 41) (t := 250) (by decide +kernel) (by decide) rfl hx4 (fun c137 => ?_) (fun c137 => ?_)
  · rw [if_pos c137] at h
    refine xe_iincr (i := 3) (n := 1) (by decide +kernel) (by decide) rfl (xk_k (show ¬ (1 : Nat) = 3 by decide) (Or.inl (show ¬ (1 + 1 : Nat) = 3 by decide)) (xk_k (show ¬ (2 : Nat) = 3 by decide) (Or.inr (xR_cat _)) (xk_d rfl (xk_k (show ¬ (4 : Nat) = 3 by decide) (Or.inl (show ¬ (4 + 1 : Nat) = 3 by decide)) xk_n)))) rfl ?_
    refine xe_goto (off := -66) (nx := 187) (by decide +kernel) (by decide) ?_
    refine xW_lv rfl (l := [(1, xR_ (x1)), (2, xR_ (x2)), (3, xI (xwr ((x3) + (1))))]) (xsb_of ⟨rfl, rfl, rfl, trivial⟩ (show [3, 1, 2, 4].Nodup by decide)) ?_
    exact hr187 (xin_wr _) h
  · rw [if_neg c137] at h
    refine xe_alr (ins := .aload_n 2) (len := 1) (i := 2) (by decide +kernel) rfl rfl rfl rfl rfl ?_
    refine xe_ldn (ins := .iload_n 3) (len := 1) (by decide +kernel) rfl rfl rfl rfl ?_
    obtain ⟨v138, e139, h⟩ := xbnd h
    refine xs_iald rfl (by decide +kernel) hx3 e139 rfl ?_
    refine xe_ldn (ins := .iload 4) (len := 2) (by decide +kernel) rfl rfl rfl rfl ?_
    refine xe_ishr (by decide +kernel) rfl ?_
    refine xe_iconst (n := 1) (by decide +kernel) rfl ?_
    refine xe_iand (by decide +kernel) rfl ?_
    refine xe_iconst (n := 1) (by decide +kernel) rfl ?_
    refine xe_icmpne (off := 23) (t := 244) (by decide +kernel) (by decide) rfl (xin_of _) (show xin (1) by decide) (fun c140 => ?_) (fun c140 => ?_)
    · rw [if_pos c140] at h
      refine xW_lv rfl (l := [(1, xR_ (x1)), (2, xR_ (x2)), (3, xI (x3)), (4, xI (x4))]) (xsb_of ⟨rfl, rfl, rfl, rfl, trivial⟩ (show [1, 2, 3, 4].Nodup by decide)) ?_
      exact k259_244  hr187 hr207 hx3 hx4 h
    · rw [if_neg c140] at h
      refine xe_alr (ins := .aload_n 2) (len := 1) (i := 2) (by decide +kernel) rfl rfl rfl rfl rfl ?_
      refine xe_ldn (ins := .iload 4) (len := 2) (by decide +kernel) rfl rfl rfl rfl ?_
      obtain ⟨v141, e142, h⟩ := xbnd h
      refine xs_iald rfl (by decide +kernel) hx4 e142 rfl ?_
      refine xe_ldn (ins := .iload_n 3) (len := 1) (by decide +kernel) rfl rfl rfl rfl ?_
      refine xe_ishr (by decide +kernel) rfl ?_
      refine xe_iconst (n := 1) (by decide +kernel) rfl ?_
      refine xe_iand (by decide +kernel) rfl ?_
      refine xe_iconst (n := 1) (by decide +kernel) rfl ?_
      refine xe_icmpne (off := 11) (t := 244) (by decide +kernel) (by decide) rfl (xin_of _) (show xin (1) by decide) (fun c143 => ?_) (fun c143 => ?_)
      · rw [if_pos c143] at h
        refine xW_lv rfl (l := [(1, xR_ (x1)), (2, xR_ (x2)), (3, xI (x3)), (4, xI (x4))]) (xsb_of ⟨rfl, rfl, rfl, rfl, trivial⟩ (show [1, 2, 3, 4].Nodup by decide)) ?_
        exact k259_244  hr187 hr207 hx3 hx4 h
      · rw [if_neg c143] at h
        refine xe_alr (ins := .aload_n 1) (len := 1) (i := 1) (by decide +kernel) rfl rfl rfl rfl rfl ?_
        obtain ⟨v144, e145, h⟩ := xbnd h
        refine xs_gr (i := 427) (c := 14) (k := 4) (by decide +kernel) (by decide) (by decide +kernel) e145 rfl ?_
        refine xe_ldn (ins := .iload_n 3) (len := 1) (by decide +kernel) rfl rfl rfl rfl ?_
        refine xe_ldn (ins := .iload 4) (len := 2) (by decide +kernel) rfl rfl rfl rfl ?_
        obtain ⟨M146, e147, h⟩ := xbnd h
        refine xs_iast (by decide +kernel) hx3 e147 rfl ?_
        refine xW_lv rfl (l := [(1, xR_ (x1)), (2, xR_ (x2)), (3, xI (x3)), (4, xI (x4))]) (xsb_of ⟨rfl, rfl, rfl, rfl, trivial⟩ (show [1, 2, 3, 4].Nodup by decide)) ?_
        exact k259_244  hr187 hr207 hx3 hx4 h
def f259_207  (r187 : Nat → Nat → Int → xj_M → Option (xj_M)) (f : Nat) : Nat → Nat → Nat → Int → Int → xj_M → Option (xj_M)
  | 0, _, _, _, _, _ => none
  | n + 1, x1, x2, x3, x4, M => f259_207b  r187 (f259_207  r187 f n) f x1 x2 x3 x4 M
theorem k259_207 {d f : Nat}  {r187 : Nat → Nat → Int → xj_M → Option (xj_M)}  (hr187 : ∀ {x1 : Nat} {x2 : Nat} {x3 : Int} {M : xj_M} {R : xj_M}, xin x3 → r187 x1 x2 x3 M = some R → xW (d + 0) (none, d + 0, none) xr_259 (187, [(1, xR_ x1), (2, xR_ x2), (3, xI x3)], [], M) (xQv R)) : ∀ {n : Nat} {x1 : Nat} {x2 : Nat} {x3 : Int} {x4 : Int} {M : xj_M} {R : xj_M}, xin x3 → xin x4 → f259_207  r187 f n x1 x2 x3 x4 M = some R → xW (d + 0) (none, d + 0, none) xr_259 (207, [(1, xR_ x1), (2, xR_ x2), (3, xI x3), (4, xI x4)], [], M) (xQv R) := by
  intro n
  induction n with
  | zero => intros; rename_i h; cases h
  | succ n ih => intros; rename_i h; exact k259_207b  hr187 ih (by assumption) (by assumption) h
def f259_187b  (r187 : Nat → Nat → Int → xj_M → Option (xj_M)) (f : Nat) (x1 : Nat) (x2 : Nat) (x3 : Int) (M : xj_M) : Option (xj_M) := ((xq_gi 14 8 (x1) M).bind fun v148 => (if (v148) ≤ (x3) then (some M) else ((xq_gr 14 4 (x1) M).bind fun v151 => ((xq_si (v151) (x3) (x3) M).bind fun M153 => f259_207  r187 f f (x1) (x2) (x3) (xwr ((x3) - (1))) M153))))
theorem k259_187b {d f : Nat}  {r187 : Nat → Nat → Int → xj_M → Option (xj_M)}  (hr187 : ∀ {x1 : Nat} {x2 : Nat} {x3 : Int} {M : xj_M} {R : xj_M}, xin x3 → r187 x1 x2 x3 M = some R → xW (d + 0) (none, d + 0, none) xr_259 (187, [(1, xR_ x1), (2, xR_ x2), (3, xI x3)], [], M) (xQv R)) {x1 : Nat} {x2 : Nat} {x3 : Int} {M : xj_M} {R : xj_M} (hx3 : xin x3) (h : f259_187b  r187 f x1 x2 x3 M = some R) : xW (d + 0) (none, d + 0, none) xr_259 (187, [(1, xR_ x1), (2, xR_ x2), (3, xI x3)], [], M) (xQv R) := by
  unfold f259_187b at h
  refine xe_ldn (ins := .iload_n 3) (len := 1) (by decide +kernel) rfl rfl rfl rfl ?_
  refine xe_alr (ins := .aload_n 1) (len := 1) (i := 1) (by decide +kernel) rfl rfl rfl rfl rfl ?_
  obtain ⟨v148, e149, h⟩ := xbnd h
  refine xs_gi (i := 166) (c := 14) (k := 8) (by decide +kernel) (by decide) (by decide +kernel) e149 rfl ?_
  refine xe_icmpge (off := 64) (t := 256) (by decide +kernel) (by decide) rfl hx3 (xq_gi_in e149) (fun c150 => ?_) (fun c150 => ?_)
  · rw [if_pos c150] at h
    cases h
    exact xe_ret_v (by decide +kernel) rfl ⟨rfl, rfl⟩
  · rw [if_neg c150] at h
    refine xe_alr (ins := .aload_n 1) (len := 1) (i := 1) (by decide +kernel) rfl rfl rfl rfl rfl ?_
    obtain ⟨v151, e152, h⟩ := xbnd h
    refine xs_gr (i := 427) (c := 14) (k := 4) (by decide +kernel) (by decide) (by decide +kernel) e152 rfl ?_
    refine xe_ldn (ins := .iload_n 3) (len := 1) (by decide +kernel) rfl rfl rfl rfl ?_
    refine xe_ldn (ins := .iload_n 3) (len := 1) (by decide +kernel) rfl rfl rfl rfl ?_
    obtain ⟨M153, e154, h⟩ := xbnd h
    refine xs_iast (by decide +kernel) hx3 e154 rfl ?_
    refine xe_ldn (ins := .iload_n 3) (len := 1) (by decide +kernel) rfl rfl rfl rfl ?_
    refine xe_iconst (n := 1) (by decide +kernel) rfl ?_
    refine xe_isub (by decide +kernel) rfl ?_
    refine xe_isr (ins := .istore 4) (len := 2) (i := 4) (by decide +kernel) rfl rfl rfl (by decide) (xk_k (show ¬ (1 : Nat) = 4 by decide) (Or.inl (show ¬ (1 + 1 : Nat) = 4 by decide)) (xk_k (show ¬ (2 : Nat) = 4 by decide) (Or.inl (show ¬ (2 + 1 : Nat) = 4 by decide)) (xk_k (show ¬ (3 : Nat) = 4 by decide) (Or.inr (xI_cat _)) xk_n))) rfl ?_
    refine xW_lv rfl (l := [(1, xR_ (x1)), (2, xR_ (x2)), (3, xI (x3)), (4, xI (xwr ((x3) - (1))))]) (xsb_of ⟨rfl, rfl, rfl, rfl, trivial⟩ (show [4, 1, 2, 3].Nodup by decide)) ?_
    exact k259_207  hr187 hx3 (xin_wr _) h
def f259_187   (f : Nat) : Nat → Nat → Nat → Int → xj_M → Option (xj_M)
  | 0, _, _, _, _ => none
  | n + 1, x1, x2, x3, M => f259_187b   (f259_187   f n) f x1 x2 x3 M
theorem k259_187 {d f : Nat}     : ∀ {n : Nat} {x1 : Nat} {x2 : Nat} {x3 : Int} {M : xj_M} {R : xj_M}, xin x3 → f259_187   f n x1 x2 x3 M = some R → xW (d + 0) (none, d + 0, none) xr_259 (187, [(1, xR_ x1), (2, xR_ x2), (3, xI x3)], [], M) (xQv R) := by
  intro n
  induction n with
  | zero => intros; rename_i h; cases h
  | succ n ih => intros; rename_i h; exact k259_187b   ih (by assumption) h
def f259_131b  (r131 : Nat → Nat → Int → xj_M → Option (xj_M)) (f : Nat) (x1 : Nat) (x2 : Nat) (x3 : Int) (M : xj_M) : Option (xj_M) := ((xq_gi 14 8 (x1) M).bind fun v155 => (if (v155) ≤ (x3) then f259_187   f f (x1) (x2) (0) M else f259_142  r131 f f (x1) (x2) (x3) (0) M))
theorem k259_131b {d f : Nat}  {r131 : Nat → Nat → Int → xj_M → Option (xj_M)}  (hr131 : ∀ {x1 : Nat} {x2 : Nat} {x3 : Int} {M : xj_M} {R : xj_M}, xin x3 → r131 x1 x2 x3 M = some R → xW (d + 0) (none, d + 0, none) xr_259 (131, [(1, xR_ x1), (2, xR_ x2), (3, xI x3)], [], M) (xQv R)) {x1 : Nat} {x2 : Nat} {x3 : Int} {M : xj_M} {R : xj_M} (hx3 : xin x3) (h : f259_131b  r131 f x1 x2 x3 M = some R) : xW (d + 0) (none, d + 0, none) xr_259 (131, [(1, xR_ x1), (2, xR_ x2), (3, xI x3)], [], M) (xQv R) := by
  unfold f259_131b at h
  refine xe_ldn (ins := .iload_n 3) (len := 1) (by decide +kernel) rfl rfl rfl rfl ?_
  refine xe_alr (ins := .aload_n 1) (len := 1) (i := 1) (by decide +kernel) rfl rfl rfl rfl rfl ?_
  obtain ⟨v155, e156, h⟩ := xbnd h
  refine xs_gi (i := 166) (c := 14) (k := 8) (by decide +kernel) (by decide) (by decide +kernel) e156 rfl ?_
  refine xe_icmpge (off := 49) (t := 185) (by decide +kernel) (by decide) rfl hx3 (xq_gi_in e156) (fun c157 => ?_) (fun c157 => ?_)
  · rw [if_pos c157] at h
    refine xe_iconst (n := 0) (by decide +kernel) rfl ?_
    refine xe_isr (ins := .istore_n 3) (len := 1) (i := 3) (by decide +kernel) rfl rfl rfl (by decide) (xk_k (show ¬ (1 : Nat) = 3 by decide) (Or.inl (show ¬ (1 + 1 : Nat) = 3 by decide)) (xk_k (show ¬ (2 : Nat) = 3 by decide) (Or.inr (xR_cat _)) (xk_d rfl xk_n))) rfl ?_
    refine xW_lv rfl (l := [(1, xR_ (x1)), (2, xR_ (x2)), (3, xI (0))]) (xsb_of ⟨rfl, rfl, rfl, trivial⟩ (show [3, 1, 2].Nodup by decide)) ?_
    exact k259_187   (show xin (0) by decide) h
  · rw [if_neg c157] at h
    refine xe_iconst (n := 0) (by decide +kernel) rfl ?_
    refine xe_isr (ins := .istore 4) (len := 2) (i := 4) (by decide +kernel) rfl rfl rfl (by decide) (xk_k (show ¬ (1 : Nat) = 4 by decide) (Or.inl (show ¬ (1 + 1 : Nat) = 4 by decide)) (xk_k (show ¬ (2 : Nat) = 4 by decide) (Or.inl (show ¬ (2 + 1 : Nat) = 4 by decide)) (xk_k (show ¬ (3 : Nat) = 4 by decide) (Or.inr (xI_cat _)) xk_n))) rfl ?_
    refine xW_lv rfl (l := [(1, xR_ (x1)), (2, xR_ (x2)), (3, xI (x3)), (4, xI (0))]) (xsb_of ⟨rfl, rfl, rfl, rfl, trivial⟩ (show [4, 1, 2, 3].Nodup by decide)) ?_
    exact k259_142  hr131 hx3 (show xin (0) by decide) h
def f259_131   (f : Nat) : Nat → Nat → Nat → Int → xj_M → Option (xj_M)
  | 0, _, _, _, _ => none
  | n + 1, x1, x2, x3, M => f259_131b   (f259_131   f n) f x1 x2 x3 M
theorem k259_131 {d f : Nat}     : ∀ {n : Nat} {x1 : Nat} {x2 : Nat} {x3 : Int} {M : xj_M} {R : xj_M}, xin x3 → f259_131   f n x1 x2 x3 M = some R → xW (d + 0) (none, d + 0, none) xr_259 (131, [(1, xR_ x1), (2, xR_ x2), (3, xI x3)], [], M) (xQv R) := by
  intro n
  induction n with
  | zero => intros; rename_i h; cases h
  | succ n ih => intros; rename_i h; exact k259_131b   ih (by assumption) h
def f259_106b  (r106 : Nat → Nat → Int → xj_M → Option (xj_M)) (f : Nat) (x1 : Nat) (x2 : Nat) (x3 : Int) (M : xj_M) : Option (xj_M) := ((xq_gi 14 8 (x1) M).bind fun v158 => (if (v158) ≤ (x3) then f259_131   f f (x1) (x2) (0) M else ((xq_gr 14 3 (x1) M).bind fun v161 => ((xq_ai 3 (v161) (x3) M).bind fun v163 => ((xq_si (x2) (x3) (v163) M).bind fun M165 => r106 (x1) (x2) (xwr ((x3) + (1))) M165)))))
theorem k259_106b {d f : Nat}  {r106 : Nat → Nat → Int → xj_M → Option (xj_M)}  (hr106 : ∀ {x1 : Nat} {x2 : Nat} {x3 : Int} {M : xj_M} {R : xj_M}, xin x3 → r106 x1 x2 x3 M = some R → xW (d + 0) (none, d + 0, none) xr_259 (106, [(1, xR_ x1), (2, xR_ x2), (3, xI x3)], [], M) (xQv R)) {x1 : Nat} {x2 : Nat} {x3 : Int} {M : xj_M} {R : xj_M} (hx3 : xin x3) (h : f259_106b  r106 f x1 x2 x3 M = some R) : xW (d + 0) (none, d + 0, none) xr_259 (106, [(1, xR_ x1), (2, xR_ x2), (3, xI x3)], [], M) (xQv R) := by
  unfold f259_106b at h
  refine xe_ldn (ins := .iload_n 3) (len := 1) (by decide +kernel) rfl rfl rfl rfl ?_
  refine xe_alr (ins := .aload_n 1) (len := 1) (i := 1) (by decide +kernel) rfl rfl rfl rfl rfl ?_
  obtain ⟨v158, e159, h⟩ := xbnd h
  refine xs_gi (i := 166) (c := 14) (k := 8) (by decide +kernel) (by decide) (by decide +kernel) e159 rfl ?_
  refine xe_icmpge (off := 18) (t := 129) (by decide +kernel) (by decide) rfl hx3 (xq_gi_in e159) (fun c160 => ?_) (fun c160 => ?_)
  · rw [if_pos c160] at h
    refine xe_iconst (n := 0) (by decide +kernel) rfl ?_
    refine xe_isr (ins := .istore_n 3) (len := 1) (i := 3) (by decide +kernel) rfl rfl rfl (by decide) (xk_k (show ¬ (1 : Nat) = 3 by decide) (Or.inl (show ¬ (1 + 1 : Nat) = 3 by decide)) (xk_k (show ¬ (2 : Nat) = 3 by decide) (Or.inr (xR_cat _)) (xk_d rfl xk_n))) rfl ?_
    refine xW_lv rfl (l := [(1, xR_ (x1)), (2, xR_ (x2)), (3, xI (0))]) (xsb_of ⟨rfl, rfl, rfl, trivial⟩ (show [3, 1, 2].Nodup by decide)) ?_
    exact k259_131   (show xin (0) by decide) h
  · rw [if_neg c160] at h
    refine xe_alr (ins := .aload_n 2) (len := 1) (i := 2) (by decide +kernel) rfl rfl rfl rfl rfl ?_
    refine xe_ldn (ins := .iload_n 3) (len := 1) (by decide +kernel) rfl rfl rfl rfl ?_
    refine xe_alr (ins := .aload_n 1) (len := 1) (i := 1) (by decide +kernel) rfl rfl rfl rfl rfl ?_
    obtain ⟨v161, e162, h⟩ := xbnd h
    refine xs_gr (i := 421) (c := 14) (k := 3) (by decide +kernel) (by decide) (by decide +kernel) e162 rfl ?_
    refine xe_ldn (ins := .iload_n 3) (len := 1) (by decide +kernel) rfl rfl rfl rfl ?_
    obtain ⟨v163, e164, h⟩ := xbnd h
    refine xs_iald rfl (by decide +kernel) hx3 e164 rfl ?_
    obtain ⟨M165, e166, h⟩ := xbnd h
    refine xs_iast (by decide +kernel) hx3 e166 rfl ?_
    refine xe_iincr (i := 3) (n := 1) (by decide +kernel) (by decide) rfl (xk_k (show ¬ (1 : Nat) = 3 by decide) (Or.inl (show ¬ (1 + 1 : Nat) = 3 by decide)) (xk_k (show ¬ (2 : Nat) = 3 by decide) (Or.inr (xR_cat _)) (xk_d rfl xk_n))) rfl ?_
    refine xe_goto (off := -20) (nx := 106) (by decide +kernel) (by decide) ?_
    refine xW_lv rfl (l := [(1, xR_ (x1)), (2, xR_ (x2)), (3, xI (xwr ((x3) + (1))))]) (xsb_of ⟨rfl, rfl, rfl, trivial⟩ (show [3, 1, 2].Nodup by decide)) ?_
    exact hr106 (xin_wr _) h
def f259_106   (f : Nat) : Nat → Nat → Nat → Int → xj_M → Option (xj_M)
  | 0, _, _, _, _ => none
  | n + 1, x1, x2, x3, M => f259_106b   (f259_106   f n) f x1 x2 x3 M
theorem k259_106 {d f : Nat}     : ∀ {n : Nat} {x1 : Nat} {x2 : Nat} {x3 : Int} {M : xj_M} {R : xj_M}, xin x3 → f259_106   f n x1 x2 x3 M = some R → xW (d + 0) (none, d + 0, none) xr_259 (106, [(1, xR_ x1), (2, xR_ x2), (3, xI x3)], [], M) (xQv R) := by
  intro n
  induction n with
  | zero => intros; rename_i h; cases h
  | succ n ih => intros; rename_i h; exact k259_106b   ih (by assumption) h
def f259_25b  (r25 : Nat → Nat → Int → xj_M → Option (xj_M)) (f : Nat) (x0 : Nat) (x1 : Nat) (x2 : Int) (M : xj_M) : Option (xj_M) := ((xq_gi 14 9 (x1) M).bind fun v167 => (if (v167) ≤ (x2) then ((xq_gr 15 28 (x0) M).bind fun v170 => f259_106   f f (x1) (v170) (0) M) else f259_35  r25 f f (x0) (x1) (x2) (0) M))
theorem k259_25b {d f : Nat}  {r25 : Nat → Nat → Int → xj_M → Option (xj_M)}  (hr25 : ∀ {x0 : Nat} {x1 : Nat} {x2 : Int} {M : xj_M} {R : xj_M}, xin x2 → r25 x0 x1 x2 M = some R → xW (d + 0) (none, d + 0, none) xr_259 (25, [(0, xR_ x0), (1, xR_ x1), (2, xI x2)], [], M) (xQv R)) {x0 : Nat} {x1 : Nat} {x2 : Int} {M : xj_M} {R : xj_M} (hx2 : xin x2) (h : f259_25b  r25 f x0 x1 x2 M = some R) : xW (d + 0) (none, d + 0, none) xr_259 (25, [(0, xR_ x0), (1, xR_ x1), (2, xI x2)], [], M) (xQv R) := by
  unfold f259_25b at h
  refine xe_ldn (ins := .iload_n 2) (len := 1) (by decide +kernel) rfl rfl rfl rfl ?_
  refine xe_alr (ins := .aload_n 1) (len := 1) (i := 1) (by decide +kernel) rfl rfl rfl rfl rfl ?_
  obtain ⟨v167, e168, h⟩ := xbnd h
  refine xs_gi (i := 171) (c := 14) (k := 9) (by decide +kernel) (by decide) (by decide +kernel) e168 rfl ?_
  refine xe_icmpge (off := 69) (t := 99) (by decide +kernel) (by decide) rfl hx2 (xq_gi_in e168) (fun c169 => ?_) (fun c169 => ?_)
  · rw [if_pos c169] at h
    refine xe_alr (ins := .aload_n 0) (len := 1) (i := 0) (by decide +kernel) rfl rfl rfl rfl rfl ?_
    obtain ⟨v170, e171, h⟩ := xbnd h
    refine xs_gr (i := 424) (c := 15) (k := 28) (by decide +kernel) (by decide) (by decide +kernel) e171 rfl ?_
    refine xe_asr (ins := .astore_n 2) (len := 1) (i := 2) (by decide +kernel) rfl rfl rfl (by decide) (xk_k (show ¬ (0 : Nat) = 2 by decide) (Or.inl (show ¬ (0 + 1 : Nat) = 2 by decide)) (xk_k (show ¬ (1 : Nat) = 2 by decide) (Or.inr (xR_cat _)) (xk_d rfl xk_n))) rfl ?_
    refine xe_iconst (n := 0) (by decide +kernel) rfl ?_
    refine xe_isr (ins := .istore_n 3) (len := 1) (i := 3) (by decide +kernel) rfl rfl rfl (by decide) (xk_k (show ¬ (2 : Nat) = 3 by decide) (Or.inr (xR_cat _)) (xk_k (show ¬ (0 : Nat) = 3 by decide) (Or.inl (show ¬ (0 + 1 : Nat) = 3 by decide)) (xk_k (show ¬ (1 : Nat) = 3 by decide) (Or.inl (show ¬ (1 + 1 : Nat) = 3 by decide)) xk_n))) rfl ?_
    refine xW_lv rfl (l := [(1, xR_ (x1)), (2, xR_ (v170)), (3, xI (0))]) (xsb_of ⟨rfl, rfl, rfl, trivial⟩ (show [3, 2, 0, 1].Nodup by decide)) ?_
    exact k259_106   (show xin (0) by decide) h
  · rw [if_neg c169] at h
    refine xe_iconst (n := 0) (by decide +kernel) rfl ?_
    refine xe_isr (ins := .istore_n 3) (len := 1) (i := 3) (by decide +kernel) rfl rfl rfl (by decide) (xk_k (show ¬ (0 : Nat) = 3 by decide) (Or.inl (show ¬ (0 + 1 : Nat) = 3 by decide)) (xk_k (show ¬ (1 : Nat) = 3 by decide) (Or.inl (show ¬ (1 + 1 : Nat) = 3 by decide)) (xk_k (show ¬ (2 : Nat) = 3 by decide) (Or.inr (xI_cat _)) xk_n))) rfl ?_
    refine xW_lv rfl (l := [(0, xR_ (x0)), (1, xR_ (x1)), (2, xI (x2)), (3, xI (0))]) (xsb_of ⟨rfl, rfl, rfl, rfl, trivial⟩ (show [3, 0, 1, 2].Nodup by decide)) ?_
    exact k259_35  hr25 hx2 (show xin (0) by decide) h
def f259_25   (f : Nat) : Nat → Nat → Nat → Int → xj_M → Option (xj_M)
  | 0, _, _, _, _ => none
  | n + 1, x0, x1, x2, M => f259_25b   (f259_25   f n) f x0 x1 x2 M
theorem k259_25 {d f : Nat}     : ∀ {n : Nat} {x0 : Nat} {x1 : Nat} {x2 : Int} {M : xj_M} {R : xj_M}, xin x2 → f259_25   f n x0 x1 x2 M = some R → xW (d + 0) (none, d + 0, none) xr_259 (25, [(0, xR_ x0), (1, xR_ x1), (2, xI x2)], [], M) (xQv R) := by
  intro n
  induction n with
  | zero => intros; rename_i h; cases h
  | succ n ih => intros; rename_i h; exact k259_25b   ih (by assumption) h
def f259_2b  (r2 : Nat → Nat → Int → xj_M → Option (xj_M)) (f : Nat) (x0 : Nat) (x1 : Nat) (x2 : Int) (M : xj_M) : Option (xj_M) := ((xq_gi 14 8 (x1) M).bind fun v172 => (if (v172) ≤ (x2) then f259_25   f f (x0) (x1) (0) M else ((xq_gr 14 3 (x1) M).bind fun v175 => ((xq_si (v175) (x2) (0) M).bind fun M177 => r2 (x0) (x1) (xwr ((x2) + (1))) M177))))
theorem k259_2b {d f : Nat}  {r2 : Nat → Nat → Int → xj_M → Option (xj_M)}  (hr2 : ∀ {x0 : Nat} {x1 : Nat} {x2 : Int} {M : xj_M} {R : xj_M}, xin x2 → r2 x0 x1 x2 M = some R → xW (d + 0) (none, d + 0, none) xr_259 (2, [(0, xR_ x0), (1, xR_ x1), (2, xI x2)], [], M) (xQv R)) {x0 : Nat} {x1 : Nat} {x2 : Int} {M : xj_M} {R : xj_M} (hx2 : xin x2) (h : f259_2b  r2 f x0 x1 x2 M = some R) : xW (d + 0) (none, d + 0, none) xr_259 (2, [(0, xR_ x0), (1, xR_ x1), (2, xI x2)], [], M) (xQv R) := by
  unfold f259_2b at h
  refine xe_ldn (ins := .iload_n 2) (len := 1) (by decide +kernel) rfl rfl rfl rfl ?_
  refine xe_alr (ins := .aload_n 1) (len := 1) (i := 1) (by decide +kernel) rfl rfl rfl rfl rfl ?_
  obtain ⟨v172, e173, h⟩ := xbnd h
  refine xs_gi (i := 166) (c := 14) (k := 8) (by decide +kernel) (by decide) (by decide +kernel) e173 rfl ?_
  refine xe_icmpge (off := 16) (t := 23) (by decide +kernel) (by decide) rfl hx2 (xq_gi_in e173) (fun c174 => ?_) (fun c174 => ?_)
  · rw [if_pos c174] at h
    refine xe_iconst (n := 0) (by decide +kernel) rfl ?_
    refine xe_isr (ins := .istore_n 2) (len := 1) (i := 2) (by decide +kernel) rfl rfl rfl (by decide) (xk_k (show ¬ (0 : Nat) = 2 by decide) (Or.inl (show ¬ (0 + 1 : Nat) = 2 by decide)) (xk_k (show ¬ (1 : Nat) = 2 by decide) (Or.inr (xR_cat _)) (xk_d rfl xk_n))) rfl ?_
    refine xW_lv rfl (l := [(0, xR_ (x0)), (1, xR_ (x1)), (2, xI (0))]) (xsb_of ⟨rfl, rfl, rfl, trivial⟩ (show [2, 0, 1].Nodup by decide)) ?_
    exact k259_25   (show xin (0) by decide) h
  · rw [if_neg c174] at h
    refine xe_alr (ins := .aload_n 1) (len := 1) (i := 1) (by decide +kernel) rfl rfl rfl rfl rfl ?_
    obtain ⟨v175, e176, h⟩ := xbnd h
    refine xs_gr (i := 421) (c := 14) (k := 3) (by decide +kernel) (by decide) (by decide +kernel) e176 rfl ?_
    refine xe_ldn (ins := .iload_n 2) (len := 1) (by decide +kernel) rfl rfl rfl rfl ?_
    refine xe_iconst (n := 0) (by decide +kernel) rfl ?_
    obtain ⟨M177, e178, h⟩ := xbnd h
    refine xs_iast (by decide +kernel) hx2 e178 rfl ?_
    refine xe_iincr (i := 2) (n := 1) (by decide +kernel) (by decide) rfl (xk_k (show ¬ (0 : Nat) = 2 by decide) (Or.inl (show ¬ (0 + 1 : Nat) = 2 by decide)) (xk_k (show ¬ (1 : Nat) = 2 by decide) (Or.inr (xR_cat _)) (xk_d rfl xk_n))) rfl ?_
    refine xe_goto (off := -18) (nx := 2) (by decide +kernel) (by decide) ?_
    refine xW_lv rfl (l := [(0, xR_ (x0)), (1, xR_ (x1)), (2, xI (xwr ((x2) + (1))))]) (xsb_of ⟨rfl, rfl, rfl, trivial⟩ (show [2, 0, 1].Nodup by decide)) ?_
    exact hr2 (xin_wr _) h
def f259_2   (f : Nat) : Nat → Nat → Nat → Int → xj_M → Option (xj_M)
  | 0, _, _, _, _ => none
  | n + 1, x0, x1, x2, M => f259_2b   (f259_2   f n) f x0 x1 x2 M
theorem k259_2 {d f : Nat}     : ∀ {n : Nat} {x0 : Nat} {x1 : Nat} {x2 : Int} {M : xj_M} {R : xj_M}, xin x2 → f259_2   f n x0 x1 x2 M = some R → xW (d + 0) (none, d + 0, none) xr_259 (2, [(0, xR_ x0), (1, xR_ x1), (2, xI x2)], [], M) (xQv R) := by
  intro n
  induction n with
  | zero => intros; rename_i h; cases h
  | succ n ih => intros; rename_i h; exact k259_2b   ih (by assumption) h
def f259  (f : Nat) (a0 : Nat) (a1 : Nat) (M : xj_M) : Option (xj_M) := f259_2   f f (a0) (a1) (0) M
theorem k259 {d f : Nat}   {a0 : Nat} {a1 : Nat} {M : xj_M} {R : xj_M}  (h : f259  f a0 a1 M = some R) : xT (d + 1) 259 [xR_ a0, xR_ a1] M (xQv R) := by
  refine xT_m xr_259_e (X := (none, d + 0, none)) rfl (xa_1 (xR_cat _) (xa_1 (xR_cat _) xa_n)) (by decide) ?_
  unfold f259 at h
  refine xe_iconst (n := 0) (by decide +kernel) rfl ?_
  refine xe_isr (ins := .istore_n 2) (len := 1) (i := 2) (by decide +kernel) rfl rfl rfl (by decide) (xk_k (show ¬ (0 : Nat) = 2 by decide) (Or.inl (show ¬ (0 + 1 : Nat) = 2 by decide)) (xk_k (show ¬ (1 : Nat) = 2 by decide) (Or.inr (xR_cat _)) xk_n)) rfl ?_
  refine xW_lv rfl (l := [(0, xR_ (a0)), (1, xR_ (a1)), (2, xI (0))]) (xsb_of ⟨rfl, rfl, rfl, trivial⟩ (show [2, 0, 1].Nodup by decide)) ?_
  exact k259_2   (show xin (0) by decide) h
-- ChangeHouseModel.readsOwn
def xr_260 : xj_mR := (15, yX15_readsOwn, cX15_readsOwn, 4, (Option.some Jvm.ClassFile.FieldType.boolean), 2, false, (9, 108), (1, 12))
set_option maxRecDepth 20000 in
theorem xr_260_e : xj_row 260 = some xr_260 := rfl
def f260_78  (r2 : Nat → Int → Int → xj_M → Option (Int × xj_M)) (f : Nat) (x0 : Nat) (x1 : Int) (x2 : Int) (M : xj_M) : Option (Int × xj_M) := r2 (x0) (x1) (xwr ((x2) + (1))) M
theorem k260_78 {d f : Nat}  {r2 : Nat → Int → Int → xj_M → Option (Int × xj_M)}  (hr2 : ∀ {x0 : Nat} {x1 : Int} {x2 : Int} {M : xj_M} {R : Int × xj_M}, xin x1 → xin x2 → r2 x0 x1 x2 M = some R → xW (d + 0) (none, d + 0, none) xr_260 (2, [(0, xR_ x0), (1, xI x1), (2, xI x2)], [], M) (xQi R)) {x0 : Nat} {x1 : Int} {x2 : Int} {M : xj_M} {R : Int × xj_M} (hx1 : xin x1) (hx2 : xin x2) (h : f260_78  r2 f x0 x1 x2 M = some R) : xW (d + 0) (none, d + 0, none) xr_260 (78, [(0, xR_ x0), (1, xI x1), (2, xI x2)], [], M) (xQi R) := by
  unfold f260_78 at h
  refine xe_iincr (i := 2) (n := 1) (by decide +kernel) (by decide) rfl (xk_k (show ¬ (0 : Nat) = 2 by decide) (Or.inl (show ¬ (0 + 1 : Nat) = 2 by decide)) (xk_k (show ¬ (1 : Nat) = 2 by decide) (Or.inr (xI_cat _)) (xk_d rfl xk_n))) rfl ?_
  refine xe_goto (off := -79) (nx := 2) (by decide +kernel) (by decide) ?_
  refine xW_lv rfl (l := [(0, xR_ (x0)), (1, xI (x1)), (2, xI (xwr ((x2) + (1))))]) (xsb_of ⟨rfl, rfl, rfl, trivial⟩ (show [2, 0, 1].Nodup by decide)) ?_
  exact hr2 hx1 (xin_wr _) h
def f260_76   (f : Nat)  (M : xj_M) : Option (Int × xj_M) := (some (1, M))
theorem k260_76 {d f : Nat}      {M : xj_M} {R : Int × xj_M}  (h : f260_76   f  M = some R) : xW (d + 0) (none, d + 0, none) xr_260 (76, [], [], M) (xQi R) := by
  unfold f260_76 at h
  refine xe_iconst (n := 1) (by decide +kernel) rfl ?_
  cases h
  exact xe_ret_i (ty := .boolean) (by decide +kernel) rfl (by decide) ⟨rfl, rfl, (show xin (1) by decide)⟩
def f260_2b  (r2 : Nat → Int → Int → xj_M → Option (Int × xj_M)) (f : Nat) (x0 : Nat) (x1 : Int) (x2 : Int) (M : xj_M) : Option (Int × xj_M) := ((xq_gr 14 21 (x0) M).bind fun v101 => ((xq_ai 3 (v101) (x1) M).bind fun v103 => (if (v103) ≤ (x2) then (some (0, M)) else ((xq_gr 14 27 (x0) M).bind fun v106 => ((xq_ai 3 (v106) (xwr ((xwr ((x1) * (8))) + (x2))) M).bind fun v108 => (if (v108) = (3) then f260_78  r2 f (x0) (x1) (x2) M else ((xq_gr 14 4 (x0) M).bind fun v111 => ((xq_gr 14 28 (x0) M).bind fun v113 => ((xq_ai 3 (v113) (xwr ((xwr ((x1) * (8))) + (x2))) M).bind fun v115 => ((xq_ai 3 (v111) (v115) M).bind fun v117 => ((xq_gr 14 4 (x0) M).bind fun v119 => ((xq_gr 14 15 (x0) M).bind fun v121 => ((xq_ai 3 (v121) (x1) M).bind fun v123 => ((xq_ai 3 (v119) (v123) M).bind fun v125 => (if (v117) = (v125) then ((xq_gr 14 27 (x0) M).bind fun v128 => ((xq_ai 3 (v128) (xwr ((xwr ((x1) * (8))) + (x2))) M).bind fun v130 => (if (v130) = (2) then f260_76   f  M else ((xq_gr 14 18 (x0) M).bind fun v133 => ((xq_ai 3 (v133) (x1) M).bind fun v135 => (if (v135) = 0 then f260_78  r2 f (x0) (x1) (x2) M else f260_76   f  M)))))) else f260_78  r2 f (x0) (x1) (x2) M)))))))))))))))
theorem k260_2b {d f : Nat}  {r2 : Nat → Int → Int → xj_M → Option (Int × xj_M)}  (hr2 : ∀ {x0 : Nat} {x1 : Int} {x2 : Int} {M : xj_M} {R : Int × xj_M}, xin x1 → xin x2 → r2 x0 x1 x2 M = some R → xW (d + 0) (none, d + 0, none) xr_260 (2, [(0, xR_ x0), (1, xI x1), (2, xI x2)], [], M) (xQi R)) {x0 : Nat} {x1 : Int} {x2 : Int} {M : xj_M} {R : Int × xj_M} (hx1 : xin x1) (hx2 : xin x2) (h : f260_2b  r2 f x0 x1 x2 M = some R) : xW (d + 0) (none, d + 0, none) xr_260 (2, [(0, xR_ x0), (1, xI x1), (2, xI x2)], [], M) (xQi R) := by
  unfold f260_2b at h
  refine xe_ldn (ins := .iload_n 2) (len := 1) (by decide +kernel) rfl rfl rfl rfl ?_
  refine xe_alr (ins := .aload_n 0) (len := 1) (i := 0) (by decide +kernel) rfl rfl rfl rfl rfl ?_
  obtain ⟨v101, e102, h⟩ := xbnd h
  refine xs_gr (i := 268) (c := 14) (k := 21) (by decide +kernel) (by decide) (by decide +kernel) e102 rfl ?_
  refine xe_ldn (ins := .iload_n 1) (len := 1) (by decide +kernel) rfl rfl rfl rfl ?_
  obtain ⟨v103, e104, h⟩ := xbnd h
  refine xs_iald rfl (by decide +kernel) hx1 e104 rfl ?_
  refine xe_icmpge (off := 75) (t := 84) (by decide +kernel) (by decide) rfl hx2 (xq_ai_in e104) (fun c105 => ?_) (fun c105 => ?_)
  · rw [if_pos c105] at h
    refine xe_iconst (n := 0) (by decide +kernel) rfl ?_
    cases h
    exact xe_ret_i (ty := .boolean) (by decide +kernel) rfl (by decide) ⟨rfl, rfl, (show xin (0) by decide)⟩
  · rw [if_neg c105] at h
    refine xe_ldn (ins := .iload_n 1) (len := 1) (by decide +kernel) rfl rfl rfl rfl ?_
    refine xe_bipush (n := 8) (by decide +kernel) (by decide) rfl ?_
    refine xe_imul (by decide +kernel) rfl ?_
    refine xe_ldn (ins := .iload_n 2) (len := 1) (by decide +kernel) rfl rfl rfl rfl ?_
    refine xe_iadd (by decide +kernel) rfl ?_
    refine xe_isr (ins := .istore_n 3) (len := 1) (i := 3) (by decide +kernel) rfl rfl rfl (by decide) (xk_k (show ¬ (0 : Nat) = 3 by decide) (Or.inl (show ¬ (0 + 1 : Nat) = 3 by decide)) (xk_k (show ¬ (1 : Nat) = 3 by decide) (Or.inl (show ¬ (1 + 1 : Nat) = 3 by decide)) (xk_k (show ¬ (2 : Nat) = 3 by decide) (Or.inr (xI_cat _)) xk_n))) rfl ?_
    refine xe_alr (ins := .aload_n 0) (len := 1) (i := 0) (by decide +kernel) rfl rfl rfl rfl rfl ?_
    obtain ⟨v106, e107, h⟩ := xbnd h
    refine xs_gr (i := 357) (c := 14) (k := 27) (by decide +kernel) (by decide) (by decide +kernel) e107 rfl ?_
    refine xe_ldn (ins := .iload_n 3) (len := 1) (by decide +kernel) rfl rfl rfl rfl ?_
    obtain ⟨v108, e109, h⟩ := xbnd h
    refine xs_iald rfl (by decide +kernel) (xin_wr _) e109 rfl ?_
    refine xe_iconst (n := 3) (by decide +kernel) rfl ?_
    refine xe_icmpeq (off := 52) (t := 78) (by decide +kernel) (by decide) rfl (xq_ai_in e109) (show xin (3) by decide) (fun c110 => ?_) (fun c110 => ?_)
    · rw [if_pos c110] at h
      refine xW_lv rfl (l := [(0, xR_ (x0)), (1, xI (x1)), (2, xI (x2))]) (xsb_of ⟨rfl, rfl, rfl, trivial⟩ (show [3, 0, 1, 2].Nodup by decide)) ?_
      exact k260_78  hr2 hx1 hx2 h
    · rw [if_neg c110] at h
      refine xe_alr (ins := .aload_n 0) (len := 1) (i := 0) (by decide +kernel) rfl rfl rfl rfl rfl ?_
      obtain ⟨v111, e112, h⟩ := xbnd h
      refine xs_gr (i := 427) (c := 14) (k := 4) (by decide +kernel) (by decide) (by decide +kernel) e112 rfl ?_
      refine xe_alr (ins := .aload_n 0) (len := 1) (i := 0) (by decide +kernel) rfl rfl rfl rfl rfl ?_
      obtain ⟨v113, e114, h⟩ := xbnd h
      refine xs_gr (i := 363) (c := 14) (k := 28) (by decide +kernel) (by decide) (by decide +kernel) e114 rfl ?_
      refine xe_ldn (ins := .iload_n 3) (len := 1) (by decide +kernel) rfl rfl rfl rfl ?_
      obtain ⟨v115, e116, h⟩ := xbnd h
      refine xs_iald rfl (by decide +kernel) (xin_wr _) e116 rfl ?_
      obtain ⟨v117, e118, h⟩ := xbnd h
      refine xs_iald rfl (by decide +kernel) (xq_ai_in e116) e118 rfl ?_
      refine xe_alr (ins := .aload_n 0) (len := 1) (i := 0) (by decide +kernel) rfl rfl rfl rfl rfl ?_
      obtain ⟨v119, e120, h⟩ := xbnd h
      refine xs_gr (i := 427) (c := 14) (k := 4) (by decide +kernel) (by decide) (by decide +kernel) e120 rfl ?_
      refine xe_alr (ins := .aload_n 0) (len := 1) (i := 0) (by decide +kernel) rfl rfl rfl rfl rfl ?_
      obtain ⟨v121, e122, h⟩ := xbnd h
      refine xs_gr (i := 292) (c := 14) (k := 15) (by decide +kernel) (by decide) (by decide +kernel) e122 rfl ?_
      refine xe_ldn (ins := .iload_n 1) (len := 1) (by decide +kernel) rfl rfl rfl rfl ?_
      obtain ⟨v123, e124, h⟩ := xbnd h
      refine xs_iald rfl (by decide +kernel) hx1 e124 rfl ?_
      obtain ⟨v125, e126, h⟩ := xbnd h
      refine xs_iald rfl (by decide +kernel) (xq_ai_in e124) e126 rfl ?_
      refine xe_icmpeq (off := 6) (t := 57) (by decide +kernel) (by decide) rfl (xq_ai_in e118) (xq_ai_in e126) (fun c127 => ?_) (fun c127 => ?_)
      · rw [if_pos c127] at h
        refine xe_alr (ins := .aload_n 0) (len := 1) (i := 0) (by decide +kernel) rfl rfl rfl rfl rfl ?_
        obtain ⟨v128, e129, h⟩ := xbnd h
        refine xs_gr (i := 357) (c := 14) (k := 27) (by decide +kernel) (by decide) (by decide +kernel) e129 rfl ?_
        refine xe_ldn (ins := .iload_n 3) (len := 1) (by decide +kernel) rfl rfl rfl rfl ?_
        obtain ⟨v130, e131, h⟩ := xbnd h
        refine xs_iald rfl (by decide +kernel) (xin_wr _) e131 rfl ?_
        refine xe_iconst (n := 2) (by decide +kernel) rfl ?_
        refine xe_icmpeq (off := 12) (t := 76) (by decide +kernel) (by decide) rfl (xq_ai_in e131) (show xin (2) by decide) (fun c132 => ?_) (fun c132 => ?_)
        · rw [if_pos c132] at h
          refine xW_lv rfl (l := []) (xsb_of trivial (show [3, 0, 1, 2].Nodup by decide)) ?_
          exact k260_76    h
        · rw [if_neg c132] at h
          refine xe_alr (ins := .aload_n 0) (len := 1) (i := 0) (by decide +kernel) rfl rfl rfl rfl rfl ?_
          obtain ⟨v133, e134, h⟩ := xbnd h
          refine xs_gr (i := 277) (c := 14) (k := 18) (by decide +kernel) (by decide) (by decide +kernel) e134 rfl ?_
          refine xe_ldn (ins := .iload_n 1) (len := 1) (by decide +kernel) rfl rfl rfl rfl ?_
          obtain ⟨v135, e136, h⟩ := xbnd h
          refine xs_iald rfl (by decide +kernel) hx1 e136 rfl ?_
          refine xe_ifeq (off := 5) (t := 78) (by decide +kernel) (by decide) rfl (xq_ai_in e136) (fun c137 => ?_) (fun c137 => ?_)
          · rw [if_pos c137] at h
            refine xW_lv rfl (l := [(0, xR_ (x0)), (1, xI (x1)), (2, xI (x2))]) (xsb_of ⟨rfl, rfl, rfl, trivial⟩ (show [3, 0, 1, 2].Nodup by decide)) ?_
            exact k260_78  hr2 hx1 hx2 h
          · rw [if_neg c137] at h
            refine xW_lv rfl (l := []) (xsb_of trivial (show [3, 0, 1, 2].Nodup by decide)) ?_
            exact k260_76    h
      · rw [if_neg c127] at h
        refine xe_goto (off := 24) (nx := 78) (by decide +kernel) (by decide) ?_
        refine xW_lv rfl (l := [(0, xR_ (x0)), (1, xI (x1)), (2, xI (x2))]) (xsb_of ⟨rfl, rfl, rfl, trivial⟩ (show [3, 0, 1, 2].Nodup by decide)) ?_
        exact k260_78  hr2 hx1 hx2 h
def f260_2   (f : Nat) : Nat → Nat → Int → Int → xj_M → Option (Int × xj_M)
  | 0, _, _, _, _ => none
  | n + 1, x0, x1, x2, M => f260_2b   (f260_2   f n) f x0 x1 x2 M
theorem k260_2 {d f : Nat}     : ∀ {n : Nat} {x0 : Nat} {x1 : Int} {x2 : Int} {M : xj_M} {R : Int × xj_M}, xin x1 → xin x2 → f260_2   f n x0 x1 x2 M = some R → xW (d + 0) (none, d + 0, none) xr_260 (2, [(0, xR_ x0), (1, xI x1), (2, xI x2)], [], M) (xQi R) := by
  intro n
  induction n with
  | zero => intros; rename_i h; cases h
  | succ n ih => intros; rename_i h; exact k260_2b   ih (by assumption) (by assumption) h
def f260  (f : Nat) (a0 : Nat) (a1 : Int) (M : xj_M) : Option (Int × xj_M) := f260_2   f f (a0) (a1) (0) M
theorem k260 {d f : Nat}   {a0 : Nat} {a1 : Int} {M : xj_M} {R : Int × xj_M} (ha1 : xin a1) (h : f260  f a0 a1 M = some R) : xT (d + 1) 260 [xR_ a0, xI a1] M (xQi R) := by
  refine xT_m xr_260_e (X := (none, d + 0, none)) rfl (xa_1 (xR_cat _) (xa_1 (xI_cat _) xa_n)) (by decide) ?_
  unfold f260 at h
  refine xe_iconst (n := 0) (by decide +kernel) rfl ?_
  refine xe_isr (ins := .istore_n 2) (len := 1) (i := 2) (by decide +kernel) rfl rfl rfl (by decide) (xk_k (show ¬ (0 : Nat) = 2 by decide) (Or.inl (show ¬ (0 + 1 : Nat) = 2 by decide)) (xk_k (show ¬ (1 : Nat) = 2 by decide) (Or.inr (xI_cat _)) xk_n)) rfl ?_
  refine xW_lv rfl (l := [(0, xR_ (a0)), (1, xI (a1)), (2, xI (0))]) (xsb_of ⟨rfl, rfl, rfl, trivial⟩ (show [2, 0, 1].Nodup by decide)) ?_
  exact k260_2   ha1 (show xin (0) by decide) h
-- ChangeHouseModel.at
def xr_261 : xj_mR := (15, yX15_at, cX15_at, 3, (Option.some Jvm.ClassFile.FieldType.int), 2, false, (9, 132), (1, 12))
set_option maxRecDepth 20000 in
theorem xr_261_e : xj_row 261 = some xr_261 := rfl
def f261  (f : Nat) (a0 : Nat) (a1 : Int) (a2 : Int) (M : xj_M) : Option (Int × xj_M) := (some (xwr ((xwr ((xwr ((a1) * (520))) + (a2))) * (4)), M))
theorem k261 {d f : Nat}   {a0 : Nat} {a1 : Int} {a2 : Int} {M : xj_M} {R : Int × xj_M} (ha1 : xin a1) (ha2 : xin a2) (h : f261  f a0 a1 a2 M = some R) : xT (d + 1) 261 [xR_ a0, xI a1, xI a2] M (xQi R) := by
  refine xT_m xr_261_e (X := (none, d + 0, none)) rfl (xa_1 (xR_cat _) (xa_1 (xI_cat _) (xa_1 (xI_cat _) xa_n))) (by decide) ?_
  unfold f261 at h
  refine xe_ldn (ins := .iload_n 1) (len := 1) (by decide +kernel) rfl rfl rfl rfl ?_
  refine xe_sipush (n := 520) (by decide +kernel) (by decide) rfl ?_
  refine xe_imul (by decide +kernel) rfl ?_
  refine xe_ldn (ins := .iload_n 2) (len := 1) (by decide +kernel) rfl rfl rfl rfl ?_
  refine xe_iadd (by decide +kernel) rfl ?_
  refine xe_iconst (n := 4) (by decide +kernel) rfl ?_
  refine xe_imul (by decide +kernel) rfl ?_
  cases h
  exact xe_ret_i (ty := .int) (by decide +kernel) rfl rfl ⟨rfl, rfl, (xin_wr _)⟩
-- ChangeHouseModel.compareRows
def xr_262 : xj_mR := (15, yX15_compareRows, cX15_compareRows, 6, (Option.some Jvm.ClassFile.FieldType.int), 5, false, (9, 135), (1, 12))
set_option maxRecDepth 20000 in
theorem xr_262_e : xj_row 262 = some xr_262 := rfl
def f262_47   (f : Nat) (y0 : Int) (M : xj_M) : Option (Int × xj_M) := (some (y0, M))
theorem k262_47 {d f : Nat}     {y0 : Int} {M : xj_M} {R : Int × xj_M} (hy0 : xin y0) (h : f262_47   f y0 M = some R) : xW (d + 0) (none, d + 0, none) xr_262 (47, [], [xI y0], M) (xQi R) := by
  unfold f262_47 at h
  cases h
  exact xe_ret_i (ty := .int) (by decide +kernel) rfl rfl ⟨rfl, rfl, hy0⟩
def f262_3b  (r3 : Nat → Int → Nat → Int → Int → Int → xj_M → Option (Int × xj_M)) (f : Nat) (x0 : Nat) (x1 : Int) (x2 : Nat) (x3 : Int) (x4 : Int) (x5 : Int) (M : xj_M) : Option (Int × xj_M) := (if (x4) ≤ (x5) then (some (0, M)) else ((xq_al (x0) (xwr ((x1) + (x5))) M).bind fun v102 => ((xq_al (x2) (xwr ((x3) + (x5))) M).bind fun v104 => (if (v102) = (v104) then r3 (x0) (x1) (x2) (x3) (x4) (xwr ((x5) + (1))) M else ((xq_al (x0) (xwr ((x1) + (x5))) M).bind fun v107 => ((xq_al (x2) (xwr ((x3) + (x5))) M).bind fun v109 => (if (v109) ≤ (v107) then f262_47   f (1) M else f262_47   f (-1) M)))))))
theorem k262_3b {d f : Nat}  {r3 : Nat → Int → Nat → Int → Int → Int → xj_M → Option (Int × xj_M)}  (hr3 : ∀ {x0 : Nat} {x1 : Int} {x2 : Nat} {x3 : Int} {x4 : Int} {x5 : Int} {M : xj_M} {R : Int × xj_M}, xin x1 → xin x3 → xin x4 → xin x5 → r3 x0 x1 x2 x3 x4 x5 M = some R → xW (d + 0) (none, d + 0, none) xr_262 (3, [(0, xR_ x0), (1, xI x1), (2, xR_ x2), (3, xI x3), (4, xI x4), (5, xI x5)], [], M) (xQi R)) {x0 : Nat} {x1 : Int} {x2 : Nat} {x3 : Int} {x4 : Int} {x5 : Int} {M : xj_M} {R : Int × xj_M} (hx1 : xin x1) (hx3 : xin x3) (hx4 : xin x4) (hx5 : xin x5) (h : f262_3b  r3 f x0 x1 x2 x3 x4 x5 M = some R) : xW (d + 0) (none, d + 0, none) xr_262 (3, [(0, xR_ x0), (1, xI x1), (2, xR_ x2), (3, xI x3), (4, xI x4), (5, xI x5)], [], M) (xQi R) := by
  unfold f262_3b at h
  refine xe_ldn (ins := .iload 5) (len := 2) (by decide +kernel) rfl rfl rfl rfl ?_
  refine xe_ldn (ins := .iload 4) (len := 2) (by decide +kernel) rfl rfl rfl rfl ?_
  refine xe_icmpge (off := 47) (t := 54) (by decide +kernel) (by decide) rfl hx5 hx4 (fun c101 => ?_) (fun c101 => ?_)
  · rw [if_pos c101] at h
    refine xe_iconst (n := 0) (by decide +kernel) rfl ?_
    cases h
    exact xe_ret_i (ty := .int) (by decide +kernel) rfl rfl ⟨rfl, rfl, (show xin (0) by decide)⟩
  · rw [if_neg c101] at h
    refine xe_alr (ins := .aload_n 0) (len := 1) (i := 0) (by decide +kernel) rfl rfl rfl rfl rfl ?_
    refine xe_ldn (ins := .iload_n 1) (len := 1) (by decide +kernel) rfl rfl rfl rfl ?_
    refine xe_ldn (ins := .iload 5) (len := 2) (by decide +kernel) rfl rfl rfl rfl ?_
    refine xe_iadd (by decide +kernel) rfl ?_
    obtain ⟨v102, e103, h⟩ := xbnd h
    refine xs_lald (by decide +kernel) (xin_wr _) e103 rfl ?_
    refine xe_alr (ins := .aload_n 2) (len := 1) (i := 2) (by decide +kernel) rfl rfl rfl rfl rfl ?_
    refine xe_ldn (ins := .iload_n 3) (len := 1) (by decide +kernel) rfl rfl rfl rfl ?_
    refine xe_ldn (ins := .iload 5) (len := 2) (by decide +kernel) rfl rfl rfl rfl ?_
    refine xe_iadd (by decide +kernel) rfl ?_
    obtain ⟨v104, e105, h⟩ := xbnd h
    refine xs_lald (by decide +kernel) (xin_wr _) e105 rfl ?_
    refine xe_lcmp (by decide +kernel) rfl (xq_al_in e103) (xq_al_in e105) ?_
    refine xe_ifeq (off := 25) (t := 48) (by decide +kernel) (by decide) rfl (xin_cmp8 _ _) (fun c106 => ?_) (fun c106 => ?_)
    · have c106 := xcmp8_eq.mp c106; rw [if_pos c106] at h
      refine xe_iincr (i := 5) (n := 1) (by decide +kernel) (by decide) rfl (xk_k (show ¬ (0 : Nat) = 5 by decide) (Or.inl (show ¬ (0 + 1 : Nat) = 5 by decide)) (xk_k (show ¬ (1 : Nat) = 5 by decide) (Or.inl (show ¬ (1 + 1 : Nat) = 5 by decide)) (xk_k (show ¬ (2 : Nat) = 5 by decide) (Or.inl (show ¬ (2 + 1 : Nat) = 5 by decide)) (xk_k (show ¬ (3 : Nat) = 5 by decide) (Or.inl (show ¬ (3 + 1 : Nat) = 5 by decide)) (xk_k (show ¬ (4 : Nat) = 5 by decide) (Or.inr (xI_cat _)) (xk_d rfl xk_n)))))) rfl ?_
      refine xe_goto (off := -48) (nx := 3) (by decide +kernel) (by decide) ?_
      refine xW_lv rfl (l := [(0, xR_ (x0)), (1, xI (x1)), (2, xR_ (x2)), (3, xI (x3)), (4, xI (x4)), (5, xI (xwr ((x5) + (1))))]) (xsb_of ⟨rfl, rfl, rfl, rfl, rfl, rfl, trivial⟩ (show [5, 0, 1, 2, 3, 4].Nodup by decide)) ?_
      exact hr3 hx1 hx3 hx4 (xin_wr _) h
    · have c106 := (not_congr xcmp8_eq).mp c106; rw [if_neg c106] at h
      refine xe_alr (ins := .aload_n 0) (len := 1) (i := 0) (by decide +kernel) rfl rfl rfl rfl rfl ?_
      refine xe_ldn (ins := .iload_n 1) (len := 1) (by decide +kernel) rfl rfl rfl rfl ?_
      refine xe_ldn (ins := .iload 5) (len := 2) (by decide +kernel) rfl rfl rfl rfl ?_
      refine xe_iadd (by decide +kernel) rfl ?_
      obtain ⟨v107, e108, h⟩ := xbnd h
      refine xs_lald (by decide +kernel) (xin_wr _) e108 rfl ?_
      refine xe_alr (ins := .aload_n 2) (len := 1) (i := 2) (by decide +kernel) rfl rfl rfl rfl rfl ?_
      refine xe_ldn (ins := .iload_n 3) (len := 1) (by decide +kernel) rfl rfl rfl rfl ?_
      refine xe_ldn (ins := .iload 5) (len := 2) (by decide +kernel) rfl rfl rfl rfl ?_
      refine xe_iadd (by decide +kernel) rfl ?_
      obtain ⟨v109, e110, h⟩ := xbnd h
      refine xs_lald (by decide +kernel) (xin_wr _) e110 rfl ?_
      refine xe_lcmp (by decide +kernel) rfl (xq_al_in e108) (xq_al_in e110) ?_
      refine xe_ifge (off := 7) (t := 46) (by decide +kernel) (by decide) rfl (xin_cmp8 _ _) (fun c111 => ?_) (fun c111 => ?_)
      · have c111 := xcmp8_ge.mp c111; rw [if_pos c111] at h
        refine xe_iconst (n := 1) (by decide +kernel) rfl ?_
        refine xW_lv rfl (l := []) (xsb_of trivial (show [0, 1, 2, 3, 4, 5].Nodup by decide)) ?_
        exact k262_47   (show xin (1) by decide) h
      · have c111 := (not_congr xcmp8_ge).mp c111; rw [if_neg c111] at h
        refine xe_iconst (n := -1) (by decide +kernel) rfl ?_
        refine xe_goto (off := 4) (nx := 47) (by decide +kernel) (by decide) ?_
        refine xW_lv rfl (l := []) (xsb_of trivial (show [0, 1, 2, 3, 4, 5].Nodup by decide)) ?_
        exact k262_47   (show xin (-1) by decide) h
def f262_3   (f : Nat) : Nat → Nat → Int → Nat → Int → Int → Int → xj_M → Option (Int × xj_M)
  | 0, _, _, _, _, _, _, _ => none
  | n + 1, x0, x1, x2, x3, x4, x5, M => f262_3b   (f262_3   f n) f x0 x1 x2 x3 x4 x5 M
theorem k262_3 {d f : Nat}     : ∀ {n : Nat} {x0 : Nat} {x1 : Int} {x2 : Nat} {x3 : Int} {x4 : Int} {x5 : Int} {M : xj_M} {R : Int × xj_M}, xin x1 → xin x3 → xin x4 → xin x5 → f262_3   f n x0 x1 x2 x3 x4 x5 M = some R → xW (d + 0) (none, d + 0, none) xr_262 (3, [(0, xR_ x0), (1, xI x1), (2, xR_ x2), (3, xI x3), (4, xI x4), (5, xI x5)], [], M) (xQi R) := by
  intro n
  induction n with
  | zero => intros; rename_i h; cases h
  | succ n ih => intros; rename_i h; exact k262_3b   ih (by assumption) (by assumption) (by assumption) (by assumption) h
def f262  (f : Nat) (a0 : Nat) (a1 : Int) (a2 : Nat) (a3 : Int) (a4 : Int) (M : xj_M) : Option (Int × xj_M) := f262_3   f f (a0) (a1) (a2) (a3) (a4) (0) M
theorem k262 {d f : Nat}   {a0 : Nat} {a1 : Int} {a2 : Nat} {a3 : Int} {a4 : Int} {M : xj_M} {R : Int × xj_M} (ha1 : xin a1) (ha3 : xin a3) (ha4 : xin a4) (h : f262  f a0 a1 a2 a3 a4 M = some R) : xT (d + 1) 262 [xR_ a0, xI a1, xR_ a2, xI a3, xI a4] M (xQi R) := by
  refine xT_m xr_262_e (X := (none, d + 0, none)) rfl (xa_1 (xR_cat _) (xa_1 (xI_cat _) (xa_1 (xR_cat _) (xa_1 (xI_cat _) (xa_1 (xI_cat _) xa_n))))) (by decide) ?_
  unfold f262 at h
  refine xe_iconst (n := 0) (by decide +kernel) rfl ?_
  refine xe_isr (ins := .istore 5) (len := 2) (i := 5) (by decide +kernel) rfl rfl rfl (by decide) (xk_k (show ¬ (0 : Nat) = 5 by decide) (Or.inl (show ¬ (0 + 1 : Nat) = 5 by decide)) (xk_k (show ¬ (1 : Nat) = 5 by decide) (Or.inl (show ¬ (1 + 1 : Nat) = 5 by decide)) (xk_k (show ¬ (2 : Nat) = 5 by decide) (Or.inl (show ¬ (2 + 1 : Nat) = 5 by decide)) (xk_k (show ¬ (3 : Nat) = 5 by decide) (Or.inl (show ¬ (3 + 1 : Nat) = 5 by decide)) (xk_k (show ¬ (4 : Nat) = 5 by decide) (Or.inr (xI_cat _)) xk_n))))) rfl ?_
  refine xW_lv rfl (l := [(0, xR_ (a0)), (1, xI (a1)), (2, xR_ (a2)), (3, xI (a3)), (4, xI (a4)), (5, xI (0))]) (xsb_of ⟨rfl, rfl, rfl, rfl, rfl, rfl, trivial⟩ (show [5, 0, 1, 2, 3, 4].Nodup by decide)) ?_
  exact k262_3   ha1 ha3 ha4 (show xin (0) by decide) h
-- ChangeHouseModel.placeOf
def xr_263 : xj_mR := (15, yX15_placeOf, cX15_placeOf, 5, (Option.some Jvm.ClassFile.FieldType.int), 3, false, (9, 128), (1, 12))
set_option maxRecDepth 20000 in
theorem xr_263_e : xj_row 263 = some xr_263 := rfl
def f263_3b  (r3 : Nat → Int → Nat → Int → Int → xj_M → Option (Int × xj_M)) (f : Nat) (x0 : Nat) (x1 : Int) (x2 : Nat) (x3 : Int) (x4 : Int) (M : xj_M) : Option (Int × xj_M) := ((xq_gr 15 33 (x0) M).bind fun v101 => ((xq_ai 3 (v101) (x1) M).bind fun v103 => (if (v103) ≤ (x4) then (some (-1, M)) else ((xq_gr 15 32 (x0) M).bind fun v106 => ((xq_is 15 (x0) M).bind fun _ => ((f261  f (x0) (x1) (x4) M).bind fun R110 => ((xq_gr 15 29 (x0) R110.2).bind fun v112 => ((xq_gr 14 1 (v112) R110.2).bind fun v114 => ((xq_ai 3 (v114) (x1) R110.2).bind fun v116 => ((f262  f (v106) (R110.1) (x2) (x3) (v116) R110.2).bind fun R119 => (if ¬ (R119.1) = 0 then r3 (x0) (x1) (x2) (x3) (xwr ((x4) + (1))) R119.2 else (some (x4, R119.2)))))))))))))
theorem k263_3b {d f : Nat}  {r3 : Nat → Int → Nat → Int → Int → xj_M → Option (Int × xj_M)}  (hr3 : ∀ {x0 : Nat} {x1 : Int} {x2 : Nat} {x3 : Int} {x4 : Int} {M : xj_M} {R : Int × xj_M}, xin x1 → xin x3 → xin x4 → r3 x0 x1 x2 x3 x4 M = some R → xW (d + 1) (none, d + 1, none) xr_263 (3, [(0, xR_ x0), (1, xI x1), (2, xR_ x2), (3, xI x3), (4, xI x4)], [], M) (xQi R)) {x0 : Nat} {x1 : Int} {x2 : Nat} {x3 : Int} {x4 : Int} {M : xj_M} {R : Int × xj_M} (hx1 : xin x1) (hx3 : xin x3) (hx4 : xin x4) (h : f263_3b  r3 f x0 x1 x2 x3 x4 M = some R) : xW (d + 1) (none, d + 1, none) xr_263 (3, [(0, xR_ x0), (1, xI x1), (2, xR_ x2), (3, xI x3), (4, xI x4)], [], M) (xQi R) := by
  unfold f263_3b at h
  refine xe_ldn (ins := .iload 4) (len := 2) (by decide +kernel) rfl rfl rfl rfl ?_
  refine xe_alr (ins := .aload_n 0) (len := 1) (i := 0) (by decide +kernel) rfl rfl rfl rfl rfl ?_
  obtain ⟨v101, e102, h⟩ := xbnd h
  refine xs_gr (i := 430) (c := 15) (k := 33) (by decide +kernel) (by decide) (by decide +kernel) e102 rfl ?_
  refine xe_ldn (ins := .iload_n 1) (len := 1) (by decide +kernel) rfl rfl rfl rfl ?_
  obtain ⟨v103, e104, h⟩ := xbnd h
  refine xs_iald rfl (by decide +kernel) hx1 e104 rfl ?_
  refine xe_icmpge (off := 40) (t := 51) (by decide +kernel) (by decide) rfl hx4 (xq_ai_in e104) (fun c105 => ?_) (fun c105 => ?_)
  · rw [if_pos c105] at h
    refine xe_iconst (n := -1) (by decide +kernel) rfl ?_
    cases h
    exact xe_ret_i (ty := .int) (by decide +kernel) rfl rfl ⟨rfl, rfl, (show xin (-1) by decide)⟩
  · rw [if_neg c105] at h
    refine xe_alr (ins := .aload_n 0) (len := 1) (i := 0) (by decide +kernel) rfl rfl rfl rfl rfl ?_
    obtain ⟨v106, e107, h⟩ := xbnd h
    refine xs_gr (i := 433) (c := 15) (k := 32) (by decide +kernel) (by decide) (by decide +kernel) e107 rfl ?_
    refine xe_alr (ins := .aload_n 0) (len := 1) (i := 0) (by decide +kernel) rfl rfl rfl rfl rfl ?_
    refine xe_ldn (ins := .iload_n 1) (len := 1) (by decide +kernel) rfl rfl rfl rfl ?_
    refine xe_ldn (ins := .iload 4) (len := 2) (by decide +kernel) rfl rfl rfl rfl ?_
    obtain ⟨_, e109, h⟩ := xbnd h
    obtain ⟨R110, e108, h⟩ := xbnd h
    refine xs_cv (i := 436) (j := 261) (ar := [xI (x4), xI (x1)]) (rest := [xR_ (v106)]) (r2 := xr_261) (by decide +kernel) (by decide +kernel) (by decide +kernel) xr_261_e rfl (by decide) (by simp only [List.map_cons, List.map_nil, List.sum_cons, List.sum_nil, xR_cat, xI_cat, xZ_cat]; decide) e109 ?_
    refine xc_i (k261 (d := d + 0)  hx1 hx4 e108) rfl (fun hi111 => ?_)
    refine xe_alr (ins := .aload_n 2) (len := 1) (i := 2) (by decide +kernel) rfl rfl rfl rfl rfl ?_
    refine xe_ldn (ins := .iload_n 3) (len := 1) (by decide +kernel) rfl rfl rfl rfl ?_
    refine xe_alr (ins := .aload_n 0) (len := 1) (i := 0) (by decide +kernel) rfl rfl rfl rfl rfl ?_
    obtain ⟨v112, e113, h⟩ := xbnd h
    refine xs_gr (i := 439) (c := 15) (k := 29) (by decide +kernel) (by decide) (by decide +kernel) e113 rfl ?_
    obtain ⟨v114, e115, h⟩ := xbnd h
    refine xs_gr (i := 180) (c := 14) (k := 1) (by decide +kernel) (by decide) (by decide +kernel) e115 rfl ?_
    refine xe_ldn (ins := .iload_n 1) (len := 1) (by decide +kernel) rfl rfl rfl rfl ?_
    obtain ⟨v116, e117, h⟩ := xbnd h
    refine xs_iald rfl (by decide +kernel) hx1 e117 rfl ?_
    obtain ⟨R119, e118, h⟩ := xbnd h
    refine xs_cs (kd := 2) (by decide) (i := 442) (j := 262) (ar := [xI (v116), xI (x3), xR_ (x2), xI (R110.1), xR_ (v106)]) (rest := []) (r2 := xr_262) (by decide +kernel) (by decide +kernel) (by decide +kernel) xr_262_e rfl (by decide) ?_
    refine xc_i (k262 (d := d + 0)  hi111 hx3 (xq_ai_in e117) e118) rfl (fun hi120 => ?_)
    refine xe_ifne (off := 6) (t := 45) (by decide +kernel) (by decide) rfl hi120 (fun c121 => ?_) (fun c121 => ?_)
    · rw [if_pos c121] at h
      refine xe_iincr (i := 4) (n := 1) (by decide +kernel) (by decide) rfl (xk_k (show ¬ (0 : Nat) = 4 by decide) (Or.inl (show ¬ (0 + 1 : Nat) = 4 by decide)) (xk_k (show ¬ (1 : Nat) = 4 by decide) (Or.inl (show ¬ (1 + 1 : Nat) = 4 by decide)) (xk_k (show ¬ (2 : Nat) = 4 by decide) (Or.inl (show ¬ (2 + 1 : Nat) = 4 by decide)) (xk_k (show ¬ (3 : Nat) = 4 by decide) (Or.inr (xI_cat _)) (xk_d rfl xk_n))))) rfl ?_
      refine xe_goto (off := -45) (nx := 3) (by decide +kernel) (by decide) ?_
      refine xW_lv rfl (l := [(0, xR_ (x0)), (1, xI (x1)), (2, xR_ (x2)), (3, xI (x3)), (4, xI (xwr ((x4) + (1))))]) (xsb_of ⟨rfl, rfl, rfl, rfl, rfl, trivial⟩ (show [4, 0, 1, 2, 3].Nodup by decide)) ?_
      exact hr3 hx1 hx3 (xin_wr _) h
    · rw [if_neg c121] at h
      refine xe_ldn (ins := .iload 4) (len := 2) (by decide +kernel) rfl rfl rfl rfl ?_
      cases h
      exact xe_ret_i (ty := .int) (by decide +kernel) rfl rfl ⟨rfl, rfl, hx4⟩
def f263_3   (f : Nat) : Nat → Nat → Int → Nat → Int → Int → xj_M → Option (Int × xj_M)
  | 0, _, _, _, _, _, _ => none
  | n + 1, x0, x1, x2, x3, x4, M => f263_3b   (f263_3   f n) f x0 x1 x2 x3 x4 M
theorem k263_3 {d f : Nat}     : ∀ {n : Nat} {x0 : Nat} {x1 : Int} {x2 : Nat} {x3 : Int} {x4 : Int} {M : xj_M} {R : Int × xj_M}, xin x1 → xin x3 → xin x4 → f263_3   f n x0 x1 x2 x3 x4 M = some R → xW (d + 1) (none, d + 1, none) xr_263 (3, [(0, xR_ x0), (1, xI x1), (2, xR_ x2), (3, xI x3), (4, xI x4)], [], M) (xQi R) := by
  intro n
  induction n with
  | zero => intros; rename_i h; cases h
  | succ n ih => intros; rename_i h; exact k263_3b   ih (by assumption) (by assumption) (by assumption) h
def f263  (f : Nat) (a0 : Nat) (a1 : Int) (a2 : Nat) (a3 : Int) (M : xj_M) : Option (Int × xj_M) := f263_3   f f (a0) (a1) (a2) (a3) (0) M
theorem k263 {d f : Nat}   {a0 : Nat} {a1 : Int} {a2 : Nat} {a3 : Int} {M : xj_M} {R : Int × xj_M} (ha1 : xin a1) (ha3 : xin a3) (h : f263  f a0 a1 a2 a3 M = some R) : xT (d + 2) 263 [xR_ a0, xI a1, xR_ a2, xI a3] M (xQi R) := by
  refine xT_m xr_263_e (X := (none, d + 1, none)) rfl (xa_1 (xR_cat _) (xa_1 (xI_cat _) (xa_1 (xR_cat _) (xa_1 (xI_cat _) xa_n)))) (by decide) ?_
  unfold f263 at h
  refine xe_iconst (n := 0) (by decide +kernel) rfl ?_
  refine xe_isr (ins := .istore 4) (len := 2) (i := 4) (by decide +kernel) rfl rfl rfl (by decide) (xk_k (show ¬ (0 : Nat) = 4 by decide) (Or.inl (show ¬ (0 + 1 : Nat) = 4 by decide)) (xk_k (show ¬ (1 : Nat) = 4 by decide) (Or.inl (show ¬ (1 + 1 : Nat) = 4 by decide)) (xk_k (show ¬ (2 : Nat) = 4 by decide) (Or.inl (show ¬ (2 + 1 : Nat) = 4 by decide)) (xk_k (show ¬ (3 : Nat) = 4 by decide) (Or.inr (xI_cat _)) xk_n)))) rfl ?_
  refine xW_lv rfl (l := [(0, xR_ (a0)), (1, xI (a1)), (2, xR_ (a2)), (3, xI (a3)), (4, xI (0))]) (xsb_of ⟨rfl, rfl, rfl, rfl, rfl, trivial⟩ (show [4, 0, 1, 2, 3].Nodup by decide)) ?_
  exact k263_3   ha1 ha3 (show xin (0) by decide) h
-- ChangeHouseModel.add
def xr_264 : xj_mR := (15, yX15_add, cX15_add, 7, (Option.none : Option Jvm.ClassFile.FieldType), 4, false, (9, 124), (1, 12))
set_option maxRecDepth 20000 in
theorem xr_264_e : xj_row 264 = some xr_264 := rfl
def f264_58b  (r20 : Nat → Int → Nat → Int → Int → Int → xj_M → Option (xj_M)) (r58 : Nat → Int → Nat → Int → Int → Int → Int → xj_M → Option (xj_M)) (f : Nat) (x0 : Nat) (x1 : Int) (x2 : Nat) (x3 : Int) (x4 : Int) (x5 : Int) (x6 : Int) (M : xj_M) : Option (xj_M) := (if (4) ≤ (x6) then ((xq_gr 15 34 (x0) M).bind fun v102 => ((xq_gr 15 34 (x0) M).bind fun v104 => ((xq_ai 3 (v104) (xwr ((xwr ((xwr ((x1) * (520))) + (x5))) - (1))) M).bind fun v106 => ((xq_si (v102) (xwr ((xwr ((x1) * (520))) + (x5))) (v106) M).bind fun M108 => r20 (x0) (x1) (x2) (x3) (x4) (xwr ((x5) + (-1))) M108)))) else ((xq_gr 15 32 (x0) M).bind fun v110 => ((xq_is 15 (x0) M).bind fun _ => ((f261  f (x0) (x1) (x5) M).bind fun R114 => ((xq_gr 15 32 (x0) R114.2).bind fun v116 => ((xq_is 15 (x0) R114.2).bind fun _ => ((f261  f (x0) (x1) (xwr ((x5) - (1))) R114.2).bind fun R120 => ((xq_al (v116) (xwr ((R120.1) + (x6))) R120.2).bind fun v122 => ((xq_sl (v110) (xwr ((R114.1) + (x6))) (v122) R120.2).bind fun M124 => r58 (x0) (x1) (x2) (x3) (x4) (x5) (xwr ((x6) + (1))) M124)))))))))
theorem k264_58b {d f : Nat}  {r20 : Nat → Int → Nat → Int → Int → Int → xj_M → Option (xj_M)} {r58 : Nat → Int → Nat → Int → Int → Int → Int → xj_M → Option (xj_M)}  (hr20 : ∀ {x0 : Nat} {x1 : Int} {x2 : Nat} {x3 : Int} {x4 : Int} {x5 : Int} {M : xj_M} {R : xj_M}, xin x1 → xin x3 → xin x4 → xin x5 → r20 x0 x1 x2 x3 x4 x5 M = some R → xW (d + 2) (none, d + 2, none) xr_264 (20, [(0, xR_ x0), (1, xI x1), (2, xR_ x2), (3, xI x3), (4, xI x4), (5, xI x5)], [], M) (xQv R)) (hr58 : ∀ {x0 : Nat} {x1 : Int} {x2 : Nat} {x3 : Int} {x4 : Int} {x5 : Int} {x6 : Int} {M : xj_M} {R : xj_M}, xin x1 → xin x3 → xin x4 → xin x5 → xin x6 → r58 x0 x1 x2 x3 x4 x5 x6 M = some R → xW (d + 2) (none, d + 2, none) xr_264 (58, [(0, xR_ x0), (1, xI x1), (2, xR_ x2), (3, xI x3), (4, xI x4), (5, xI x5), (6, xI x6)], [], M) (xQv R)) {x0 : Nat} {x1 : Int} {x2 : Nat} {x3 : Int} {x4 : Int} {x5 : Int} {x6 : Int} {M : xj_M} {R : xj_M} (hx1 : xin x1) (hx3 : xin x3) (hx4 : xin x4) (hx5 : xin x5) (hx6 : xin x6) (h : f264_58b  r20 r58 f x0 x1 x2 x3 x4 x5 x6 M = some R) : xW (d + 2) (none, d + 2, none) xr_264 (58, [(0, xR_ x0), (1, xI x1), (2, xR_ x2), (3, xI x3), (4, xI x4), (5, xI x5), (6, xI x6)], [], M) (xQv R) := by
  unfold f264_58b at h
  refine xe_ldn (ins := .iload 6) (len := 2) (by decide +kernel) rfl rfl rfl rfl ?_
  refine xe_iconst (n := 4) (by decide +kernel) rfl ?_
  refine xe_icmpge (off := 41) (t := 102) (by decide +kernel) (by decide) rfl hx6 (show xin (4) by decide) (fun c101 => ?_) (fun c101 => ?_)
  · rw [if_pos c101] at h
    refine xe_alr (ins := .aload_n 0) (len := 1) (i := 0) (by decide +kernel) rfl rfl rfl rfl rfl ?_
    obtain ⟨v102, e103, h⟩ := xbnd h
    refine xs_gr (i := 450) (c := 15) (k := 34) (by decide +kernel) (by decide) (by decide +kernel) e103 rfl ?_
    refine xe_ldn (ins := .iload_n 1) (len := 1) (by decide +kernel) rfl rfl rfl rfl ?_
    refine xe_sipush (n := 520) (by decide +kernel) (by decide) rfl ?_
    refine xe_imul (by decide +kernel) rfl ?_
    refine xe_ldn (ins := .iload 5) (len := 2) (by decide +kernel) rfl rfl rfl rfl ?_
    refine xe_iadd (by decide +kernel) rfl ?_
    refine xe_alr (ins := .aload_n 0) (len := 1) (i := 0) (by decide +kernel) rfl rfl rfl rfl rfl ?_
    obtain ⟨v104, e105, h⟩ := xbnd h
    refine xs_gr (i := 450) (c := 15) (k := 34) (by decide +kernel) (by decide) (by decide +kernel) e105 rfl ?_
    refine xe_ldn (ins := .iload_n 1) (len := 1) (by decide +kernel) rfl rfl rfl rfl ?_
    refine xe_sipush (n := 520) (by decide +kernel) (by decide) rfl ?_
    refine xe_imul (by decide +kernel) rfl ?_
    refine xe_ldn (ins := .iload 5) (len := 2) (by decide +kernel) rfl rfl rfl rfl ?_
    refine xe_iadd (by decide +kernel) rfl ?_
    refine xe_iconst (n := 1) (by decide +kernel) rfl ?_
    refine xe_isub (by decide +kernel) rfl ?_
    obtain ⟨v106, e107, h⟩ := xbnd h
    refine xs_iald rfl (by decide +kernel) (xin_wr _) e107 rfl ?_
    obtain ⟨M108, e109, h⟩ := xbnd h
    refine xs_iast (by decide +kernel) (xin_wr _) e109 rfl ?_
    refine xe_iincr (i := 5) (n := -1) (by decide +kernel) (by decide) rfl (xk_k (show ¬ (0 : Nat) = 5 by decide) (Or.inl (show ¬ (0 + 1 : Nat) = 5 by decide)) (xk_k (show ¬ (1 : Nat) = 5 by decide) (Or.inl (show ¬ (1 + 1 : Nat) = 5 by decide)) (xk_k (show ¬ (2 : Nat) = 5 by decide) (Or.inl (show ¬ (2 + 1 : Nat) = 5 by decide)) (xk_k (show ¬ (3 : Nat) = 5 by decide) (Or.inl (show ¬ (3 + 1 : Nat) = 5 by decide)) (xk_k (show ¬ (4 : Nat) = 5 by decide) (Or.inr (xI_cat _)) (xk_d rfl (xk_k (show ¬ (6 : Nat) = 5 by decide) (Or.inl (show ¬ (6 + 1 : Nat) = 5 by decide)) xk_n))))))) rfl ?_
    refine xe_goto (off := -113) (nx := 20) (by decide +kernel) (by decide) ?_
    refine xW_lv rfl (l := [(0, xR_ (x0)), (1, xI (x1)), (2, xR_ (x2)), (3, xI (x3)), (4, xI (x4)), (5, xI (xwr ((x5) + (-1))))]) (xsb_of ⟨rfl, rfl, rfl, rfl, rfl, rfl, trivial⟩ (show [5, 0, 1, 2, 3, 4, 6].Nodup by decide)) ?_
    exact hr20 hx1 hx3 hx4 (xin_wr _) h
  · rw [if_neg c101] at h
    refine xe_alr (ins := .aload_n 0) (len := 1) (i := 0) (by decide +kernel) rfl rfl rfl rfl rfl ?_
    obtain ⟨v110, e111, h⟩ := xbnd h
    refine xs_gr (i := 433) (c := 15) (k := 32) (by decide +kernel) (by decide) (by decide +kernel) e111 rfl ?_
    refine xe_alr (ins := .aload_n 0) (len := 1) (i := 0) (by decide +kernel) rfl rfl rfl rfl rfl ?_
    refine xe_ldn (ins := .iload_n 1) (len := 1) (by decide +kernel) rfl rfl rfl rfl ?_
    refine xe_ldn (ins := .iload 5) (len := 2) (by decide +kernel) rfl rfl rfl rfl ?_
    obtain ⟨_, e113, h⟩ := xbnd h
    obtain ⟨R114, e112, h⟩ := xbnd h
    refine xs_cv (i := 436) (j := 261) (ar := [xI (x5), xI (x1)]) (rest := [xR_ (v110)]) (r2 := xr_261) (by decide +kernel) (by decide +kernel) (by decide +kernel) xr_261_e rfl (by decide) (by simp only [List.map_cons, List.map_nil, List.sum_cons, List.sum_nil, xR_cat, xI_cat, xZ_cat]; decide) e113 ?_
    refine xc_i (k261 (d := d + 1)  hx1 hx5 e112) rfl (fun hi115 => ?_)
    refine xe_ldn (ins := .iload 6) (len := 2) (by decide +kernel) rfl rfl rfl rfl ?_
    refine xe_iadd (by decide +kernel) rfl ?_
    refine xe_alr (ins := .aload_n 0) (len := 1) (i := 0) (by decide +kernel) rfl rfl rfl rfl rfl ?_
    obtain ⟨v116, e117, h⟩ := xbnd h
    refine xs_gr (i := 433) (c := 15) (k := 32) (by decide +kernel) (by decide) (by decide +kernel) e117 rfl ?_
    refine xe_alr (ins := .aload_n 0) (len := 1) (i := 0) (by decide +kernel) rfl rfl rfl rfl rfl ?_
    refine xe_ldn (ins := .iload_n 1) (len := 1) (by decide +kernel) rfl rfl rfl rfl ?_
    refine xe_ldn (ins := .iload 5) (len := 2) (by decide +kernel) rfl rfl rfl rfl ?_
    refine xe_iconst (n := 1) (by decide +kernel) rfl ?_
    refine xe_isub (by decide +kernel) rfl ?_
    obtain ⟨_, e119, h⟩ := xbnd h
    obtain ⟨R120, e118, h⟩ := xbnd h
    refine xs_cv (i := 436) (j := 261) (ar := [xI (xwr ((x5) - (1))), xI (x1)]) (rest := [xR_ (v116), xI (xwr ((R114.1) + (x6))), xR_ (v110)]) (r2 := xr_261) (by decide +kernel) (by decide +kernel) (by decide +kernel) xr_261_e rfl (by decide) (by simp only [List.map_cons, List.map_nil, List.sum_cons, List.sum_nil, xR_cat, xI_cat, xZ_cat]; decide) e119 ?_
    refine xc_i (k261 (d := d + 1)  hx1 (xin_wr _) e118) rfl (fun hi121 => ?_)
    refine xe_ldn (ins := .iload 6) (len := 2) (by decide +kernel) rfl rfl rfl rfl ?_
    refine xe_iadd (by decide +kernel) rfl ?_
    obtain ⟨v122, e123, h⟩ := xbnd h
    refine xs_lald (by decide +kernel) (xin_wr _) e123 rfl ?_
    obtain ⟨M124, e125, h⟩ := xbnd h
    refine xs_last (by decide +kernel) (xin_wr _) e125 rfl ?_
    refine xe_iincr (i := 6) (n := 1) (by decide +kernel) (by decide) rfl (xk_k (show ¬ (0 : Nat) = 6 by decide) (Or.inl (show ¬ (0 + 1 : Nat) = 6 by decide)) (xk_k (show ¬ (1 : Nat) = 6 by decide) (Or.inl (show ¬ (1 + 1 : Nat) = 6 by decide)) (xk_k (show ¬ (2 : Nat) = 6 by decide) (Or.inl (show ¬ (2 + 1 : Nat) = 6 by decide)) (xk_k (show ¬ (3 : Nat) = 6 by decide) (Or.inl (show ¬ (3 + 1 : Nat) = 6 by decide)) (xk_k (show ¬ (4 : Nat) = 6 by decide) (Or.inl (show ¬ (4 + 1 : Nat) = 6 by decide)) (xk_k (show ¬ (5 : Nat) = 6 by decide) (Or.inr (xI_cat _)) (xk_d rfl xk_n))))))) rfl ?_
    refine xe_goto (off := -41) (nx := 58) (by decide +kernel) (by decide) ?_
    refine xW_lv rfl (l := [(0, xR_ (x0)), (1, xI (x1)), (2, xR_ (x2)), (3, xI (x3)), (4, xI (x4)), (5, xI (x5)), (6, xI (xwr ((x6) + (1))))]) (xsb_of ⟨rfl, rfl, rfl, rfl, rfl, rfl, rfl, trivial⟩ (show [6, 0, 1, 2, 3, 4, 5].Nodup by decide)) ?_
    exact hr58 hx1 hx3 hx4 hx5 (xin_wr _) h
def f264_58  (r20 : Nat → Int → Nat → Int → Int → Int → xj_M → Option (xj_M)) (f : Nat) : Nat → Nat → Int → Nat → Int → Int → Int → Int → xj_M → Option (xj_M)
  | 0, _, _, _, _, _, _, _, _ => none
  | n + 1, x0, x1, x2, x3, x4, x5, x6, M => f264_58b  r20 (f264_58  r20 f n) f x0 x1 x2 x3 x4 x5 x6 M
theorem k264_58 {d f : Nat}  {r20 : Nat → Int → Nat → Int → Int → Int → xj_M → Option (xj_M)}  (hr20 : ∀ {x0 : Nat} {x1 : Int} {x2 : Nat} {x3 : Int} {x4 : Int} {x5 : Int} {M : xj_M} {R : xj_M}, xin x1 → xin x3 → xin x4 → xin x5 → r20 x0 x1 x2 x3 x4 x5 M = some R → xW (d + 2) (none, d + 2, none) xr_264 (20, [(0, xR_ x0), (1, xI x1), (2, xR_ x2), (3, xI x3), (4, xI x4), (5, xI x5)], [], M) (xQv R)) : ∀ {n : Nat} {x0 : Nat} {x1 : Int} {x2 : Nat} {x3 : Int} {x4 : Int} {x5 : Int} {x6 : Int} {M : xj_M} {R : xj_M}, xin x1 → xin x3 → xin x4 → xin x5 → xin x6 → f264_58  r20 f n x0 x1 x2 x3 x4 x5 x6 M = some R → xW (d + 2) (none, d + 2, none) xr_264 (58, [(0, xR_ x0), (1, xI x1), (2, xR_ x2), (3, xI x3), (4, xI x4), (5, xI x5), (6, xI x6)], [], M) (xQv R) := by
  intro n
  induction n with
  | zero => intros; rename_i h; cases h
  | succ n ih => intros; rename_i h; exact k264_58b  hr20 ih (by assumption) (by assumption) (by assumption) (by assumption) (by assumption) h
def f264_183  (r139 : Nat → Int → Nat → Int → Int → Int → Int → xj_M → Option (xj_M)) (f : Nat) (x0 : Nat) (x1 : Int) (x2 : Nat) (x3 : Int) (x4 : Int) (x5 : Int) (x6 : Int) (y0 : Int) (y1 : Int) (y2 : Nat) (M : xj_M) : Option (xj_M) := ((xq_sl (y2) (y1) (y0) M).bind fun M126 => r139 (x0) (x1) (x2) (x3) (x4) (x5) (xwr ((x6) + (1))) M126)
theorem k264_183 {d f : Nat}  {r139 : Nat → Int → Nat → Int → Int → Int → Int → xj_M → Option (xj_M)}  (hr139 : ∀ {x0 : Nat} {x1 : Int} {x2 : Nat} {x3 : Int} {x4 : Int} {x5 : Int} {x6 : Int} {M : xj_M} {R : xj_M}, xin x1 → xin x3 → xin x4 → xin x5 → xin x6 → r139 x0 x1 x2 x3 x4 x5 x6 M = some R → xW (d + 2) (none, d + 2, none) xr_264 (139, [(0, xR_ x0), (1, xI x1), (2, xR_ x2), (3, xI x3), (4, xI x4), (5, xI x5), (6, xI x6)], [], M) (xQv R)) {x0 : Nat} {x1 : Int} {x2 : Nat} {x3 : Int} {x4 : Int} {x5 : Int} {x6 : Int} {y0 : Int} {y1 : Int} {y2 : Nat} {M : xj_M} {R : xj_M} (hx1 : xin x1) (hx3 : xin x3) (hx4 : xin x4) (hx5 : xin x5) (hx6 : xin x6) (hy0 : xiN y0) (hy1 : xin y1) (h : f264_183  r139 f x0 x1 x2 x3 x4 x5 x6 y0 y1 y2 M = some R) : xW (d + 2) (none, d + 2, none) xr_264 (183, [(0, xR_ x0), (1, xI x1), (2, xR_ x2), (3, xI x3), (4, xI x4), (5, xI x5), (6, xI x6)], [xZ y0, xI y1, xR_ y2], M) (xQv R) := by
  unfold f264_183 at h
  obtain ⟨M126, e127, h⟩ := xbnd h
  refine xs_last (by decide +kernel) hy1 e127 rfl ?_
  refine xe_iincr (i := 6) (n := 1) (by decide +kernel) (by decide) rfl (xk_k (show ¬ (0 : Nat) = 6 by decide) (Or.inl (show ¬ (0 + 1 : Nat) = 6 by decide)) (xk_k (show ¬ (1 : Nat) = 6 by decide) (Or.inl (show ¬ (1 + 1 : Nat) = 6 by decide)) (xk_k (show ¬ (2 : Nat) = 6 by decide) (Or.inl (show ¬ (2 + 1 : Nat) = 6 by decide)) (xk_k (show ¬ (3 : Nat) = 6 by decide) (Or.inl (show ¬ (3 + 1 : Nat) = 6 by decide)) (xk_k (show ¬ (4 : Nat) = 6 by decide) (Or.inl (show ¬ (4 + 1 : Nat) = 6 by decide)) (xk_k (show ¬ (5 : Nat) = 6 by decide) (Or.inr (xI_cat _)) (xk_d rfl xk_n))))))) rfl ?_
  refine xe_goto (off := -48) (nx := 139) (by decide +kernel) (by decide) ?_
  refine xW_lv rfl (l := [(0, xR_ (x0)), (1, xI (x1)), (2, xR_ (x2)), (3, xI (x3)), (4, xI (x4)), (5, xI (x5)), (6, xI (xwr ((x6) + (1))))]) (xsb_of ⟨rfl, rfl, rfl, rfl, rfl, rfl, rfl, trivial⟩ (show [6, 0, 1, 2, 3, 4, 5].Nodup by decide)) ?_
  exact hr139 hx1 hx3 hx4 hx5 (xin_wr _) h
def f264_139b  (r139 : Nat → Int → Nat → Int → Int → Int → Int → xj_M → Option (xj_M)) (f : Nat) (x0 : Nat) (x1 : Int) (x2 : Nat) (x3 : Int) (x4 : Int) (x5 : Int) (x6 : Int) (M : xj_M) : Option (xj_M) := (if (4) ≤ (x6) then ((xq_gr 15 34 (x0) M).bind fun v129 => ((xq_si (v129) (xwr ((xwr ((x1) * (520))) + (x5))) (x4) M).bind fun M131 => ((xq_gr 15 33 (x0) M131).bind fun v133 => ((xq_ai 3 (v133) (x1) M131).bind fun v135 => ((xq_si (v133) (x1) (xwr ((v135) + (1))) M131).bind fun M137 => (some M137)))))) else ((xq_gr 15 32 (x0) M).bind fun v139 => ((xq_is 15 (x0) M).bind fun _ => ((f261  f (x0) (x1) (x5) M).bind fun R143 => ((xq_gr 15 29 (x0) R143.2).bind fun v145 => ((xq_gr 14 1 (v145) R143.2).bind fun v147 => ((xq_ai 3 (v147) (x1) R143.2).bind fun v149 => (if (v149) ≤ (x6) then f264_183  r139 f (x0) (x1) (x2) (x3) (x4) (x5) (x6) (0) (xwr ((R143.1) + (x6))) (v139) R143.2 else ((xq_al (x2) (xwr ((x3) + (x6))) R143.2).bind fun v152 => f264_183  r139 f (x0) (x1) (x2) (x3) (x4) (x5) (x6) (v152) (xwr ((R143.1) + (x6))) (v139) R143.2)))))))))
theorem k264_139b {d f : Nat}  {r139 : Nat → Int → Nat → Int → Int → Int → Int → xj_M → Option (xj_M)}  (hr139 : ∀ {x0 : Nat} {x1 : Int} {x2 : Nat} {x3 : Int} {x4 : Int} {x5 : Int} {x6 : Int} {M : xj_M} {R : xj_M}, xin x1 → xin x3 → xin x4 → xin x5 → xin x6 → r139 x0 x1 x2 x3 x4 x5 x6 M = some R → xW (d + 2) (none, d + 2, none) xr_264 (139, [(0, xR_ x0), (1, xI x1), (2, xR_ x2), (3, xI x3), (4, xI x4), (5, xI x5), (6, xI x6)], [], M) (xQv R)) {x0 : Nat} {x1 : Int} {x2 : Nat} {x3 : Int} {x4 : Int} {x5 : Int} {x6 : Int} {M : xj_M} {R : xj_M} (hx1 : xin x1) (hx3 : xin x3) (hx4 : xin x4) (hx5 : xin x5) (hx6 : xin x6) (h : f264_139b  r139 f x0 x1 x2 x3 x4 x5 x6 M = some R) : xW (d + 2) (none, d + 2, none) xr_264 (139, [(0, xR_ x0), (1, xI x1), (2, xR_ x2), (3, xI x3), (4, xI x4), (5, xI x5), (6, xI x6)], [], M) (xQv R) := by
  unfold f264_139b at h
  refine xe_ldn (ins := .iload 6) (len := 2) (by decide +kernel) rfl rfl rfl rfl ?_
  refine xe_iconst (n := 4) (by decide +kernel) rfl ?_
  refine xe_icmpge (off := 48) (t := 190) (by decide +kernel) (by decide) rfl hx6 (show xin (4) by decide) (fun c128 => ?_) (fun c128 => ?_)
  · rw [if_pos c128] at h
    refine xe_alr (ins := .aload_n 0) (len := 1) (i := 0) (by decide +kernel) rfl rfl rfl rfl rfl ?_
    obtain ⟨v129, e130, h⟩ := xbnd h
    refine xs_gr (i := 450) (c := 15) (k := 34) (by decide +kernel) (by decide) (by decide +kernel) e130 rfl ?_
    refine xe_ldn (ins := .iload_n 1) (len := 1) (by decide +kernel) rfl rfl rfl rfl ?_
    refine xe_sipush (n := 520) (by decide +kernel) (by decide) rfl ?_
    refine xe_imul (by decide +kernel) rfl ?_
    refine xe_ldn (ins := .iload 5) (len := 2) (by decide +kernel) rfl rfl rfl rfl ?_
    refine xe_iadd (by decide +kernel) rfl ?_
    refine xe_ldn (ins := .iload 4) (len := 2) (by decide +kernel) rfl rfl rfl rfl ?_
    obtain ⟨M131, e132, h⟩ := xbnd h
    refine xs_iast (by decide +kernel) (xin_wr _) e132 rfl ?_
    refine xe_alr (ins := .aload_n 0) (len := 1) (i := 0) (by decide +kernel) rfl rfl rfl rfl rfl ?_
    obtain ⟨v133, e134, h⟩ := xbnd h
    refine xs_gr (i := 430) (c := 15) (k := 33) (by decide +kernel) (by decide) (by decide +kernel) e134 rfl ?_
    refine xe_ldn (ins := .iload_n 1) (len := 1) (by decide +kernel) rfl rfl rfl rfl ?_
    refine xe_dup2r (xI_cat _) (xR_cat _) (by decide +kernel) rfl ?_
    obtain ⟨v135, e136, h⟩ := xbnd h
    refine xs_iald rfl (by decide +kernel) hx1 e136 rfl ?_
    refine xe_iconst (n := 1) (by decide +kernel) rfl ?_
    refine xe_iadd (by decide +kernel) rfl ?_
    obtain ⟨M137, e138, h⟩ := xbnd h
    refine xs_iast (by decide +kernel) hx1 e138 rfl ?_
    cases h
    exact xe_ret_v (by decide +kernel) rfl ⟨rfl, rfl⟩
  · rw [if_neg c128] at h
    refine xe_alr (ins := .aload_n 0) (len := 1) (i := 0) (by decide +kernel) rfl rfl rfl rfl rfl ?_
    obtain ⟨v139, e140, h⟩ := xbnd h
    refine xs_gr (i := 433) (c := 15) (k := 32) (by decide +kernel) (by decide) (by decide +kernel) e140 rfl ?_
    refine xe_alr (ins := .aload_n 0) (len := 1) (i := 0) (by decide +kernel) rfl rfl rfl rfl rfl ?_
    refine xe_ldn (ins := .iload_n 1) (len := 1) (by decide +kernel) rfl rfl rfl rfl ?_
    refine xe_ldn (ins := .iload 5) (len := 2) (by decide +kernel) rfl rfl rfl rfl ?_
    obtain ⟨_, e142, h⟩ := xbnd h
    obtain ⟨R143, e141, h⟩ := xbnd h
    refine xs_cv (i := 436) (j := 261) (ar := [xI (x5), xI (x1)]) (rest := [xR_ (v139)]) (r2 := xr_261) (by decide +kernel) (by decide +kernel) (by decide +kernel) xr_261_e rfl (by decide) (by simp only [List.map_cons, List.map_nil, List.sum_cons, List.sum_nil, xR_cat, xI_cat, xZ_cat]; decide) e142 ?_
    refine xc_i (k261 (d := d + 1)  hx1 hx5 e141) rfl (fun hi144 => ?_)
    refine xe_ldn (ins := .iload 6) (len := 2) (by decide +kernel) rfl rfl rfl rfl ?_
    refine xe_iadd (by decide +kernel) rfl ?_
    refine xe_ldn (ins := .iload 6) (len := 2) (by decide +kernel) rfl rfl rfl rfl ?_
    refine xe_alr (ins := .aload_n 0) (len := 1) (i := 0) (by decide +kernel) rfl rfl rfl rfl rfl ?_
    obtain ⟨v145, e146, h⟩ := xbnd h
    refine xs_gr (i := 439) (c := 15) (k := 29) (by decide +kernel) (by decide) (by decide +kernel) e146 rfl ?_
    obtain ⟨v147, e148, h⟩ := xbnd h
    refine xs_gr (i := 180) (c := 14) (k := 1) (by decide +kernel) (by decide) (by decide +kernel) e148 rfl ?_
    refine xe_ldn (ins := .iload_n 1) (len := 1) (by decide +kernel) rfl rfl rfl rfl ?_
    obtain ⟨v149, e150, h⟩ := xbnd h
    refine xs_iald rfl (by decide +kernel) hx1 e150 rfl ?_
    refine xe_icmpge (off := 12) (t := 182) (by decide +kernel) (by decide) rfl hx6 (xq_ai_in e150) (fun c151 => ?_) (fun c151 => ?_)
    · rw [if_pos c151] at h
      refine xe_lconst (n := 0) (z := 0) (by decide +kernel) rfl rfl ?_
      refine xW_lv rfl (l := [(0, xR_ (x0)), (1, xI (x1)), (2, xR_ (x2)), (3, xI (x3)), (4, xI (x4)), (5, xI (x5)), (6, xI (x6))]) (xsb_of ⟨rfl, rfl, rfl, rfl, rfl, rfl, rfl, trivial⟩ (show [0, 1, 2, 3, 4, 5, 6].Nodup by decide)) ?_
      exact k264_183  hr139 hx1 hx3 hx4 hx5 hx6 (show xiN (0) by decide) (xin_wr _) h
    · rw [if_neg c151] at h
      refine xe_alr (ins := .aload_n 2) (len := 1) (i := 2) (by decide +kernel) rfl rfl rfl rfl rfl ?_
      refine xe_ldn (ins := .iload_n 3) (len := 1) (by decide +kernel) rfl rfl rfl rfl ?_
      refine xe_ldn (ins := .iload 6) (len := 2) (by decide +kernel) rfl rfl rfl rfl ?_
      refine xe_iadd (by decide +kernel) rfl ?_
      obtain ⟨v152, e153, h⟩ := xbnd h
      refine xs_lald (by decide +kernel) (xin_wr _) e153 rfl ?_
      refine xe_goto (off := 4) (nx := 183) (by decide +kernel) (by decide) ?_
      refine xW_lv rfl (l := [(0, xR_ (x0)), (1, xI (x1)), (2, xR_ (x2)), (3, xI (x3)), (4, xI (x4)), (5, xI (x5)), (6, xI (x6))]) (xsb_of ⟨rfl, rfl, rfl, rfl, rfl, rfl, rfl, trivial⟩ (show [0, 1, 2, 3, 4, 5, 6].Nodup by decide)) ?_
      exact k264_183  hr139 hx1 hx3 hx4 hx5 hx6 (xq_al_in e153) (xin_wr _) h
def f264_139   (f : Nat) : Nat → Nat → Int → Nat → Int → Int → Int → Int → xj_M → Option (xj_M)
  | 0, _, _, _, _, _, _, _, _ => none
  | n + 1, x0, x1, x2, x3, x4, x5, x6, M => f264_139b   (f264_139   f n) f x0 x1 x2 x3 x4 x5 x6 M
theorem k264_139 {d f : Nat}     : ∀ {n : Nat} {x0 : Nat} {x1 : Int} {x2 : Nat} {x3 : Int} {x4 : Int} {x5 : Int} {x6 : Int} {M : xj_M} {R : xj_M}, xin x1 → xin x3 → xin x4 → xin x5 → xin x6 → f264_139   f n x0 x1 x2 x3 x4 x5 x6 M = some R → xW (d + 2) (none, d + 2, none) xr_264 (139, [(0, xR_ x0), (1, xI x1), (2, xR_ x2), (3, xI x3), (4, xI x4), (5, xI x5), (6, xI x6)], [], M) (xQv R) := by
  intro n
  induction n with
  | zero => intros; rename_i h; cases h
  | succ n ih => intros; rename_i h; exact k264_139b   ih (by assumption) (by assumption) (by assumption) (by assumption) (by assumption) h
def f264_136   (f : Nat) (x0 : Nat) (x1 : Int) (x2 : Nat) (x3 : Int) (x4 : Int) (x5 : Int) (M : xj_M) : Option (xj_M) := f264_139   f f (x0) (x1) (x2) (x3) (x4) (x5) (0) M
theorem k264_136 {d f : Nat}     {x0 : Nat} {x1 : Int} {x2 : Nat} {x3 : Int} {x4 : Int} {x5 : Int} {M : xj_M} {R : xj_M} (hx1 : xin x1) (hx3 : xin x3) (hx4 : xin x4) (hx5 : xin x5) (h : f264_136   f x0 x1 x2 x3 x4 x5 M = some R) : xW (d + 2) (none, d + 2, none) xr_264 (136, [(0, xR_ x0), (1, xI x1), (2, xR_ x2), (3, xI x3), (4, xI x4), (5, xI x5)], [], M) (xQv R) := by
  unfold f264_136 at h
  refine xe_iconst (n := 0) (by decide +kernel) rfl ?_
  refine xe_isr (ins := .istore 6) (len := 2) (i := 6) (by decide +kernel) rfl rfl rfl (by decide) (xk_k (show ¬ (0 : Nat) = 6 by decide) (Or.inl (show ¬ (0 + 1 : Nat) = 6 by decide)) (xk_k (show ¬ (1 : Nat) = 6 by decide) (Or.inl (show ¬ (1 + 1 : Nat) = 6 by decide)) (xk_k (show ¬ (2 : Nat) = 6 by decide) (Or.inl (show ¬ (2 + 1 : Nat) = 6 by decide)) (xk_k (show ¬ (3 : Nat) = 6 by decide) (Or.inl (show ¬ (3 + 1 : Nat) = 6 by decide)) (xk_k (show ¬ (4 : Nat) = 6 by decide) (Or.inl (show ¬ (4 + 1 : Nat) = 6 by decide)) (xk_k (show ¬ (5 : Nat) = 6 by decide) (Or.inr (xI_cat _)) xk_n)))))) rfl ?_
  refine xW_lv rfl (l := [(0, xR_ (x0)), (1, xI (x1)), (2, xR_ (x2)), (3, xI (x3)), (4, xI (x4)), (5, xI (x5)), (6, xI (0))]) (xsb_of ⟨rfl, rfl, rfl, rfl, rfl, rfl, rfl, trivial⟩ (show [6, 0, 1, 2, 3, 4, 5].Nodup by decide)) ?_
  exact k264_139   hx1 hx3 hx4 hx5 (show xin (0) by decide) h
def f264_20b  (r20 : Nat → Int → Nat → Int → Int → Int → xj_M → Option (xj_M)) (f : Nat) (x0 : Nat) (x1 : Int) (x2 : Nat) (x3 : Int) (x4 : Int) (x5 : Int) (M : xj_M) : Option (xj_M) := (if (x5) ≤ 0 then f264_136   f (x0) (x1) (x2) (x3) (x4) (x5) M else ((xq_gr 15 32 (x0) M).bind fun v155 => ((xq_is 15 (x0) M).bind fun _ => ((f261  f (x0) (x1) (xwr ((x5) - (1))) M).bind fun R159 => ((xq_gr 15 29 (x0) R159.2).bind fun v161 => ((xq_gr 14 1 (v161) R159.2).bind fun v163 => ((xq_ai 3 (v163) (x1) R159.2).bind fun v165 => ((f262  f (v155) (R159.1) (x2) (x3) (v165) R159.2).bind fun R168 => (if (R168.1) ≤ 0 then f264_136   f (x0) (x1) (x2) (x3) (x4) (x5) R168.2 else f264_58  r20 f f (x0) (x1) (x2) (x3) (x4) (x5) (0) R168.2)))))))))
theorem k264_20b {d f : Nat}  {r20 : Nat → Int → Nat → Int → Int → Int → xj_M → Option (xj_M)}  (hr20 : ∀ {x0 : Nat} {x1 : Int} {x2 : Nat} {x3 : Int} {x4 : Int} {x5 : Int} {M : xj_M} {R : xj_M}, xin x1 → xin x3 → xin x4 → xin x5 → r20 x0 x1 x2 x3 x4 x5 M = some R → xW (d + 2) (none, d + 2, none) xr_264 (20, [(0, xR_ x0), (1, xI x1), (2, xR_ x2), (3, xI x3), (4, xI x4), (5, xI x5)], [], M) (xQv R)) {x0 : Nat} {x1 : Int} {x2 : Nat} {x3 : Int} {x4 : Int} {x5 : Int} {M : xj_M} {R : xj_M} (hx1 : xin x1) (hx3 : xin x3) (hx4 : xin x4) (hx5 : xin x5) (h : f264_20b  r20 f x0 x1 x2 x3 x4 x5 M = some R) : xW (d + 2) (none, d + 2, none) xr_264 (20, [(0, xR_ x0), (1, xI x1), (2, xR_ x2), (3, xI x3), (4, xI x4), (5, xI x5)], [], M) (xQv R) := by
  unfold f264_20b at h
  refine xe_ldn (ins := .iload 5) (len := 2) (by decide +kernel) rfl rfl rfl rfl ?_
  refine xe_ifle (off := 114) (t := 136) (by decide +kernel) (by decide) rfl hx5 (fun c154 => ?_) (fun c154 => ?_)
  · rw [if_pos c154] at h
    refine xW_lv rfl (l := [(0, xR_ (x0)), (1, xI (x1)), (2, xR_ (x2)), (3, xI (x3)), (4, xI (x4)), (5, xI (x5))]) (xsb_of ⟨rfl, rfl, rfl, rfl, rfl, rfl, trivial⟩ (show [0, 1, 2, 3, 4, 5].Nodup by decide)) ?_
    exact k264_136   hx1 hx3 hx4 hx5 h
  · rw [if_neg c154] at h
    refine xe_alr (ins := .aload_n 0) (len := 1) (i := 0) (by decide +kernel) rfl rfl rfl rfl rfl ?_
    obtain ⟨v155, e156, h⟩ := xbnd h
    refine xs_gr (i := 433) (c := 15) (k := 32) (by decide +kernel) (by decide) (by decide +kernel) e156 rfl ?_
    refine xe_alr (ins := .aload_n 0) (len := 1) (i := 0) (by decide +kernel) rfl rfl rfl rfl rfl ?_
    refine xe_ldn (ins := .iload_n 1) (len := 1) (by decide +kernel) rfl rfl rfl rfl ?_
    refine xe_ldn (ins := .iload 5) (len := 2) (by decide +kernel) rfl rfl rfl rfl ?_
    refine xe_iconst (n := 1) (by decide +kernel) rfl ?_
    refine xe_isub (by decide +kernel) rfl ?_
    obtain ⟨_, e158, h⟩ := xbnd h
    obtain ⟨R159, e157, h⟩ := xbnd h
    refine xs_cv (i := 436) (j := 261) (ar := [xI (xwr ((x5) - (1))), xI (x1)]) (rest := [xR_ (v155)]) (r2 := xr_261) (by decide +kernel) (by decide +kernel) (by decide +kernel) xr_261_e rfl (by decide) (by simp only [List.map_cons, List.map_nil, List.sum_cons, List.sum_nil, xR_cat, xI_cat, xZ_cat]; decide) e158 ?_
    refine xc_i (k261 (d := d + 1)  hx1 (xin_wr _) e157) rfl (fun hi160 => ?_)
    refine xe_alr (ins := .aload_n 2) (len := 1) (i := 2) (by decide +kernel) rfl rfl rfl rfl rfl ?_
    refine xe_ldn (ins := .iload_n 3) (len := 1) (by decide +kernel) rfl rfl rfl rfl ?_
    refine xe_alr (ins := .aload_n 0) (len := 1) (i := 0) (by decide +kernel) rfl rfl rfl rfl rfl ?_
    obtain ⟨v161, e162, h⟩ := xbnd h
    refine xs_gr (i := 439) (c := 15) (k := 29) (by decide +kernel) (by decide) (by decide +kernel) e162 rfl ?_
    obtain ⟨v163, e164, h⟩ := xbnd h
    refine xs_gr (i := 180) (c := 14) (k := 1) (by decide +kernel) (by decide) (by decide +kernel) e164 rfl ?_
    refine xe_ldn (ins := .iload_n 1) (len := 1) (by decide +kernel) rfl rfl rfl rfl ?_
    obtain ⟨v165, e166, h⟩ := xbnd h
    refine xs_iald rfl (by decide +kernel) hx1 e166 rfl ?_
    obtain ⟨R168, e167, h⟩ := xbnd h
    refine xs_cs (kd := 2) (by decide) (i := 442) (j := 262) (ar := [xI (v165), xI (x3), xR_ (x2), xI (R159.1), xR_ (v155)]) (rest := []) (r2 := xr_262) (by decide +kernel) (by decide +kernel) (by decide +kernel) xr_262_e rfl (by decide) ?_
    refine xc_i (k262 (d := d + 1)  hi160 hx3 (xq_ai_in e166) e167) rfl (fun hi169 => ?_)
    refine xe_ifle (off := 84) (t := 136) (by decide +kernel) (by decide) rfl hi169 (fun c170 => ?_) (fun c170 => ?_)
    · rw [if_pos c170] at h
      refine xW_lv rfl (l := [(0, xR_ (x0)), (1, xI (x1)), (2, xR_ (x2)), (3, xI (x3)), (4, xI (x4)), (5, xI (x5))]) (xsb_of ⟨rfl, rfl, rfl, rfl, rfl, rfl, trivial⟩ (show [0, 1, 2, 3, 4, 5].Nodup by decide)) ?_
      exact k264_136   hx1 hx3 hx4 hx5 h
    · rw [if_neg c170] at h
      refine xe_iconst (n := 0) (by decide +kernel) rfl ?_
      refine xe_isr (ins := .istore 6) (len := 2) (i := 6) (by decide +kernel) rfl rfl rfl (by decide) (xk_k (show ¬ (0 : Nat) = 6 by decide) (Or.inl (show ¬ (0 + 1 : Nat) = 6 by decide)) (xk_k (show ¬ (1 : Nat) = 6 by decide) (Or.inl (show ¬ (1 + 1 : Nat) = 6 by decide)) (xk_k (show ¬ (2 : Nat) = 6 by decide) (Or.inl (show ¬ (2 + 1 : Nat) = 6 by decide)) (xk_k (show ¬ (3 : Nat) = 6 by decide) (Or.inl (show ¬ (3 + 1 : Nat) = 6 by decide)) (xk_k (show ¬ (4 : Nat) = 6 by decide) (Or.inl (show ¬ (4 + 1 : Nat) = 6 by decide)) (xk_k (show ¬ (5 : Nat) = 6 by decide) (Or.inr (xI_cat _)) xk_n)))))) rfl ?_
      refine xW_lv rfl (l := [(0, xR_ (x0)), (1, xI (x1)), (2, xR_ (x2)), (3, xI (x3)), (4, xI (x4)), (5, xI (x5)), (6, xI (0))]) (xsb_of ⟨rfl, rfl, rfl, rfl, rfl, rfl, rfl, trivial⟩ (show [6, 0, 1, 2, 3, 4, 5].Nodup by decide)) ?_
      exact k264_58  hr20 hx1 hx3 hx4 hx5 (show xin (0) by decide) h
def f264_20   (f : Nat) : Nat → Nat → Int → Nat → Int → Int → Int → xj_M → Option (xj_M)
  | 0, _, _, _, _, _, _, _ => none
  | n + 1, x0, x1, x2, x3, x4, x5, M => f264_20b   (f264_20   f n) f x0 x1 x2 x3 x4 x5 M
theorem k264_20 {d f : Nat}     : ∀ {n : Nat} {x0 : Nat} {x1 : Int} {x2 : Nat} {x3 : Int} {x4 : Int} {x5 : Int} {M : xj_M} {R : xj_M}, xin x1 → xin x3 → xin x4 → xin x5 → f264_20   f n x0 x1 x2 x3 x4 x5 M = some R → xW (d + 2) (none, d + 2, none) xr_264 (20, [(0, xR_ x0), (1, xI x1), (2, xR_ x2), (3, xI x3), (4, xI x4), (5, xI x5)], [], M) (xQv R) := by
  intro n
  induction n with
  | zero => intros; rename_i h; cases h
  | succ n ih => intros; rename_i h; exact k264_20b   ih (by assumption) (by assumption) (by assumption) (by assumption) h
def f264  (f : Nat) (a0 : Nat) (a1 : Int) (a2 : Nat) (a3 : Int) (a4 : Int) (M : xj_M) : Option (xj_M) := ((xq_is 15 (a0) M).bind fun _ => ((f263  f (a0) (a1) (a2) (a3) M).bind fun R173 => (if (R173.1) = (-1) then ((xq_gr 15 33 (a0) R173.2).bind fun v176 => ((xq_ai 3 (v176) (a1) R173.2).bind fun v178 => f264_20   f f (a0) (a1) (a2) (a3) (a4) (v178) R173.2)) else (some R173.2))))
theorem k264 {d f : Nat}   {a0 : Nat} {a1 : Int} {a2 : Nat} {a3 : Int} {a4 : Int} {M : xj_M} {R : xj_M} (ha1 : xin a1) (ha3 : xin a3) (ha4 : xin a4) (h : f264  f a0 a1 a2 a3 a4 M = some R) : xT (d + 3) 264 [xR_ a0, xI a1, xR_ a2, xI a3, xI a4] M (xQv R) := by
  refine xT_m xr_264_e (X := (none, d + 2, none)) rfl (xa_1 (xR_cat _) (xa_1 (xI_cat _) (xa_1 (xR_cat _) (xa_1 (xI_cat _) (xa_1 (xI_cat _) xa_n))))) (by decide) ?_
  unfold f264 at h
  refine xe_alr (ins := .aload_n 0) (len := 1) (i := 0) (by decide +kernel) rfl rfl rfl rfl rfl ?_
  refine xe_ldn (ins := .iload_n 1) (len := 1) (by decide +kernel) rfl rfl rfl rfl ?_
  refine xe_alr (ins := .aload_n 2) (len := 1) (i := 2) (by decide +kernel) rfl rfl rfl rfl rfl ?_
  refine xe_ldn (ins := .iload_n 3) (len := 1) (by decide +kernel) rfl rfl rfl rfl ?_
  obtain ⟨_, e172, h⟩ := xbnd h
  obtain ⟨R173, e171, h⟩ := xbnd h
  refine xs_cv (i := 446) (j := 263) (ar := [xI (a3), xR_ (a2), xI (a1)]) (rest := []) (r2 := xr_263) (by decide +kernel) (by decide +kernel) (by decide +kernel) xr_263_e rfl (by decide) (by decide) e172 ?_
  refine xc_i (k263 (d := d + 0)  ha1 ha3 e171) rfl (fun hi174 => ?_)
  refine xe_iconst (n := -1) (by decide +kernel) rfl ?_
  refine xe_icmpeq (off := 4) (t := 12) (by decide +kernel) (by decide) rfl hi174 (show xin (-1) by decide) (fun c175 => ?_) (fun c175 => ?_)
  · rw [if_pos c175] at h
    refine xe_alr (ins := .aload_n 0) (len := 1) (i := 0) (by decide +kernel) rfl rfl rfl rfl rfl ?_
    obtain ⟨v176, e177, h⟩ := xbnd h
    refine xs_gr (i := 430) (c := 15) (k := 33) (by decide +kernel) (by decide) (by decide +kernel) e177 rfl ?_
    refine xe_ldn (ins := .iload_n 1) (len := 1) (by decide +kernel) rfl rfl rfl rfl ?_
    obtain ⟨v178, e179, h⟩ := xbnd h
    refine xs_iald rfl (by decide +kernel) ha1 e179 rfl ?_
    refine xe_isr (ins := .istore 5) (len := 2) (i := 5) (by decide +kernel) rfl rfl rfl (by decide) (xk_k (show ¬ (0 : Nat) = 5 by decide) (Or.inl (show ¬ (0 + 1 : Nat) = 5 by decide)) (xk_k (show ¬ (1 : Nat) = 5 by decide) (Or.inl (show ¬ (1 + 1 : Nat) = 5 by decide)) (xk_k (show ¬ (2 : Nat) = 5 by decide) (Or.inl (show ¬ (2 + 1 : Nat) = 5 by decide)) (xk_k (show ¬ (3 : Nat) = 5 by decide) (Or.inl (show ¬ (3 + 1 : Nat) = 5 by decide)) (xk_k (show ¬ (4 : Nat) = 5 by decide) (Or.inr (xI_cat _)) xk_n))))) rfl ?_
    refine xW_lv rfl (l := [(0, xR_ (a0)), (1, xI (a1)), (2, xR_ (a2)), (3, xI (a3)), (4, xI (a4)), (5, xI (v178))]) (xsb_of ⟨rfl, rfl, rfl, rfl, rfl, rfl, trivial⟩ (show [5, 0, 1, 2, 3, 4].Nodup by decide)) ?_
    exact k264_20   ha1 ha3 ha4 (xq_ai_in e179) h
  · rw [if_neg c175] at h
    cases h
    exact xe_ret_v (by decide +kernel) rfl ⟨rfl, rfl⟩
-- ChangeHouseModel.remove
def xr_265 : xj_mR := (15, yX15_remove, cX15_remove, 5, (Option.none : Option Jvm.ClassFile.FieldType), 2, false, (9, 147), (1, 12))
set_option maxRecDepth 20000 in
theorem xr_265_e : xj_row 265 = some xr_265 := rfl
def f265_25b  (r12 : Nat → Int → Int → xj_M → Option (xj_M)) (r25 : Nat → Int → Int → Int → xj_M → Option (xj_M)) (f : Nat) (x0 : Nat) (x1 : Int) (x3 : Int) (x4 : Int) (M : xj_M) : Option (xj_M) := (if (4) ≤ (x4) then ((xq_gr 15 34 (x0) M).bind fun v102 => ((xq_gr 15 34 (x0) M).bind fun v104 => ((xq_ai 3 (v104) (xwr ((xwr ((xwr ((x1) * (520))) + (x3))) + (1))) M).bind fun v106 => ((xq_si (v102) (xwr ((xwr ((x1) * (520))) + (x3))) (v106) M).bind fun M108 => r12 (x0) (x1) (xwr ((x3) + (1))) M108)))) else ((xq_gr 15 32 (x0) M).bind fun v110 => ((xq_is 15 (x0) M).bind fun _ => ((f261  f (x0) (x1) (x3) M).bind fun R114 => ((xq_gr 15 32 (x0) R114.2).bind fun v116 => ((xq_is 15 (x0) R114.2).bind fun _ => ((f261  f (x0) (x1) (xwr ((x3) + (1))) R114.2).bind fun R120 => ((xq_al (v116) (xwr ((R120.1) + (x4))) R120.2).bind fun v122 => ((xq_sl (v110) (xwr ((R114.1) + (x4))) (v122) R120.2).bind fun M124 => r25 (x0) (x1) (x3) (xwr ((x4) + (1))) M124)))))))))
theorem k265_25b {d f : Nat}  {r12 : Nat → Int → Int → xj_M → Option (xj_M)} {r25 : Nat → Int → Int → Int → xj_M → Option (xj_M)}  (hr12 : ∀ {x0 : Nat} {x1 : Int} {x3 : Int} {M : xj_M} {R : xj_M}, xin x1 → xin x3 → r12 x0 x1 x3 M = some R → xW (d + 1) (none, d + 1, none) xr_265 (12, [(0, xR_ x0), (1, xI x1), (3, xI x3)], [], M) (xQv R)) (hr25 : ∀ {x0 : Nat} {x1 : Int} {x3 : Int} {x4 : Int} {M : xj_M} {R : xj_M}, xin x1 → xin x3 → xin x4 → r25 x0 x1 x3 x4 M = some R → xW (d + 1) (none, d + 1, none) xr_265 (25, [(0, xR_ x0), (1, xI x1), (3, xI x3), (4, xI x4)], [], M) (xQv R)) {x0 : Nat} {x1 : Int} {x3 : Int} {x4 : Int} {M : xj_M} {R : xj_M} (hx1 : xin x1) (hx3 : xin x3) (hx4 : xin x4) (h : f265_25b  r12 r25 f x0 x1 x3 x4 M = some R) : xW (d + 1) (none, d + 1, none) xr_265 (25, [(0, xR_ x0), (1, xI x1), (3, xI x3), (4, xI x4)], [], M) (xQv R) := by
  unfold f265_25b at h
  refine xe_ldn (ins := .iload 4) (len := 2) (by decide +kernel) rfl rfl rfl rfl ?_
  refine xe_iconst (n := 4) (by decide +kernel) rfl ?_
  refine xe_icmpge (off := 39) (t := 67) (by decide +kernel) (by decide) rfl hx4 (show xin (4) by decide) (fun c101 => ?_) (fun c101 => ?_)
  · rw [if_pos c101] at h
    refine xe_alr (ins := .aload_n 0) (len := 1) (i := 0) (by decide +kernel) rfl rfl rfl rfl rfl ?_
    obtain ⟨v102, e103, h⟩ := xbnd h
    refine xs_gr (i := 450) (c := 15) (k := 34) (by decide +kernel) (by decide) (by decide +kernel) e103 rfl ?_
    refine xe_ldn (ins := .iload_n 1) (len := 1) (by decide +kernel) rfl rfl rfl rfl ?_
    refine xe_sipush (n := 520) (by decide +kernel) (by decide) rfl ?_
    refine xe_imul (by decide +kernel) rfl ?_
    refine xe_ldn (ins := .iload_n 3) (len := 1) (by decide +kernel) rfl rfl rfl rfl ?_
    refine xe_iadd (by decide +kernel) rfl ?_
    refine xe_alr (ins := .aload_n 0) (len := 1) (i := 0) (by decide +kernel) rfl rfl rfl rfl rfl ?_
    obtain ⟨v104, e105, h⟩ := xbnd h
    refine xs_gr (i := 450) (c := 15) (k := 34) (by decide +kernel) (by decide) (by decide +kernel) e105 rfl ?_
    refine xe_ldn (ins := .iload_n 1) (len := 1) (by decide +kernel) rfl rfl rfl rfl ?_
    refine xe_sipush (n := 520) (by decide +kernel) (by decide) rfl ?_
    refine xe_imul (by decide +kernel) rfl ?_
    refine xe_ldn (ins := .iload_n 3) (len := 1) (by decide +kernel) rfl rfl rfl rfl ?_
    refine xe_iadd (by decide +kernel) rfl ?_
    refine xe_iconst (n := 1) (by decide +kernel) rfl ?_
    refine xe_iadd (by decide +kernel) rfl ?_
    obtain ⟨v106, e107, h⟩ := xbnd h
    refine xs_iald rfl (by decide +kernel) (xin_wr _) e107 rfl ?_
    obtain ⟨M108, e109, h⟩ := xbnd h
    refine xs_iast (by decide +kernel) (xin_wr _) e109 rfl ?_
    refine xe_iincr (i := 3) (n := 1) (by decide +kernel) (by decide) rfl (xk_k (show ¬ (0 : Nat) = 3 by decide) (Or.inl (show ¬ (0 + 1 : Nat) = 3 by decide)) (xk_k (show ¬ (1 : Nat) = 3 by decide) (Or.inl (show ¬ (1 + 1 : Nat) = 3 by decide)) (xk_d rfl (xk_k (show ¬ (4 : Nat) = 3 by decide) (Or.inl (show ¬ (4 + 1 : Nat) = 3 by decide)) xk_n)))) rfl ?_
    refine xe_goto (off := -84) (nx := 12) (by decide +kernel) (by decide) ?_
    refine xW_lv rfl (l := [(0, xR_ (x0)), (1, xI (x1)), (3, xI (xwr ((x3) + (1))))]) (xsb_of ⟨rfl, rfl, rfl, trivial⟩ (show [3, 0, 1, 4].Nodup by decide)) ?_
    exact hr12 hx1 (xin_wr _) h
  · rw [if_neg c101] at h
    refine xe_alr (ins := .aload_n 0) (len := 1) (i := 0) (by decide +kernel) rfl rfl rfl rfl rfl ?_
    obtain ⟨v110, e111, h⟩ := xbnd h
    refine xs_gr (i := 433) (c := 15) (k := 32) (by decide +kernel) (by decide) (by decide +kernel) e111 rfl ?_
    refine xe_alr (ins := .aload_n 0) (len := 1) (i := 0) (by decide +kernel) rfl rfl rfl rfl rfl ?_
    refine xe_ldn (ins := .iload_n 1) (len := 1) (by decide +kernel) rfl rfl rfl rfl ?_
    refine xe_ldn (ins := .iload_n 3) (len := 1) (by decide +kernel) rfl rfl rfl rfl ?_
    obtain ⟨_, e113, h⟩ := xbnd h
    obtain ⟨R114, e112, h⟩ := xbnd h
    refine xs_cv (i := 436) (j := 261) (ar := [xI (x3), xI (x1)]) (rest := [xR_ (v110)]) (r2 := xr_261) (by decide +kernel) (by decide +kernel) (by decide +kernel) xr_261_e rfl (by decide) (by simp only [List.map_cons, List.map_nil, List.sum_cons, List.sum_nil, xR_cat, xI_cat, xZ_cat]; decide) e113 ?_
    refine xc_i (k261 (d := d + 0)  hx1 hx3 e112) rfl (fun hi115 => ?_)
    refine xe_ldn (ins := .iload 4) (len := 2) (by decide +kernel) rfl rfl rfl rfl ?_
    refine xe_iadd (by decide +kernel) rfl ?_
    refine xe_alr (ins := .aload_n 0) (len := 1) (i := 0) (by decide +kernel) rfl rfl rfl rfl rfl ?_
    obtain ⟨v116, e117, h⟩ := xbnd h
    refine xs_gr (i := 433) (c := 15) (k := 32) (by decide +kernel) (by decide) (by decide +kernel) e117 rfl ?_
    refine xe_alr (ins := .aload_n 0) (len := 1) (i := 0) (by decide +kernel) rfl rfl rfl rfl rfl ?_
    refine xe_ldn (ins := .iload_n 1) (len := 1) (by decide +kernel) rfl rfl rfl rfl ?_
    refine xe_ldn (ins := .iload_n 3) (len := 1) (by decide +kernel) rfl rfl rfl rfl ?_
    refine xe_iconst (n := 1) (by decide +kernel) rfl ?_
    refine xe_iadd (by decide +kernel) rfl ?_
    obtain ⟨_, e119, h⟩ := xbnd h
    obtain ⟨R120, e118, h⟩ := xbnd h
    refine xs_cv (i := 436) (j := 261) (ar := [xI (xwr ((x3) + (1))), xI (x1)]) (rest := [xR_ (v116), xI (xwr ((R114.1) + (x4))), xR_ (v110)]) (r2 := xr_261) (by decide +kernel) (by decide +kernel) (by decide +kernel) xr_261_e rfl (by decide) (by simp only [List.map_cons, List.map_nil, List.sum_cons, List.sum_nil, xR_cat, xI_cat, xZ_cat]; decide) e119 ?_
    refine xc_i (k261 (d := d + 0)  hx1 (xin_wr _) e118) rfl (fun hi121 => ?_)
    refine xe_ldn (ins := .iload 4) (len := 2) (by decide +kernel) rfl rfl rfl rfl ?_
    refine xe_iadd (by decide +kernel) rfl ?_
    obtain ⟨v122, e123, h⟩ := xbnd h
    refine xs_lald (by decide +kernel) (xin_wr _) e123 rfl ?_
    obtain ⟨M124, e125, h⟩ := xbnd h
    refine xs_last (by decide +kernel) (xin_wr _) e125 rfl ?_
    refine xe_iincr (i := 4) (n := 1) (by decide +kernel) (by decide) rfl (xk_k (show ¬ (0 : Nat) = 4 by decide) (Or.inl (show ¬ (0 + 1 : Nat) = 4 by decide)) (xk_k (show ¬ (1 : Nat) = 4 by decide) (Or.inl (show ¬ (1 + 1 : Nat) = 4 by decide)) (xk_k (show ¬ (3 : Nat) = 4 by decide) (Or.inr (xI_cat _)) (xk_d rfl xk_n)))) rfl ?_
    refine xe_goto (off := -39) (nx := 25) (by decide +kernel) (by decide) ?_
    refine xW_lv rfl (l := [(0, xR_ (x0)), (1, xI (x1)), (3, xI (x3)), (4, xI (xwr ((x4) + (1))))]) (xsb_of ⟨rfl, rfl, rfl, rfl, trivial⟩ (show [4, 0, 1, 3].Nodup by decide)) ?_
    exact hr25 hx1 hx3 (xin_wr _) h
def f265_25  (r12 : Nat → Int → Int → xj_M → Option (xj_M)) (f : Nat) : Nat → Nat → Int → Int → Int → xj_M → Option (xj_M)
  | 0, _, _, _, _, _ => none
  | n + 1, x0, x1, x3, x4, M => f265_25b  r12 (f265_25  r12 f n) f x0 x1 x3 x4 M
theorem k265_25 {d f : Nat}  {r12 : Nat → Int → Int → xj_M → Option (xj_M)}  (hr12 : ∀ {x0 : Nat} {x1 : Int} {x3 : Int} {M : xj_M} {R : xj_M}, xin x1 → xin x3 → r12 x0 x1 x3 M = some R → xW (d + 1) (none, d + 1, none) xr_265 (12, [(0, xR_ x0), (1, xI x1), (3, xI x3)], [], M) (xQv R)) : ∀ {n : Nat} {x0 : Nat} {x1 : Int} {x3 : Int} {x4 : Int} {M : xj_M} {R : xj_M}, xin x1 → xin x3 → xin x4 → f265_25  r12 f n x0 x1 x3 x4 M = some R → xW (d + 1) (none, d + 1, none) xr_265 (25, [(0, xR_ x0), (1, xI x1), (3, xI x3), (4, xI x4)], [], M) (xQv R) := by
  intro n
  induction n with
  | zero => intros; rename_i h; cases h
  | succ n ih => intros; rename_i h; exact k265_25b  hr12 ih (by assumption) (by assumption) (by assumption) h
def f265_12b  (r12 : Nat → Int → Int → xj_M → Option (xj_M)) (f : Nat) (x0 : Nat) (x1 : Int) (x3 : Int) (M : xj_M) : Option (xj_M) := ((xq_gr 15 33 (x0) M).bind fun v126 => ((xq_ai 3 (v126) (x1) M).bind fun v128 => (if (v128) ≤ (x3) then (some M) else f265_25  r12 f f (x0) (x1) (x3) (0) M)))
theorem k265_12b {d f : Nat}  {r12 : Nat → Int → Int → xj_M → Option (xj_M)}  (hr12 : ∀ {x0 : Nat} {x1 : Int} {x3 : Int} {M : xj_M} {R : xj_M}, xin x1 → xin x3 → r12 x0 x1 x3 M = some R → xW (d + 1) (none, d + 1, none) xr_265 (12, [(0, xR_ x0), (1, xI x1), (3, xI x3)], [], M) (xQv R)) {x0 : Nat} {x1 : Int} {x3 : Int} {M : xj_M} {R : xj_M} (hx1 : xin x1) (hx3 : xin x3) (h : f265_12b  r12 f x0 x1 x3 M = some R) : xW (d + 1) (none, d + 1, none) xr_265 (12, [(0, xR_ x0), (1, xI x1), (3, xI x3)], [], M) (xQv R) := by
  unfold f265_12b at h
  refine xe_ldn (ins := .iload_n 3) (len := 1) (by decide +kernel) rfl rfl rfl rfl ?_
  refine xe_alr (ins := .aload_n 0) (len := 1) (i := 0) (by decide +kernel) rfl rfl rfl rfl rfl ?_
  obtain ⟨v126, e127, h⟩ := xbnd h
  refine xs_gr (i := 430) (c := 15) (k := 33) (by decide +kernel) (by decide) (by decide +kernel) e127 rfl ?_
  refine xe_ldn (ins := .iload_n 1) (len := 1) (by decide +kernel) rfl rfl rfl rfl ?_
  obtain ⟨v128, e129, h⟩ := xbnd h
  refine xs_iald rfl (by decide +kernel) hx1 e129 rfl ?_
  refine xe_icmpge (off := 80) (t := 99) (by decide +kernel) (by decide) rfl hx3 (xq_ai_in e129) (fun c130 => ?_) (fun c130 => ?_)
  · rw [if_pos c130] at h
    cases h
    exact xe_ret_v (by decide +kernel) rfl ⟨rfl, rfl⟩
  · rw [if_neg c130] at h
    refine xe_iconst (n := 0) (by decide +kernel) rfl ?_
    refine xe_isr (ins := .istore 4) (len := 2) (i := 4) (by decide +kernel) rfl rfl rfl (by decide) (xk_k (show ¬ (0 : Nat) = 4 by decide) (Or.inl (show ¬ (0 + 1 : Nat) = 4 by decide)) (xk_k (show ¬ (1 : Nat) = 4 by decide) (Or.inl (show ¬ (1 + 1 : Nat) = 4 by decide)) (xk_k (show ¬ (3 : Nat) = 4 by decide) (Or.inr (xI_cat _)) xk_n))) rfl ?_
    refine xW_lv rfl (l := [(0, xR_ (x0)), (1, xI (x1)), (3, xI (x3)), (4, xI (0))]) (xsb_of ⟨rfl, rfl, rfl, rfl, trivial⟩ (show [4, 0, 1, 3].Nodup by decide)) ?_
    exact k265_25  hr12 hx1 hx3 (show xin (0) by decide) h
def f265_12   (f : Nat) : Nat → Nat → Int → Int → xj_M → Option (xj_M)
  | 0, _, _, _, _ => none
  | n + 1, x0, x1, x3, M => f265_12b   (f265_12   f n) f x0 x1 x3 M
theorem k265_12 {d f : Nat}     : ∀ {n : Nat} {x0 : Nat} {x1 : Int} {x3 : Int} {M : xj_M} {R : xj_M}, xin x1 → xin x3 → f265_12   f n x0 x1 x3 M = some R → xW (d + 1) (none, d + 1, none) xr_265 (12, [(0, xR_ x0), (1, xI x1), (3, xI x3)], [], M) (xQv R) := by
  intro n
  induction n with
  | zero => intros; rename_i h; cases h
  | succ n ih => intros; rename_i h; exact k265_12b   ih (by assumption) (by assumption) h
def f265  (f : Nat) (a0 : Nat) (a1 : Int) (a2 : Int) (M : xj_M) : Option (xj_M) := ((xq_gr 15 33 (a0) M).bind fun v131 => ((xq_ai 3 (v131) (a1) M).bind fun v133 => ((xq_si (v131) (a1) (xwr ((v133) - (1))) M).bind fun M135 => f265_12   f f (a0) (a1) (a2) M135)))
theorem k265 {d f : Nat}   {a0 : Nat} {a1 : Int} {a2 : Int} {M : xj_M} {R : xj_M} (ha1 : xin a1) (ha2 : xin a2) (h : f265  f a0 a1 a2 M = some R) : xT (d + 2) 265 [xR_ a0, xI a1, xI a2] M (xQv R) := by
  refine xT_m xr_265_e (X := (none, d + 1, none)) rfl (xa_1 (xR_cat _) (xa_1 (xI_cat _) (xa_1 (xI_cat _) xa_n))) (by decide) ?_
  unfold f265 at h
  refine xe_alr (ins := .aload_n 0) (len := 1) (i := 0) (by decide +kernel) rfl rfl rfl rfl rfl ?_
  obtain ⟨v131, e132, h⟩ := xbnd h
  refine xs_gr (i := 430) (c := 15) (k := 33) (by decide +kernel) (by decide) (by decide +kernel) e132 rfl ?_
  refine xe_ldn (ins := .iload_n 1) (len := 1) (by decide +kernel) rfl rfl rfl rfl ?_
  refine xe_dup2r (xI_cat _) (xR_cat _) (by decide +kernel) rfl ?_
  obtain ⟨v133, e134, h⟩ := xbnd h
  refine xs_iald rfl (by decide +kernel) ha1 e134 rfl ?_
  refine xe_iconst (n := 1) (by decide +kernel) rfl ?_
  refine xe_isub (by decide +kernel) rfl ?_
  obtain ⟨M135, e136, h⟩ := xbnd h
  refine xs_iast (by decide +kernel) ha1 e136 rfl ?_
  refine xe_ldn (ins := .iload_n 2) (len := 1) (by decide +kernel) rfl rfl rfl rfl ?_
  refine xe_isr (ins := .istore_n 3) (len := 1) (i := 3) (by decide +kernel) rfl rfl rfl (by decide) (xk_k (show ¬ (0 : Nat) = 3 by decide) (Or.inl (show ¬ (0 + 1 : Nat) = 3 by decide)) (xk_k (show ¬ (1 : Nat) = 3 by decide) (Or.inl (show ¬ (1 + 1 : Nat) = 3 by decide)) (xk_k (show ¬ (2 : Nat) = 3 by decide) (Or.inr (xI_cat _)) xk_n))) rfl ?_
  refine xW_lv rfl (l := [(0, xR_ (a0)), (1, xI (a1)), (3, xI (a2))]) (xsb_of ⟨rfl, rfl, rfl, trivial⟩ (show [3, 0, 1, 2].Nodup by decide)) ?_
  exact k265_12   ha1 ha2 h
-- ChangeHouseModel.isWordValue
def xr_267 : xj_mR := (15, yX15_isWordValue, cX15_isWordValue, 2, (Option.some Jvm.ClassFile.FieldType.boolean), 1, false, (9, 198), (1, 12))
set_option maxRecDepth 20000 in
theorem xr_267_e : xj_row 267 = some xr_267 := rfl
def f267_13   (f : Nat) (y0 : Int) (M : xj_M) : Option (Int × xj_M) := (if (y0) = 0 ∨ (y0) = 1 then some (y0, M) else none)
theorem k267_13 {d f : Nat}     {y0 : Int} {M : xj_M} {R : Int × xj_M} (hy0 : xin y0) (h : f267_13   f y0 M = some R) : xW (d + 0) (none, d + 0, none) xr_267 (13, [], [xI y0], M) (xQi R) := by
  unfold f267_13 at h
  by_cases c101 : (y0) = 0 ∨ (y0) = 1
  · rw [if_pos c101] at h; cases h; exact xe_ret_i (ty := .boolean) (by decide +kernel) rfl (xbool c101) ⟨rfl, rfl, hy0⟩
  · rw [if_neg c101] at h; cases h
def f267  (f : Nat) (a0 : Int) (M : xj_M) : Option (Int × xj_M) := (if (a0) < (2000000000000) then f267_13   f (0) M else f267_13   f (1) M)
theorem k267 {d f : Nat}   {a0 : Int} {M : xj_M} {R : Int × xj_M} (ha0 : xiN a0) (h : f267  f a0 M = some R) : xT (d + 1) 267 [xZ a0] M (xQi R) := by
  refine xT_m xr_267_e (X := (none, d + 0, none)) rfl (xa_2 (xZ_cat _) xa_n) (by decide) ?_
  unfold f267 at h
  refine xe_ldn (ins := .lload_n 0) (len := 1) (by decide +kernel) rfl rfl rfl rfl ?_
  refine xe_ldc2 (i := 87) (n := 2000000000000) (by decide +kernel) (by decide +kernel) rfl ?_
  refine xe_lcmp (by decide +kernel) rfl ha0 (show xiN (2000000000000) by decide) ?_
  refine xe_iflt (off := 7) (t := 12) (by decide +kernel) (by decide) rfl (xin_cmp8 _ _) (fun c102 => ?_) (fun c102 => ?_)
  · have c102 := xcmp8_lt.mp c102; rw [if_pos c102] at h
    refine xe_iconst (n := 0) (by decide +kernel) rfl ?_
    refine xW_lv rfl (l := []) (xsb_of trivial (show [0].Nodup by decide)) ?_
    exact k267_13   (show xin (0) by decide) h
  · have c102 := (not_congr xcmp8_lt).mp c102; rw [if_neg c102] at h
    refine xe_iconst (n := 1) (by decide +kernel) rfl ?_
    refine xe_goto (off := 4) (nx := 13) (by decide +kernel) (by decide) ?_
    refine xW_lv rfl (l := []) (xsb_of trivial (show [0].Nodup by decide)) ?_
    exact k267_13   (show xin (1) by decide) h
