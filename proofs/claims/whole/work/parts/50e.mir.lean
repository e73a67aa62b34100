/-! Mirrors (written by mk_mir.py) -/
-- ChangeHouseModel.findMeeting
def xr_327 : xj_mR := (15, yX15_findMeeting, cX15_findMeeting, 11, (Option.some Jvm.ClassFile.FieldType.boolean), 2, false, (10, 237), (1, 12))
set_option maxRecDepth 20000 in
theorem xr_327_e : xj_row 327 = some xr_327 := rfl
def f327_363  (r2 : Nat → Nat → Nat → Int → xj_M → Option (Int × xj_M)) (f : Nat) (x0 : Nat) (x1 : Nat) (x2 : Nat) (x3 : Int) (M : xj_M) : Option (Int × xj_M) := r2 (x0) (x1) (x2) (xwr ((x3) + (1))) M
theorem k327_363 {d f : Nat}  {r2 : Nat → Nat → Nat → Int → xj_M → Option (Int × xj_M)}  (hr2 : ∀ {x0 : Nat} {x1 : Nat} {x2 : Nat} {x3 : Int} {M : xj_M} {R : Int × xj_M}, xin x3 → r2 x0 x1 x2 x3 M = some R → xW (d + 3) (none, d + 3, none) xr_327 (2, [(0, xR_ x0), (1, xR_ x1), (2, xR_ x2), (3, xI x3)], [], M) (xQi R)) {x0 : Nat} {x1 : Nat} {x2 : Nat} {x3 : Int} {M : xj_M} {R : Int × xj_M} (hx3 : xin x3) (h : f327_363  r2 f x0 x1 x2 x3 M = some R) : xW (d + 3) (none, d + 3, none) xr_327 (363, [(0, xR_ x0), (1, xR_ x1), (2, xR_ x2), (3, xI x3)], [], M) (xQi R) := by
  unfold f327_363 at h
  refine xe_iincr (i := 3) (n := 1) (by decide +kernel) (by decide) rfl (xk_k (show ¬ (0 : Nat) = 3 by decide) (Or.inl (show ¬ (0 + 1 : Nat) = 3 by decide)) (xk_k (show ¬ (1 : Nat) = 3 by decide) (Or.inl (show ¬ (1 + 1 : Nat) = 3 by decide)) (xk_k (show ¬ (2 : Nat) = 3 by decide) (Or.inr (xR_cat _)) (xk_d rfl xk_n)))) rfl ?_
  refine xe_goto (off := -364) (nx := 2) (by decide +kernel) (by decide) ?_
  refine xW_lv rfl (l := [(0, xR_ (x0)), (1, xR_ (x1)), (2, xR_ (x2)), (3, xI (xwr ((x3) + (1))))]) (xsb_of ⟨rfl, rfl, rfl, rfl, trivial⟩ (show [3, 0, 1, 2].Nodup by decide)) ?_
  exact hr2 (xin_wr _) h
def f327_293b  (r293 : Nat → Nat → Int → Int → xj_M → Option (Int × xj_M)) (f : Nat) (x0 : Nat) (x7 : Nat) (x8 : Int) (x10 : Int) (M : xj_M) : Option (Int × xj_M) := ((xq_gi 15 83 (x0) M).bind fun v101 => (if (v101) ≤ (x10) then (some (1, M)) else ((xq_gr 15 81 (x0) M).bind fun v104 => ((xq_gr 12 1 (x7) M).bind fun v106 => ((xq_al (v106) (xwr ((xwr ((4) * (x8))) + (x10))) M).bind fun v108 => ((xq_sl (v104) (x10) (v108) M).bind fun M110 => r293 (x0) (x7) (x8) (xwr ((x10) + (1))) M110))))))
theorem k327_293b {d f : Nat}  {r293 : Nat → Nat → Int → Int → xj_M → Option (Int × xj_M)}  (hr293 : ∀ {x0 : Nat} {x7 : Nat} {x8 : Int} {x10 : Int} {M : xj_M} {R : Int × xj_M}, xin x8 → xin x10 → r293 x0 x7 x8 x10 M = some R → xW (d + 3) (none, d + 3, none) xr_327 (293, [(0, xR_ x0), (7, xR_ x7), (8, xI x8), (10, xI x10)], [], M) (xQi R)) {x0 : Nat} {x7 : Nat} {x8 : Int} {x10 : Int} {M : xj_M} {R : Int × xj_M} (hx8 : xin x8) (hx10 : xin x10) (h : f327_293b  r293 f x0 x7 x8 x10 M = some R) : xW (d + 3) (none, d + 3, none) xr_327 (293, [(0, xR_ x0), (7, xR_ x7), (8, xI x8), (10, xI x10)], [], M) (xQi R) := by
  unfold f327_293b at h
  refine xe_ldn (ins := .iload 10) (len := 2) (by decide +kernel) rfl rfl rfl rfl ?_
  refine xe_alr (ins := .aload_n 0) (len := 1) (i := 0) (by decide +kernel) rfl rfl rfl rfl rfl ?_
  obtain ⟨v101, e102, h⟩ := xbnd h
  refine xs_gi (i := 929) (c := 15) (k := 83) (by decide +kernel) (by decide) (by decide +kernel) e102 rfl ?_
  refine xe_icmpge (off := 29) (t := 328) (by decide +kernel) (by decide) rfl hx10 (xq_gi_in e102) (fun c103 => ?_) (fun c103 => ?_)
  · rw [if_pos c103] at h
    refine xe_iconst (n := 1) (by decide +kernel) rfl ?_
    cases h
    exact xe_ret_i (ty := .boolean) (by decide +kernel) rfl (by decide) ⟨rfl, rfl, (show xin (1) by decide)⟩
  · rw [if_neg c103] at h
    refine xe_alr (ins := .aload_n 0) (len := 1) (i := 0) (by decide +kernel) rfl rfl rfl rfl rfl ?_
    obtain ⟨v104, e105, h⟩ := xbnd h
    refine xs_gr (i := 932) (c := 15) (k := 81) (by decide +kernel) (by decide) (by decide +kernel) e105 rfl ?_
    refine xe_ldn (ins := .iload 10) (len := 2) (by decide +kernel) rfl rfl rfl rfl ?_
    refine xe_alr (ins := .aload 7) (len := 2) (i := 7) (by decide +kernel) rfl rfl rfl rfl rfl ?_
    obtain ⟨v106, e107, h⟩ := xbnd h
    refine xs_gr (i := 696) (c := 12) (k := 1) (by decide +kernel) (by decide) (by decide +kernel) e107 rfl ?_
    refine xe_iconst (n := 4) (by decide +kernel) rfl ?_
    refine xe_ldn (ins := .iload 8) (len := 2) (by decide +kernel) rfl rfl rfl rfl ?_
    refine xe_imul (by decide +kernel) rfl ?_
    refine xe_ldn (ins := .iload 10) (len := 2) (by decide +kernel) rfl rfl rfl rfl ?_
    refine xe_iadd (by decide +kernel) rfl ?_
    obtain ⟨v108, e109, h⟩ := xbnd h
    refine xs_lald (by decide +kernel) (xin_wr _) e109 rfl ?_
    obtain ⟨M110, e111, h⟩ := xbnd h
    refine xs_last (by decide +kernel) hx10 e111 rfl ?_
    refine xe_iincr (i := 10) (n := 1) (by decide +kernel) (by decide) rfl (xk_k (show ¬ (0 : Nat) = 10 by decide) (Or.inl (show ¬ (0 + 1 : Nat) = 10 by decide)) (xk_k (show ¬ (7 : Nat) = 10 by decide) (Or.inl (show ¬ (7 + 1 : Nat) = 10 by decide)) (xk_k (show ¬ (8 : Nat) = 10 by decide) (Or.inl (show ¬ (8 + 1 : Nat) = 10 by decide)) (xk_d rfl xk_n)))) rfl ?_
    refine xe_goto (off := -32) (nx := 293) (by decide +kernel) (by decide) ?_
    refine xW_lv rfl (l := [(0, xR_ (x0)), (7, xR_ (x7)), (8, xI (x8)), (10, xI (xwr ((x10) + (1))))]) (xsb_of ⟨rfl, rfl, rfl, rfl, trivial⟩ (show [10, 0, 7, 8].Nodup by decide)) ?_
    exact hr293 hx8 (xin_wr _) h
def f327_293   (f : Nat) : Nat → Nat → Nat → Int → Int → xj_M → Option (Int × xj_M)
  | 0, _, _, _, _, _ => none
  | n + 1, x0, x7, x8, x10, M => f327_293b   (f327_293   f n) f x0 x7 x8 x10 M
theorem k327_293 {d f : Nat}     : ∀ {n : Nat} {x0 : Nat} {x7 : Nat} {x8 : Int} {x10 : Int} {M : xj_M} {R : Int × xj_M}, xin x8 → xin x10 → f327_293   f n x0 x7 x8 x10 M = some R → xW (d + 3) (none, d + 3, none) xr_327 (293, [(0, xR_ x0), (7, xR_ x7), (8, xI x8), (10, xI x10)], [], M) (xQi R) := by
  intro n
  induction n with
  | zero => intros; rename_i h; cases h
  | succ n ih => intros; rename_i h; exact k327_293b   ih (by assumption) (by assumption) h
def f327_357  (r2 : Nat → Nat → Nat → Int → xj_M → Option (Int × xj_M)) (r46 : Nat → Nat → Nat → Int → Int → Int → xj_M → Option (Int × xj_M)) (f : Nat) (x0 : Nat) (x1 : Nat) (x2 : Nat) (x3 : Int) (x4 : Int) (y0 : Int) (y1 : Int) (M : xj_M) : Option (Int × xj_M) := r46 (x0) (x1) (x2) (x3) (x4) (xwr ((y1) + (y0))) M
theorem k327_357 {d f : Nat}  {r2 : Nat → Nat → Nat → Int → xj_M → Option (Int × xj_M)} {r46 : Nat → Nat → Nat → Int → Int → Int → xj_M → Option (Int × xj_M)}  (hr2 : ∀ {x0 : Nat} {x1 : Nat} {x2 : Nat} {x3 : Int} {M : xj_M} {R : Int × xj_M}, xin x3 → r2 x0 x1 x2 x3 M = some R → xW (d + 3) (none, d + 3, none) xr_327 (2, [(0, xR_ x0), (1, xR_ x1), (2, xR_ x2), (3, xI x3)], [], M) (xQi R)) (hr46 : ∀ {x0 : Nat} {x1 : Nat} {x2 : Nat} {x3 : Int} {x4 : Int} {x5 : Int} {M : xj_M} {R : Int × xj_M}, xin x3 → xin x4 → xin x5 → r46 x0 x1 x2 x3 x4 x5 M = some R → xW (d + 3) (none, d + 3, none) xr_327 (46, [(0, xR_ x0), (1, xR_ x1), (2, xR_ x2), (3, xI x3), (4, xI x4), (5, xI x5)], [], M) (xQi R)) {x0 : Nat} {x1 : Nat} {x2 : Nat} {x3 : Int} {x4 : Int} {y0 : Int} {y1 : Int} {M : xj_M} {R : Int × xj_M} (hx3 : xin x3) (hx4 : xin x4) (hy0 : xin y0) (hy1 : xin y1) (h : f327_357  r2 r46 f x0 x1 x2 x3 x4 y0 y1 M = some R) : xW (d + 3) (none, d + 3, none) xr_327 (357, [(0, xR_ x0), (1, xR_ x1), (2, xR_ x2), (3, xI x3), (4, xI x4)], [xI y0, xI y1], M) (xQi R) := by
  unfold f327_357 at h
  refine xe_iadd (by decide +kernel) rfl ?_
  refine xe_isr (ins := .istore 5) (len := 2) (i := 5) (by decide +kernel) rfl rfl rfl (by decide) (xk_k (show ¬ (0 : Nat) = 5 by decide) (Or.inl (show ¬ (0 + 1 : Nat) = 5 by decide)) (xk_k (show ¬ (1 : Nat) = 5 by decide) (Or.inl (show ¬ (1 + 1 : Nat) = 5 by decide)) (xk_k (show ¬ (2 : Nat) = 5 by decide) (Or.inl (show ¬ (2 + 1 : Nat) = 5 by decide)) (xk_k (show ¬ (3 : Nat) = 5 by decide) (Or.inl (show ¬ (3 + 1 : Nat) = 5 by decide)) (xk_k (show ¬ (4 : Nat) = 5 by decide) (Or.inr (xI_cat _)) xk_n))))) rfl ?_
  refine xe_goto (off := -314) (nx := 46) (by decide +kernel) (by decide) ?_
  refine xW_lv rfl (l := [(0, xR_ (x0)), (1, xR_ (x1)), (2, xR_ (x2)), (3, xI (x3)), (4, xI (x4)), (5, xI (xwr ((y1) + (y0))))]) (xsb_of ⟨rfl, rfl, rfl, rfl, rfl, rfl, trivial⟩ (show [5, 0, 1, 2, 3, 4].Nodup by decide)) ?_
  exact hr46 hx3 hx4 (xin_wr _) h
def f327_342  (r2 : Nat → Nat → Nat → Int → xj_M → Option (Int × xj_M)) (r46 : Nat → Nat → Nat → Int → Int → Int → xj_M → Option (Int × xj_M)) (f : Nat) (x0 : Nat) (x1 : Nat) (x2 : Nat) (x3 : Int) (x5 : Int) (x6 : Int) (y0 : Int) (y1 : Int) (M : xj_M) : Option (Int × xj_M) := (if (x6) < 0 then f327_357  r2 r46 f (x0) (x1) (x2) (x3) (xwr ((y1) + (y0))) (0) (x5) M else f327_357  r2 r46 f (x0) (x1) (x2) (x3) (xwr ((y1) + (y0))) (1) (x5) M)
theorem k327_342 {d f : Nat}  {r2 : Nat → Nat → Nat → Int → xj_M → Option (Int × xj_M)} {r46 : Nat → Nat → Nat → Int → Int → Int → xj_M → Option (Int × xj_M)}  (hr2 : ∀ {x0 : Nat} {x1 : Nat} {x2 : Nat} {x3 : Int} {M : xj_M} {R : Int × xj_M}, xin x3 → r2 x0 x1 x2 x3 M = some R → xW (d + 3) (none, d + 3, none) xr_327 (2, [(0, xR_ x0), (1, xR_ x1), (2, xR_ x2), (3, xI x3)], [], M) (xQi R)) (hr46 : ∀ {x0 : Nat} {x1 : Nat} {x2 : Nat} {x3 : Int} {x4 : Int} {x5 : Int} {M : xj_M} {R : Int × xj_M}, xin x3 → xin x4 → xin x5 → r46 x0 x1 x2 x3 x4 x5 M = some R → xW (d + 3) (none, d + 3, none) xr_327 (46, [(0, xR_ x0), (1, xR_ x1), (2, xR_ x2), (3, xI x3), (4, xI x4), (5, xI x5)], [], M) (xQi R)) {x0 : Nat} {x1 : Nat} {x2 : Nat} {x3 : Int} {x5 : Int} {x6 : Int} {y0 : Int} {y1 : Int} {M : xj_M} {R : Int × xj_M} (hx3 : xin x3) (hx5 : xin x5) (hx6 : xin x6) (hy0 : xin y0) (hy1 : xin y1) (h : f327_342  r2 r46 f x0 x1 x2 x3 x5 x6 y0 y1 M = some R) : xW (d + 3) (none, d + 3, none) xr_327 (342, [(0, xR_ x0), (1, xR_ x1), (2, xR_ x2), (3, xI x3), (5, xI x5), (6, xI x6)], [xI y0, xI y1], M) (xQi R) := by
  unfold f327_342 at h
  refine xe_iadd (by decide +kernel) rfl ?_
  refine xe_isr (ins := .istore 4) (len := 2) (i := 4) (by decide +kernel) rfl rfl rfl (by decide) (xk_k (show ¬ (0 : Nat) = 4 by decide) (Or.inl (show ¬ (0 + 1 : Nat) = 4 by decide)) (xk_k (show ¬ (1 : Nat) = 4 by decide) (Or.inl (show ¬ (1 + 1 : Nat) = 4 by decide)) (xk_k (show ¬ (2 : Nat) = 4 by decide) (Or.inl (show ¬ (2 + 1 : Nat) = 4 by decide)) (xk_k (show ¬ (3 : Nat) = 4 by decide) (Or.inr (xI_cat _)) (xk_k (show ¬ (5 : Nat) = 4 by decide) (Or.inl (show ¬ (5 + 1 : Nat) = 4 by decide)) (xk_k (show ¬ (6 : Nat) = 4 by decide) (Or.inl (show ¬ (6 + 1 : Nat) = 4 by decide)) xk_n)))))) rfl ?_
  refine xe_ldn (ins := .iload 5) (len := 2) (by decide +kernel) rfl rfl rfl rfl ?_
  refine xe_ldn (ins := .iload 6) (len := 2) (by decide +kernel) rfl rfl rfl rfl ?_
  refine xe_iflt (off := 7) (t := 356) (by decide +kernel) (by decide) rfl hx6 (fun c112 => ?_) (fun c112 => ?_)
  · rw [if_pos c112] at h
    refine xe_iconst (n := 0) (by decide +kernel) rfl ?_
    refine xW_lv rfl (l := [(0, xR_ (x0)), (1, xR_ (x1)), (2, xR_ (x2)), (3, xI (x3)), (4, xI (xwr ((y1) + (y0))))]) (xsb_of ⟨rfl, rfl, rfl, rfl, rfl, trivial⟩ (show [4, 0, 1, 2, 3, 5, 6].Nodup by decide)) ?_
    exact k327_357  hr2 hr46 hx3 (xin_wr _) (show xin (0) by decide) hx5 h
  · rw [if_neg c112] at h
    refine xe_iconst (n := 1) (by decide +kernel) rfl ?_
    refine xe_goto (off := 4) (nx := 357) (by decide +kernel) (by decide) ?_
    refine xW_lv rfl (l := [(0, xR_ (x0)), (1, xR_ (x1)), (2, xR_ (x2)), (3, xI (x3)), (4, xI (xwr ((y1) + (y0))))]) (xsb_of ⟨rfl, rfl, rfl, rfl, rfl, trivial⟩ (show [4, 0, 1, 2, 3, 5, 6].Nodup by decide)) ?_
    exact k327_357  hr2 hr46 hx3 (xin_wr _) (show xin (1) by decide) hx5 h
def f327_330  (r2 : Nat → Nat → Nat → Int → xj_M → Option (Int × xj_M)) (r46 : Nat → Nat → Nat → Int → Int → Int → xj_M → Option (Int × xj_M)) (f : Nat) (x0 : Nat) (x1 : Nat) (x2 : Nat) (x3 : Int) (x4 : Int) (x5 : Int) (x6 : Int) (M : xj_M) : Option (Int × xj_M) := (if 0 < (x6) then f327_342  r2 r46 f (x0) (x1) (x2) (x3) (x5) (x6) (0) (x4) M else f327_342  r2 r46 f (x0) (x1) (x2) (x3) (x5) (x6) (1) (x4) M)
theorem k327_330 {d f : Nat}  {r2 : Nat → Nat → Nat → Int → xj_M → Option (Int × xj_M)} {r46 : Nat → Nat → Nat → Int → Int → Int → xj_M → Option (Int × xj_M)}  (hr2 : ∀ {x0 : Nat} {x1 : Nat} {x2 : Nat} {x3 : Int} {M : xj_M} {R : Int × xj_M}, xin x3 → r2 x0 x1 x2 x3 M = some R → xW (d + 3) (none, d + 3, none) xr_327 (2, [(0, xR_ x0), (1, xR_ x1), (2, xR_ x2), (3, xI x3)], [], M) (xQi R)) (hr46 : ∀ {x0 : Nat} {x1 : Nat} {x2 : Nat} {x3 : Int} {x4 : Int} {x5 : Int} {M : xj_M} {R : Int × xj_M}, xin x3 → xin x4 → xin x5 → r46 x0 x1 x2 x3 x4 x5 M = some R → xW (d + 3) (none, d + 3, none) xr_327 (46, [(0, xR_ x0), (1, xR_ x1), (2, xR_ x2), (3, xI x3), (4, xI x4), (5, xI x5)], [], M) (xQi R)) {x0 : Nat} {x1 : Nat} {x2 : Nat} {x3 : Int} {x4 : Int} {x5 : Int} {x6 : Int} {M : xj_M} {R : Int × xj_M} (hx3 : xin x3) (hx4 : xin x4) (hx5 : xin x5) (hx6 : xin x6) (h : f327_330  r2 r46 f x0 x1 x2 x3 x4 x5 x6 M = some R) : xW (d + 3) (none, d + 3, none) xr_327 (330, [(0, xR_ x0), (1, xR_ x1), (2, xR_ x2), (3, xI x3), (4, xI x4), (5, xI x5), (6, xI x6)], [], M) (xQi R) := by
  unfold f327_330 at h
  refine xe_ldn (ins := .iload 4) (len := 2) (by decide +kernel) rfl rfl rfl rfl ?_
  refine xe_ldn (ins := .iload 6) (len := 2) (by decide +kernel) rfl rfl rfl rfl ?_
  refine xe_ifgt (off := 7) (t := 341) (by decide +kernel) (by decide) rfl hx6 (fun c113 => ?_) (fun c113 => ?_)
  · rw [if_pos c113] at h
    refine xe_iconst (n := 0) (by decide +kernel) rfl ?_
    refine xW_lv rfl (l := [(0, xR_ (x0)), (1, xR_ (x1)), (2, xR_ (x2)), (3, xI (x3)), (5, xI (x5)), (6, xI (x6))]) (xsb_of ⟨rfl, rfl, rfl, rfl, rfl, rfl, trivial⟩ (show [0, 1, 2, 3, 4, 5, 6].Nodup by decide)) ?_
    exact k327_342  hr2 hr46 hx3 hx5 hx6 (show xin (0) by decide) hx4 h
  · rw [if_neg c113] at h
    refine xe_iconst (n := 1) (by decide +kernel) rfl ?_
    refine xe_goto (off := 4) (nx := 342) (by decide +kernel) (by decide) ?_
    refine xW_lv rfl (l := [(0, xR_ (x0)), (1, xR_ (x1)), (2, xR_ (x2)), (3, xI (x3)), (5, xI (x5)), (6, xI (x6))]) (xsb_of ⟨rfl, rfl, rfl, rfl, rfl, rfl, trivial⟩ (show [0, 1, 2, 3, 4, 5, 6].Nodup by decide)) ?_
    exact k327_342  hr2 hr46 hx3 hx5 hx6 (show xin (1) by decide) hx4 h
def f327_251  (r2 : Nat → Nat → Nat → Int → xj_M → Option (Int × xj_M)) (r46 : Nat → Nat → Nat → Int → Int → Int → xj_M → Option (Int × xj_M)) (f : Nat) (x0 : Nat) (x1 : Nat) (x2 : Nat) (x3 : Int) (x4 : Int) (x5 : Int) (x6 : Int) (x7 : Nat) (x8 : Int) (y0 : Int) (M : xj_M) : Option (Int × xj_M) := (if (y0) = 0 then f327_330  r2 r46 f (x0) (x1) (x2) (x3) (x4) (x5) (x6) M else ((xq_is 15 (x0) M).bind fun _ => ((f325  f (x0) (x1) (x2) (x3) (x7) (x8) M).bind fun R117 => (if (R117.1) = 0 then f327_330  r2 r46 f (x0) (x1) (x2) (x3) (x4) (x5) (x6) R117.2 else ((xq_pi 15 82 (x0) (x3) R117.2).bind fun M120 => ((xq_gr 15 29 (x0) M120).bind fun v122 => ((xq_gr 14 2 (v122) M120).bind fun v124 => ((xq_ai 3 (v124) (x3) M120).bind fun v126 => ((xq_pi 15 83 (x0) (v126) M120).bind fun M128 => f327_293   f f (x0) (x7) (x8) (0) M128)))))))))
theorem k327_251 {d f : Nat}  {r2 : Nat → Nat → Nat → Int → xj_M → Option (Int × xj_M)} {r46 : Nat → Nat → Nat → Int → Int → Int → xj_M → Option (Int × xj_M)}  (hr2 : ∀ {x0 : Nat} {x1 : Nat} {x2 : Nat} {x3 : Int} {M : xj_M} {R : Int × xj_M}, xin x3 → r2 x0 x1 x2 x3 M = some R → xW (d + 3) (none, d + 3, none) xr_327 (2, [(0, xR_ x0), (1, xR_ x1), (2, xR_ x2), (3, xI x3)], [], M) (xQi R)) (hr46 : ∀ {x0 : Nat} {x1 : Nat} {x2 : Nat} {x3 : Int} {x4 : Int} {x5 : Int} {M : xj_M} {R : Int × xj_M}, xin x3 → xin x4 → xin x5 → r46 x0 x1 x2 x3 x4 x5 M = some R → xW (d + 3) (none, d + 3, none) xr_327 (46, [(0, xR_ x0), (1, xR_ x1), (2, xR_ x2), (3, xI x3), (4, xI x4), (5, xI x5)], [], M) (xQi R)) {x0 : Nat} {x1 : Nat} {x2 : Nat} {x3 : Int} {x4 : Int} {x5 : Int} {x6 : Int} {x7 : Nat} {x8 : Int} {y0 : Int} {M : xj_M} {R : Int × xj_M} (hx3 : xin x3) (hx4 : xin x4) (hx5 : xin x5) (hx6 : xin x6) (hx8 : xin x8) (hy0 : xin y0) (h : f327_251  r2 r46 f x0 x1 x2 x3 x4 x5 x6 x7 x8 y0 M = some R) : xW (d + 3) (none, d + 3, none) xr_327 (251, [(0, xR_ x0), (1, xR_ x1), (2, xR_ x2), (3, xI x3), (4, xI x4), (5, xI x5), (6, xI x6), (7, xR_ x7), (8, xI x8)], [xI y0], M) (xQi R) := by
  unfold f327_251 at h
  refine xe_isr (ins := .istore 9) (len := 2) (i := 9) (by decide +kernel) rfl rfl rfl (by decide) (xk_k (show ¬ (0 : Nat) = 9 by decide) (Or.inl (show ¬ (0 + 1 : Nat) = 9 by decide)) (xk_k (show ¬ (1 : Nat) = 9 by decide) (Or.inl (show ¬ (1 + 1 : Nat) = 9 by decide)) (xk_k (show ¬ (2 : Nat) = 9 by decide) (Or.inl (show ¬ (2 + 1 : Nat) = 9 by decide)) (xk_k (show ¬ (3 : Nat) = 9 by decide) (Or.inl (show ¬ (3 + 1 : Nat) = 9 by decide)) (xk_k (show ¬ (4 : Nat) = 9 by decide) (Or.inl (show ¬ (4 + 1 : Nat) = 9 by decide)) (xk_k (show ¬ (5 : Nat) = 9 by decide) (Or.inl (show ¬ (5 + 1 : Nat) = 9 by decide)) (xk_k (show ¬ (6 : Nat) = 9 by decide) (Or.inl (show ¬ (6 + 1 : Nat) = 9 by decide)) (xk_k (show ¬ (7 : Nat) = 9 by decide) (Or.inl (show ¬ (7 + 1 : Nat) = 9 by decide)) (xk_k (show ¬ (8 : Nat) = 9 by decide) (Or.inr (xI_cat _)) xk_n))))))))) rfl ?_
  refine xe_ldn (ins := .iload 9) (len := 2) (by decide +kernel) rfl rfl rfl rfl ?_
  refine xe_ifeq (off := 75) (t := 330) (by decide +kernel) (by decide) rfl hy0 (fun c114 => ?_) (fun c114 => ?_)
  · rw [if_pos c114] at h
    refine xW_lv rfl (l := [(0, xR_ (x0)), (1, xR_ (x1)), (2, xR_ (x2)), (3, xI (x3)), (4, xI (x4)), (5, xI (x5)), (6, xI (x6))]) (xsb_of ⟨rfl, rfl, rfl, rfl, rfl, rfl, rfl, trivial⟩ (show [9, 0, 1, 2, 3, 4, 5, 6, 7, 8].Nodup by decide)) ?_
    exact k327_330  hr2 hr46 hx3 hx4 hx5 hx6 h
  · rw [if_neg c114] at h
    refine xe_alr (ins := .aload_n 0) (len := 1) (i := 0) (by decide +kernel) rfl rfl rfl rfl rfl ?_
    refine xe_alr (ins := .aload_n 1) (len := 1) (i := 1) (by decide +kernel) rfl rfl rfl rfl rfl ?_
    refine xe_alr (ins := .aload_n 2) (len := 1) (i := 2) (by decide +kernel) rfl rfl rfl rfl rfl ?_
    refine xe_ldn (ins := .iload_n 3) (len := 1) (by decide +kernel) rfl rfl rfl rfl ?_
    refine xe_alr (ins := .aload 7) (len := 2) (i := 7) (by decide +kernel) rfl rfl rfl rfl rfl ?_
    refine xe_ldn (ins := .iload 8) (len := 2) (by decide +kernel) rfl rfl rfl rfl ?_
    obtain ⟨_, e116, h⟩ := xbnd h
    obtain ⟨R117, e115, h⟩ := xbnd h
    refine xs_cv (i := 922) (j := 325) (ar := [xI (x8), xR_ (x7), xI (x3), xR_ (x2), xR_ (x1)]) (rest := []) (r2 := xr_325) (by decide +kernel) (by decide +kernel) (by decide +kernel) xr_325_e rfl (by decide) (by decide) e116 ?_
    refine xc_i (k325 (d := d + 0)  hx3 hx8 e115) rfl (fun hi118 => ?_)
    refine xe_ifeq (off := 61) (t := 330) (by decide +kernel) (by decide) rfl hi118 (fun c119 => ?_) (fun c119 => ?_)
    · rw [if_pos c119] at h
      refine xW_lv rfl (l := [(0, xR_ (x0)), (1, xR_ (x1)), (2, xR_ (x2)), (3, xI (x3)), (4, xI (x4)), (5, xI (x5)), (6, xI (x6))]) (xsb_of ⟨rfl, rfl, rfl, rfl, rfl, rfl, rfl, trivial⟩ (show [9, 0, 1, 2, 3, 4, 5, 6, 7, 8].Nodup by decide)) ?_
      exact k327_330  hr2 hr46 hx3 hx4 hx5 hx6 h
    · rw [if_neg c119] at h
      refine xe_alr (ins := .aload_n 0) (len := 1) (i := 0) (by decide +kernel) rfl rfl rfl rfl rfl ?_
      refine xe_ldn (ins := .iload_n 3) (len := 1) (by decide +kernel) rfl rfl rfl rfl ?_
      obtain ⟨M120, e121, h⟩ := xbnd h
      refine xs_p (i := 926) (c := 15) (k := 82) (by decide +kernel) (by decide +kernel) (by decide +kernel) e121 rfl ?_
      refine xe_alr (ins := .aload_n 0) (len := 1) (i := 0) (by decide +kernel) rfl rfl rfl rfl rfl ?_
      refine xe_alr (ins := .aload_n 0) (len := 1) (i := 0) (by decide +kernel) rfl rfl rfl rfl rfl ?_
      obtain ⟨v122, e123, h⟩ := xbnd h
      refine xs_gr (i := 439) (c := 15) (k := 29) (by decide +kernel) (by decide) (by decide +kernel) e123 rfl ?_
      obtain ⟨v124, e125, h⟩ := xbnd h
      refine xs_gr (i := 184) (c := 14) (k := 2) (by decide +kernel) (by decide) (by decide +kernel) e125 rfl ?_
      refine xe_ldn (ins := .iload_n 3) (len := 1) (by decide +kernel) rfl rfl rfl rfl ?_
      obtain ⟨v126, e127, h⟩ := xbnd h
      refine xs_iald rfl (by decide +kernel) hx3 e127 rfl ?_
      obtain ⟨M128, e129, h⟩ := xbnd h
      refine xs_p (i := 929) (c := 15) (k := 83) (by decide +kernel) (by decide +kernel) (by decide +kernel) e129 rfl ?_
      refine xe_iconst (n := 0) (by decide +kernel) rfl ?_
      refine xe_isr (ins := .istore 10) (len := 2) (i := 10) (by decide +kernel) rfl rfl rfl (by decide) (xk_k (show ¬ (9 : Nat) = 10 by decide) (Or.inr (xI_cat _)) (xk_k (show ¬ (0 : Nat) = 10 by decide) (Or.inl (show ¬ (0 + 1 : Nat) = 10 by decide)) (xk_k (show ¬ (1 : Nat) = 10 by decide) (Or.inl (show ¬ (1 + 1 : Nat) = 10 by decide)) (xk_k (show ¬ (2 : Nat) = 10 by decide) (Or.inl (show ¬ (2 + 1 : Nat) = 10 by decide)) (xk_k (show ¬ (3 : Nat) = 10 by decide) (Or.inl (show ¬ (3 + 1 : Nat) = 10 by decide)) (xk_k (show ¬ (4 : Nat) = 10 by decide) (Or.inl (show ¬ (4 + 1 : Nat) = 10 by decide)) (xk_k (show ¬ (5 : Nat) = 10 by decide) (Or.inl (show ¬ (5 + 1 : Nat) = 10 by decide)) (xk_k (show ¬ (6 : Nat) = 10 by decide) (Or.inl (show ¬ (6 + 1 : Nat) = 10 by decide)) (xk_k (show ¬ (7 : Nat) = 10 by decide) (Or.inl (show ¬ (7 + 1 : Nat) = 10 by decide)) (xk_k (show ¬ (8 : Nat) = 10 by decide) (Or.inl (show ¬ (8 + 1 : Nat) = 10 by decide)) xk_n)))))))))) rfl ?_
      refine xW_lv rfl (l := [(0, xR_ (x0)), (7, xR_ (x7)), (8, xI (x8)), (10, xI (0))]) (xsb_of ⟨rfl, rfl, rfl, rfl, trivial⟩ (show [10, 9, 0, 1, 2, 3, 4, 5, 6, 7, 8].Nodup by decide)) ?_
      exact k327_293   hx8 (show xin (0) by decide) h
def f327_246  (r2 : Nat → Nat → Nat → Int → xj_M → Option (Int × xj_M)) (r46 : Nat → Nat → Nat → Int → Int → Int → xj_M → Option (Int × xj_M)) (f : Nat) (x0 : Nat) (x1 : Nat) (x2 : Nat) (x3 : Int) (x4 : Int) (x5 : Int) (x6 : Int) (x7 : Nat) (x8 : Int) (M : xj_M) : Option (Int × xj_M) := f327_251  r2 r46 f (x0) (x1) (x2) (x3) (x4) (x5) (x6) (x7) (x8) (1) M
theorem k327_246 {d f : Nat}  {r2 : Nat → Nat → Nat → Int → xj_M → Option (Int × xj_M)} {r46 : Nat → Nat → Nat → Int → Int → Int → xj_M → Option (Int × xj_M)}  (hr2 : ∀ {x0 : Nat} {x1 : Nat} {x2 : Nat} {x3 : Int} {M : xj_M} {R : Int × xj_M}, xin x3 → r2 x0 x1 x2 x3 M = some R → xW (d + 3) (none, d + 3, none) xr_327 (2, [(0, xR_ x0), (1, xR_ x1), (2, xR_ x2), (3, xI x3)], [], M) (xQi R)) (hr46 : ∀ {x0 : Nat} {x1 : Nat} {x2 : Nat} {x3 : Int} {x4 : Int} {x5 : Int} {M : xj_M} {R : Int × xj_M}, xin x3 → xin x4 → xin x5 → r46 x0 x1 x2 x3 x4 x5 M = some R → xW (d + 3) (none, d + 3, none) xr_327 (46, [(0, xR_ x0), (1, xR_ x1), (2, xR_ x2), (3, xI x3), (4, xI x4), (5, xI x5)], [], M) (xQi R)) {x0 : Nat} {x1 : Nat} {x2 : Nat} {x3 : Int} {x4 : Int} {x5 : Int} {x6 : Int} {x7 : Nat} {x8 : Int} {M : xj_M} {R : Int × xj_M} (hx3 : xin x3) (hx4 : xin x4) (hx5 : xin x5) (hx6 : xin x6) (hx8 : xin x8) (h : f327_246  r2 r46 f x0 x1 x2 x3 x4 x5 x6 x7 x8 M = some R) : xW (d + 3) (none, d + 3, none) xr_327 (246, [(0, xR_ x0), (1, xR_ x1), (2, xR_ x2), (3, xI x3), (4, xI x4), (5, xI x5), (6, xI x6), (7, xR_ x7), (8, xI x8)], [], M) (xQi R) := by
  unfold f327_246 at h
  refine xe_iconst (n := 1) (by decide +kernel) rfl ?_
  refine xe_goto (off := 4) (nx := 251) (by decide +kernel) (by decide) ?_
  refine xW_lv rfl (l := [(0, xR_ (x0)), (1, xR_ (x1)), (2, xR_ (x2)), (3, xI (x3)), (4, xI (x4)), (5, xI (x5)), (6, xI (x6)), (7, xR_ (x7)), (8, xI (x8))]) (xsb_of ⟨rfl, rfl, rfl, rfl, rfl, rfl, rfl, rfl, rfl, trivial⟩ (show [0, 1, 2, 3, 4, 5, 6, 7, 8].Nodup by decide)) ?_
  exact k327_251  hr2 hr46 hx3 hx4 hx5 hx6 hx8 (show xin (1) by decide) h
def f327_250  (r2 : Nat → Nat → Nat → Int → xj_M → Option (Int × xj_M)) (r46 : Nat → Nat → Nat → Int → Int → Int → xj_M → Option (Int × xj_M)) (f : Nat) (x0 : Nat) (x1 : Nat) (x2 : Nat) (x3 : Int) (x4 : Int) (x5 : Int) (x6 : Int) (x7 : Nat) (x8 : Int) (M : xj_M) : Option (Int × xj_M) := f327_251  r2 r46 f (x0) (x1) (x2) (x3) (x4) (x5) (x6) (x7) (x8) (0) M
theorem k327_250 {d f : Nat}  {r2 : Nat → Nat → Nat → Int → xj_M → Option (Int × xj_M)} {r46 : Nat → Nat → Nat → Int → Int → Int → xj_M → Option (Int × xj_M)}  (hr2 : ∀ {x0 : Nat} {x1 : Nat} {x2 : Nat} {x3 : Int} {M : xj_M} {R : Int × xj_M}, xin x3 → r2 x0 x1 x2 x3 M = some R → xW (d + 3) (none, d + 3, none) xr_327 (2, [(0, xR_ x0), (1, xR_ x1), (2, xR_ x2), (3, xI x3)], [], M) (xQi R)) (hr46 : ∀ {x0 : Nat} {x1 : Nat} {x2 : Nat} {x3 : Int} {x4 : Int} {x5 : Int} {M : xj_M} {R : Int × xj_M}, xin x3 → xin x4 → xin x5 → r46 x0 x1 x2 x3 x4 x5 M = some R → xW (d + 3) (none, d + 3, none) xr_327 (46, [(0, xR_ x0), (1, xR_ x1), (2, xR_ x2), (3, xI x3), (4, xI x4), (5, xI x5)], [], M) (xQi R)) {x0 : Nat} {x1 : Nat} {x2 : Nat} {x3 : Int} {x4 : Int} {x5 : Int} {x6 : Int} {x7 : Nat} {x8 : Int} {M : xj_M} {R : Int × xj_M} (hx3 : xin x3) (hx4 : xin x4) (hx5 : xin x5) (hx6 : xin x6) (hx8 : xin x8) (h : f327_250  r2 r46 f x0 x1 x2 x3 x4 x5 x6 x7 x8 M = some R) : xW (d + 3) (none, d + 3, none) xr_327 (250, [(0, xR_ x0), (1, xR_ x1), (2, xR_ x2), (3, xI x3), (4, xI x4), (5, xI x5), (6, xI x6), (7, xR_ x7), (8, xI x8)], [], M) (xQi R) := by
  unfold f327_250 at h
  refine xe_iconst (n := 0) (by decide +kernel) rfl ?_
  refine xW_lv rfl (l := [(0, xR_ (x0)), (1, xR_ (x1)), (2, xR_ (x2)), (3, xI (x3)), (4, xI (x4)), (5, xI (x5)), (6, xI (x6)), (7, xR_ (x7)), (8, xI (x8))]) (xsb_of ⟨rfl, rfl, rfl, rfl, rfl, rfl, rfl, rfl, rfl, trivial⟩ (show [0, 1, 2, 3, 4, 5, 6, 7, 8].Nodup by decide)) ?_
  exact k327_251  hr2 hr46 hx3 hx4 hx5 hx6 hx8 (show xin (0) by decide) h
def f327_199  (r2 : Nat → Nat → Nat → Int → xj_M → Option (Int × xj_M)) (r46 : Nat → Nat → Nat → Int → Int → Int → xj_M → Option (Int × xj_M)) (f : Nat) (x0 : Nat) (x1 : Nat) (x2 : Nat) (x3 : Int) (x4 : Int) (x5 : Int) (x6 : Int) (x7 : Nat) (y0 : Int) (M : xj_M) : Option (Int × xj_M) := ((xq_gr 12 0 (x7) M).bind fun v130 => ((xq_al (v130) (y0) M).bind fun v132 => ((xq_gr 15 29 (x0) M).bind fun v134 => ((xq_gr 14 0 (v134) M).bind fun v136 => ((xq_al (v136) (x3) M).bind fun v138 => (if ¬ (v132) = (v138) then f327_250  r2 r46 f (x0) (x1) (x2) (x3) (x4) (x5) (x6) (x7) (y0) M else (if (x6) ≤ 0 then f327_246  r2 r46 f (x0) (x1) (x2) (x3) (x4) (x5) (x6) (x7) (y0) M else ((xq_gr 13 0 (x2) M).bind fun v142 => ((xq_gr 15 80 (x0) M).bind fun v144 => ((xq_is 15 (x0) M).bind fun _ => ((f323  f (x0) (v142) (x3) (v144) (x5) M).bind fun R148 => (if ¬ (R148.1) = (-1) then f327_250  r2 r46 f (x0) (x1) (x2) (x3) (x4) (x5) (x6) (x7) (y0) R148.2 else f327_246  r2 r46 f (x0) (x1) (x2) (x3) (x4) (x5) (x6) (x7) (y0) R148.2))))))))))))
theorem k327_199 {d f : Nat}  {r2 : Nat → Nat → Nat → Int → xj_M → Option (Int × xj_M)} {r46 : Nat → Nat → Nat → Int → Int → Int → xj_M → Option (Int × xj_M)}  (hr2 : ∀ {x0 : Nat} {x1 : Nat} {x2 : Nat} {x3 : Int} {M : xj_M} {R : Int × xj_M}, xin x3 → r2 x0 x1 x2 x3 M = some R → xW (d + 3) (none, d + 3, none) xr_327 (2, [(0, xR_ x0), (1, xR_ x1), (2, xR_ x2), (3, xI x3)], [], M) (xQi R)) (hr46 : ∀ {x0 : Nat} {x1 : Nat} {x2 : Nat} {x3 : Int} {x4 : Int} {x5 : Int} {M : xj_M} {R : Int × xj_M}, xin x3 → xin x4 → xin x5 → r46 x0 x1 x2 x3 x4 x5 M = some R → xW (d + 3) (none, d + 3, none) xr_327 (46, [(0, xR_ x0), (1, xR_ x1), (2, xR_ x2), (3, xI x3), (4, xI x4), (5, xI x5)], [], M) (xQi R)) {x0 : Nat} {x1 : Nat} {x2 : Nat} {x3 : Int} {x4 : Int} {x5 : Int} {x6 : Int} {x7 : Nat} {y0 : Int} {M : xj_M} {R : Int × xj_M} (hx3 : xin x3) (hx4 : xin x4) (hx5 : xin x5) (hx6 : xin x6) (hy0 : xin y0) (h : f327_199  r2 r46 f x0 x1 x2 x3 x4 x5 x6 x7 y0 M = some R) : xW (d + 3) (none, d + 3, none) xr_327 (199, [(0, xR_ x0), (1, xR_ x1), (2, xR_ x2), (3, xI x3), (4, xI x4), (5, xI x5), (6, xI x6), (7, xR_ x7)], [xI y0], M) (xQi R) := by
  unfold f327_199 at h
  refine xe_isr (ins := .istore 8) (len := 2) (i := 8) (by decide +kernel) rfl rfl rfl (by decide) (xk_k (show ¬ (0 : Nat) = 8 by decide) (Or.inl (show ¬ (0 + 1 : Nat) = 8 by decide)) (xk_k (show ¬ (1 : Nat) = 8 by decide) (Or.inl (show ¬ (1 + 1 : Nat) = 8 by decide)) (xk_k (show ¬ (2 : Nat) = 8 by decide) (Or.inl (show ¬ (2 + 1 : Nat) = 8 by decide)) (xk_k (show ¬ (3 : Nat) = 8 by decide) (Or.inl (show ¬ (3 + 1 : Nat) = 8 by decide)) (xk_k (show ¬ (4 : Nat) = 8 by decide) (Or.inl (show ¬ (4 + 1 : Nat) = 8 by decide)) (xk_k (show ¬ (5 : Nat) = 8 by decide) (Or.inl (show ¬ (5 + 1 : Nat) = 8 by decide)) (xk_k (show ¬ (6 : Nat) = 8 by decide) (Or.inl (show ¬ (6 + 1 : Nat) = 8 by decide)) (xk_k (show ¬ (7 : Nat) = 8 by decide) (Or.inr (xR_cat _)) xk_n)))))))) rfl ?_
  refine xe_alr (ins := .aload 7) (len := 2) (i := 7) (by decide +kernel) rfl rfl rfl rfl rfl ?_
  obtain ⟨v130, e131, h⟩ := xbnd h
  refine xs_gr (i := 694) (c := 12) (k := 0) (by decide +kernel) (by decide) (by decide +kernel) e131 rfl ?_
  refine xe_ldn (ins := .iload 8) (len := 2) (by decide +kernel) rfl rfl rfl rfl ?_
  obtain ⟨v132, e133, h⟩ := xbnd h
  refine xs_lald (by decide +kernel) hy0 e133 rfl ?_
  refine xe_alr (ins := .aload_n 0) (len := 1) (i := 0) (by decide +kernel) rfl rfl rfl rfl rfl ?_
  obtain ⟨v134, e135, h⟩ := xbnd h
  refine xs_gr (i := 439) (c := 15) (k := 29) (by decide +kernel) (by decide) (by decide +kernel) e135 rfl ?_
  obtain ⟨v136, e137, h⟩ := xbnd h
  refine xs_gr (i := 217) (c := 14) (k := 0) (by decide +kernel) (by decide) (by decide +kernel) e137 rfl ?_
  refine xe_ldn (ins := .iload_n 3) (len := 1) (by decide +kernel) rfl rfl rfl rfl ?_
  obtain ⟨v138, e139, h⟩ := xbnd h
  refine xs_lald (by decide +kernel) hx3 e139 rfl ?_
  refine xe_lcmp (by decide +kernel) rfl (xq_al_in e133) (xq_al_in e139) ?_
  refine xe_ifne (off := 31) (t := 250) (by decide +kernel) (by decide) rfl (xin_cmp8 _ _) (fun c140 => ?_) (fun c140 => ?_)
  · have c140 := xcmp8_ne.mp c140; rw [if_pos c140] at h
    refine xW_lv rfl (l := [(0, xR_ (x0)), (1, xR_ (x1)), (2, xR_ (x2)), (3, xI (x3)), (4, xI (x4)), (5, xI (x5)), (6, xI (x6)), (7, xR_ (x7)), (8, xI (y0))]) (xsb_of ⟨rfl, rfl, rfl, rfl, rfl, rfl, rfl, rfl, rfl, trivial⟩ (show [8, 0, 1, 2, 3, 4, 5, 6, 7].Nodup by decide)) ?_
    exact k327_250  hr2 hr46 hx3 hx4 hx5 hx6 hy0 h
  · have c140 := (not_congr xcmp8_ne).mp c140; rw [if_neg c140] at h
    refine xe_ldn (ins := .iload 6) (len := 2) (by decide +kernel) rfl rfl rfl rfl ?_
    refine xe_ifle (off := 22) (t := 246) (by decide +kernel) (by decide) rfl hx6 (fun c141 => ?_) (fun c141 => ?_)
    · rw [if_pos c141] at h
      refine xW_lv rfl (l := [(0, xR_ (x0)), (1, xR_ (x1)), (2, xR_ (x2)), (3, xI (x3)), (4, xI (x4)), (5, xI (x5)), (6, xI (x6)), (7, xR_ (x7)), (8, xI (y0))]) (xsb_of ⟨rfl, rfl, rfl, rfl, rfl, rfl, rfl, rfl, rfl, trivial⟩ (show [8, 0, 1, 2, 3, 4, 5, 6, 7].Nodup by decide)) ?_
      exact k327_246  hr2 hr46 hx3 hx4 hx5 hx6 hy0 h
    · rw [if_neg c141] at h
      refine xe_alr (ins := .aload_n 0) (len := 1) (i := 0) (by decide +kernel) rfl rfl rfl rfl rfl ?_
      refine xe_alr (ins := .aload_n 2) (len := 1) (i := 2) (by decide +kernel) rfl rfl rfl rfl rfl ?_
      obtain ⟨v142, e143, h⟩ := xbnd h
      refine xs_gr (i := 679) (c := 13) (k := 0) (by decide +kernel) (by decide) (by decide +kernel) e143 rfl ?_
      refine xe_ldn (ins := .iload_n 3) (len := 1) (by decide +kernel) rfl rfl rfl rfl ?_
      refine xe_alr (ins := .aload_n 0) (len := 1) (i := 0) (by decide +kernel) rfl rfl rfl rfl rfl ?_
      obtain ⟨v144, e145, h⟩ := xbnd h
      refine xs_gr (i := 858) (c := 15) (k := 80) (by decide +kernel) (by decide) (by decide +kernel) e145 rfl ?_
      refine xe_ldn (ins := .iload 5) (len := 2) (by decide +kernel) rfl rfl rfl rfl ?_
      obtain ⟨_, e147, h⟩ := xbnd h
      obtain ⟨R148, e146, h⟩ := xbnd h
      refine xs_cv (i := 906) (j := 323) (ar := [xI (x5), xR_ (v144), xI (x3), xR_ (v142)]) (rest := []) (r2 := xr_323) (by decide +kernel) (by decide +kernel) (by decide +kernel) xr_323_e rfl (by decide) (by decide) e147 ?_
      refine xc_i (k323 (d := d + 1)  hx3 hx5 e146) rfl (fun hi149 => ?_)
      refine xe_iconst (n := -1) (by decide +kernel) rfl ?_
      refine xe_icmpne (off := 7) (t := 250) (by decide +kernel) (by decide) rfl hi149 (show xin (-1) by decide) (fun c150 => ?_) (fun c150 => ?_)
      · rw [if_pos c150] at h
        refine xW_lv rfl (l := [(0, xR_ (x0)), (1, xR_ (x1)), (2, xR_ (x2)), (3, xI (x3)), (4, xI (x4)), (5, xI (x5)), (6, xI (x6)), (7, xR_ (x7)), (8, xI (y0))]) (xsb_of ⟨rfl, rfl, rfl, rfl, rfl, rfl, rfl, rfl, rfl, trivial⟩ (show [8, 0, 1, 2, 3, 4, 5, 6, 7].Nodup by decide)) ?_
        exact k327_250  hr2 hr46 hx3 hx4 hx5 hx6 hy0 h
      · rw [if_neg c150] at h
        refine xW_lv rfl (l := [(0, xR_ (x0)), (1, xR_ (x1)), (2, xR_ (x2)), (3, xI (x3)), (4, xI (x4)), (5, xI (x5)), (6, xI (x6)), (7, xR_ (x7)), (8, xI (y0))]) (xsb_of ⟨rfl, rfl, rfl, rfl, rfl, rfl, rfl, rfl, rfl, trivial⟩ (show [8, 0, 1, 2, 3, 4, 5, 6, 7].Nodup by decide)) ?_
        exact k327_246  hr2 hr46 hx3 hx4 hx5 hx6 hy0 h
def f327_185  (r2 : Nat → Nat → Nat → Int → xj_M → Option (Int × xj_M)) (r46 : Nat → Nat → Nat → Int → Int → Int → xj_M → Option (Int × xj_M)) (f : Nat) (x0 : Nat) (x1 : Nat) (x2 : Nat) (x3 : Int) (x4 : Int) (x5 : Int) (x6 : Int) (y0 : Nat) (M : xj_M) : Option (Int × xj_M) := (if 0 < (x6) then f327_199  r2 r46 f (x0) (x1) (x2) (x3) (x4) (x5) (x6) (y0) (x5) M else f327_199  r2 r46 f (x0) (x1) (x2) (x3) (x4) (x5) (x6) (y0) (x4) M)
theorem k327_185 {d f : Nat}  {r2 : Nat → Nat → Nat → Int → xj_M → Option (Int × xj_M)} {r46 : Nat → Nat → Nat → Int → Int → Int → xj_M → Option (Int × xj_M)}  (hr2 : ∀ {x0 : Nat} {x1 : Nat} {x2 : Nat} {x3 : Int} {M : xj_M} {R : Int × xj_M}, xin x3 → r2 x0 x1 x2 x3 M = some R → xW (d + 3) (none, d + 3, none) xr_327 (2, [(0, xR_ x0), (1, xR_ x1), (2, xR_ x2), (3, xI x3)], [], M) (xQi R)) (hr46 : ∀ {x0 : Nat} {x1 : Nat} {x2 : Nat} {x3 : Int} {x4 : Int} {x5 : Int} {M : xj_M} {R : Int × xj_M}, xin x3 → xin x4 → xin x5 → r46 x0 x1 x2 x3 x4 x5 M = some R → xW (d + 3) (none, d + 3, none) xr_327 (46, [(0, xR_ x0), (1, xR_ x1), (2, xR_ x2), (3, xI x3), (4, xI x4), (5, xI x5)], [], M) (xQi R)) {x0 : Nat} {x1 : Nat} {x2 : Nat} {x3 : Int} {x4 : Int} {x5 : Int} {x6 : Int} {y0 : Nat} {M : xj_M} {R : Int × xj_M} (hx3 : xin x3) (hx4 : xin x4) (hx5 : xin x5) (hx6 : xin x6) (h : f327_185  r2 r46 f x0 x1 x2 x3 x4 x5 x6 y0 M = some R) : xW (d + 3) (none, d + 3, none) xr_327 (185, [(0, xR_ x0), (1, xR_ x1), (2, xR_ x2), (3, xI x3), (4, xI x4), (5, xI x5), (6, xI x6)], [xR_ y0], M) (xQi R) := by
  unfold f327_185 at h
  refine xe_asr (ins := .astore 7) (len := 2) (i := 7) (by decide +kernel) rfl rfl rfl (by decide) (xk_k (show ¬ (0 : Nat) = 7 by decide) (Or.inl (show ¬ (0 + 1 : Nat) = 7 by decide)) (xk_k (show ¬ (1 : Nat) = 7 by decide) (Or.inl (show ¬ (1 + 1 : Nat) = 7 by decide)) (xk_k (show ¬ (2 : Nat) = 7 by decide) (Or.inl (show ¬ (2 + 1 : Nat) = 7 by decide)) (xk_k (show ¬ (3 : Nat) = 7 by decide) (Or.inl (show ¬ (3 + 1 : Nat) = 7 by decide)) (xk_k (show ¬ (4 : Nat) = 7 by decide) (Or.inl (show ¬ (4 + 1 : Nat) = 7 by decide)) (xk_k (show ¬ (5 : Nat) = 7 by decide) (Or.inl (show ¬ (5 + 1 : Nat) = 7 by decide)) (xk_k (show ¬ (6 : Nat) = 7 by decide) (Or.inr (xI_cat _)) xk_n))))))) rfl ?_
  refine xe_ldn (ins := .iload 6) (len := 2) (by decide +kernel) rfl rfl rfl rfl ?_
  refine xe_ifgt (off := 8) (t := 197) (by decide +kernel) (by decide) rfl hx6 (fun c151 => ?_) (fun c151 => ?_)
  · rw [if_pos c151] at h
    refine xe_ldn (ins := .iload 5) (len := 2) (by decide +kernel) rfl rfl rfl rfl ?_
    refine xW_lv rfl (l := [(0, xR_ (x0)), (1, xR_ (x1)), (2, xR_ (x2)), (3, xI (x3)), (4, xI (x4)), (5, xI (x5)), (6, xI (x6)), (7, xR_ (y0))]) (xsb_of ⟨rfl, rfl, rfl, rfl, rfl, rfl, rfl, rfl, trivial⟩ (show [7, 0, 1, 2, 3, 4, 5, 6].Nodup by decide)) ?_
    exact k327_199  hr2 hr46 hx3 hx4 hx5 hx6 hx5 h
  · rw [if_neg c151] at h
    refine xe_ldn (ins := .iload 4) (len := 2) (by decide +kernel) rfl rfl rfl rfl ?_
    refine xe_goto (off := 5) (nx := 199) (by decide +kernel) (by decide) ?_
    refine xW_lv rfl (l := [(0, xR_ (x0)), (1, xR_ (x1)), (2, xR_ (x2)), (3, xI (x3)), (4, xI (x4)), (5, xI (x5)), (6, xI (x6)), (7, xR_ (y0))]) (xsb_of ⟨rfl, rfl, rfl, rfl, rfl, rfl, rfl, rfl, trivial⟩ (show [7, 0, 1, 2, 3, 4, 5, 6].Nodup by decide)) ?_
    exact k327_199  hr2 hr46 hx3 hx4 hx5 hx6 hx4 h
def f327_167  (r2 : Nat → Nat → Nat → Int → xj_M → Option (Int × xj_M)) (r46 : Nat → Nat → Nat → Int → Int → Int → xj_M → Option (Int × xj_M)) (f : Nat) (x0 : Nat) (x1 : Nat) (x2 : Nat) (x3 : Int) (x4 : Int) (x5 : Int) (y0 : Int) (M : xj_M) : Option (Int × xj_M) := (if 0 < (y0) then ((xq_gr 15 80 (x0) M).bind fun v153 => f327_185  r2 r46 f (x0) (x1) (x2) (x3) (x4) (x5) (y0) (v153) M) else ((xq_gr 13 0 (x2) M).bind fun v155 => f327_185  r2 r46 f (x0) (x1) (x2) (x3) (x4) (x5) (y0) (v155) M))
theorem k327_167 {d f : Nat}  {r2 : Nat → Nat → Nat → Int → xj_M → Option (Int × xj_M)} {r46 : Nat → Nat → Nat → Int → Int → Int → xj_M → Option (Int × xj_M)}  (hr2 : ∀ {x0 : Nat} {x1 : Nat} {x2 : Nat} {x3 : Int} {M : xj_M} {R : Int × xj_M}, xin x3 → r2 x0 x1 x2 x3 M = some R → xW (d + 3) (none, d + 3, none) xr_327 (2, [(0, xR_ x0), (1, xR_ x1), (2, xR_ x2), (3, xI x3)], [], M) (xQi R)) (hr46 : ∀ {x0 : Nat} {x1 : Nat} {x2 : Nat} {x3 : Int} {x4 : Int} {x5 : Int} {M : xj_M} {R : Int × xj_M}, xin x3 → xin x4 → xin x5 → r46 x0 x1 x2 x3 x4 x5 M = some R → xW (d + 3) (none, d + 3, none) xr_327 (46, [(0, xR_ x0), (1, xR_ x1), (2, xR_ x2), (3, xI x3), (4, xI x4), (5, xI x5)], [], M) (xQi R)) {x0 : Nat} {x1 : Nat} {x2 : Nat} {x3 : Int} {x4 : Int} {x5 : Int} {y0 : Int} {M : xj_M} {R : Int × xj_M} (hx3 : xin x3) (hx4 : xin x4) (hx5 : xin x5) (hy0 : xin y0) (h : f327_167  r2 r46 f x0 x1 x2 x3 x4 x5 y0 M = some R) : xW (d + 3) (none, d + 3, none) xr_327 (167, [(0, xR_ x0), (1, xR_ x1), (2, xR_ x2), (3, xI x3), (4, xI x4), (5, xI x5)], [xI y0], M) (xQi R) := by
  unfold f327_167 at h
  refine xe_isr (ins := .istore 6) (len := 2) (i := 6) (by decide +kernel) rfl rfl rfl (by decide) (xk_k (show ¬ (0 : Nat) = 6 by decide) (Or.inl (show ¬ (0 + 1 : Nat) = 6 by decide)) (xk_k (show ¬ (1 : Nat) = 6 by decide) (Or.inl (show ¬ (1 + 1 : Nat) = 6 by decide)) (xk_k (show ¬ (2 : Nat) = 6 by decide) (Or.inl (show ¬ (2 + 1 : Nat) = 6 by decide)) (xk_k (show ¬ (3 : Nat) = 6 by decide) (Or.inl (show ¬ (3 + 1 : Nat) = 6 by decide)) (xk_k (show ¬ (4 : Nat) = 6 by decide) (Or.inl (show ¬ (4 + 1 : Nat) = 6 by decide)) (xk_k (show ¬ (5 : Nat) = 6 by decide) (Or.inr (xI_cat _)) xk_n)))))) rfl ?_
  refine xe_ldn (ins := .iload 6) (len := 2) (by decide +kernel) rfl rfl rfl rfl ?_
  refine xe_ifgt (off := 10) (t := 181) (by decide +kernel) (by decide) rfl hy0 (fun c152 => ?_) (fun c152 => ?_)
  · rw [if_pos c152] at h
    refine xe_alr (ins := .aload_n 0) (len := 1) (i := 0) (by decide +kernel) rfl rfl rfl rfl rfl ?_
    obtain ⟨v153, e154, h⟩ := xbnd h
    refine xs_gr (i := 858) (c := 15) (k := 80) (by decide +kernel) (by decide) (by decide +kernel) e154 rfl ?_
    refine xW_lv rfl (l := [(0, xR_ (x0)), (1, xR_ (x1)), (2, xR_ (x2)), (3, xI (x3)), (4, xI (x4)), (5, xI (x5)), (6, xI (y0))]) (xsb_of ⟨rfl, rfl, rfl, rfl, rfl, rfl, rfl, trivial⟩ (show [6, 0, 1, 2, 3, 4, 5].Nodup by decide)) ?_
    exact k327_185  hr2 hr46 hx3 hx4 hx5 hy0 h
  · rw [if_neg c152] at h
    refine xe_alr (ins := .aload_n 2) (len := 1) (i := 2) (by decide +kernel) rfl rfl rfl rfl rfl ?_
    obtain ⟨v155, e156, h⟩ := xbnd h
    refine xs_gr (i := 679) (c := 13) (k := 0) (by decide +kernel) (by decide) (by decide +kernel) e156 rfl ?_
    refine xe_goto (off := 7) (nx := 185) (by decide +kernel) (by decide) ?_
    refine xW_lv rfl (l := [(0, xR_ (x0)), (1, xR_ (x1)), (2, xR_ (x2)), (3, xI (x3)), (4, xI (x4)), (5, xI (x5)), (6, xI (y0))]) (xsb_of ⟨rfl, rfl, rfl, rfl, rfl, rfl, rfl, trivial⟩ (show [6, 0, 1, 2, 3, 4, 5].Nodup by decide)) ?_
    exact k327_185  hr2 hr46 hx3 hx4 hx5 hy0 h
def f327_70  (r2 : Nat → Nat → Nat → Int → xj_M → Option (Int × xj_M)) (r46 : Nat → Nat → Nat → Int → Int → Int → xj_M → Option (Int × xj_M)) (f : Nat) (x0 : Nat) (x1 : Nat) (x2 : Nat) (x3 : Int) (x4 : Int) (x5 : Int) (M : xj_M) : Option (Int × xj_M) := ((xq_gr 13 0 (x2) M).bind fun v157 => ((xq_gi 12 3 (v157) M).bind fun v159 => (if ¬ (x4) = (v159) then ((xq_gr 15 80 (x0) M).bind fun v162 => ((xq_gi 12 3 (v162) M).bind fun v164 => (if ¬ (x5) = (v164) then ((xq_gr 13 0 (x2) M).bind fun v167 => ((xq_gr 12 0 (v167) M).bind fun v169 => ((xq_al (v169) (x4) M).bind fun v171 => ((xq_gr 13 0 (x2) M).bind fun v173 => ((xq_gr 12 2 (v173) M).bind fun v175 => ((xq_ai 3 (v175) (x4) M).bind fun v177 => ((xq_gr 13 0 (x2) M).bind fun v179 => ((xq_gr 12 1 (v179) M).bind fun v181 => ((xq_gr 15 80 (x0) M).bind fun v183 => ((xq_gr 12 0 (v183) M).bind fun v185 => ((xq_al (v185) (x5) M).bind fun v187 => ((xq_gr 15 80 (x0) M).bind fun v189 => ((xq_gr 12 2 (v189) M).bind fun v191 => ((xq_ai 3 (v191) (x5) M).bind fun v193 => ((xq_gr 15 80 (x0) M).bind fun v195 => ((xq_gr 12 1 (v195) M).bind fun v197 => ((f195  f (v171) (v177) (v181) (xwr ((4) * (x4))) (v187) (v193) (v197) (xwr ((4) * (x5))) M).bind fun R200 => f327_167  r2 r46 f (x0) (x1) (x2) (x3) (x4) (x5) (R200.1) R200.2))))))))))))))))) else f327_167  r2 r46 f (x0) (x1) (x2) (x3) (x4) (x5) (-1) M))) else f327_167  r2 r46 f (x0) (x1) (x2) (x3) (x4) (x5) (1) M)))
theorem k327_70 {d f : Nat}  {r2 : Nat → Nat → Nat → Int → xj_M → Option (Int × xj_M)} {r46 : Nat → Nat → Nat → Int → Int → Int → xj_M → Option (Int × xj_M)}  (hr2 : ∀ {x0 : Nat} {x1 : Nat} {x2 : Nat} {x3 : Int} {M : xj_M} {R : Int × xj_M}, xin x3 → r2 x0 x1 x2 x3 M = some R → xW (d + 3) (none, d + 3, none) xr_327 (2, [(0, xR_ x0), (1, xR_ x1), (2, xR_ x2), (3, xI x3)], [], M) (xQi R)) (hr46 : ∀ {x0 : Nat} {x1 : Nat} {x2 : Nat} {x3 : Int} {x4 : Int} {x5 : Int} {M : xj_M} {R : Int × xj_M}, xin x3 → xin x4 → xin x5 → r46 x0 x1 x2 x3 x4 x5 M = some R → xW (d + 3) (none, d + 3, none) xr_327 (46, [(0, xR_ x0), (1, xR_ x1), (2, xR_ x2), (3, xI x3), (4, xI x4), (5, xI x5)], [], M) (xQi R)) {x0 : Nat} {x1 : Nat} {x2 : Nat} {x3 : Int} {x4 : Int} {x5 : Int} {M : xj_M} {R : Int × xj_M} (hx3 : xin x3) (hx4 : xin x4) (hx5 : xin x5) (h : f327_70  r2 r46 f x0 x1 x2 x3 x4 x5 M = some R) : xW (d + 3) (none, d + 3, none) xr_327 (70, [(0, xR_ x0), (1, xR_ x1), (2, xR_ x2), (3, xI x3), (4, xI x4), (5, xI x5)], [], M) (xQi R) := by
  unfold f327_70 at h
  refine xe_ldn (ins := .iload 4) (len := 2) (by decide +kernel) rfl rfl rfl rfl ?_
  refine xe_alr (ins := .aload_n 2) (len := 1) (i := 2) (by decide +kernel) rfl rfl rfl rfl rfl ?_
  obtain ⟨v157, e158, h⟩ := xbnd h
  refine xs_gr (i := 679) (c := 13) (k := 0) (by decide +kernel) (by decide) (by decide +kernel) e158 rfl ?_
  obtain ⟨v159, e160, h⟩ := xbnd h
  refine xs_gi (i := 690) (c := 12) (k := 3) (by decide +kernel) (by decide) (by decide +kernel) e160 rfl ?_
  refine xe_icmpne (off := 7) (t := 86) (by decide +kernel) (by decide) rfl hx4 (xq_gi_in e160) (fun c161 => ?_) (fun c161 => ?_)
  · rw [if_pos c161] at h
    refine xe_ldn (ins := .iload 5) (len := 2) (by decide +kernel) rfl rfl rfl rfl ?_
    refine xe_alr (ins := .aload_n 0) (len := 1) (i := 0) (by decide +kernel) rfl rfl rfl rfl rfl ?_
    obtain ⟨v162, e163, h⟩ := xbnd h
    refine xs_gr (i := 858) (c := 15) (k := 80) (by decide +kernel) (by decide) (by decide +kernel) e163 rfl ?_
    obtain ⟨v164, e165, h⟩ := xbnd h
    refine xs_gi (i := 690) (c := 12) (k := 3) (by decide +kernel) (by decide) (by decide +kernel) e165 rfl ?_
    refine xe_icmpne (off := 7) (t := 102) (by decide +kernel) (by decide) rfl hx5 (xq_gi_in e165) (fun c166 => ?_) (fun c166 => ?_)
    · rw [if_pos c166] at h
      refine xe_alr (ins := .aload_n 2) (len := 1) (i := 2) (by decide +kernel) rfl rfl rfl rfl rfl ?_
      obtain ⟨v167, e168, h⟩ := xbnd h
      refine xs_gr (i := 679) (c := 13) (k := 0) (by decide +kernel) (by decide) (by decide +kernel) e168 rfl ?_
      obtain ⟨v169, e170, h⟩ := xbnd h
      refine xs_gr (i := 694) (c := 12) (k := 0) (by decide +kernel) (by decide) (by decide +kernel) e170 rfl ?_
      refine xe_ldn (ins := .iload 4) (len := 2) (by decide +kernel) rfl rfl rfl rfl ?_
      obtain ⟨v171, e172, h⟩ := xbnd h
      refine xs_lald (by decide +kernel) hx4 e172 rfl ?_
      refine xe_alr (ins := .aload_n 2) (len := 1) (i := 2) (by decide +kernel) rfl rfl rfl rfl rfl ?_
      obtain ⟨v173, e174, h⟩ := xbnd h
      refine xs_gr (i := 679) (c := 13) (k := 0) (by decide +kernel) (by decide) (by decide +kernel) e174 rfl ?_
      obtain ⟨v175, e176, h⟩ := xbnd h
      refine xs_gr (i := 695) (c := 12) (k := 2) (by decide +kernel) (by decide) (by decide +kernel) e176 rfl ?_
      refine xe_ldn (ins := .iload 4) (len := 2) (by decide +kernel) rfl rfl rfl rfl ?_
      obtain ⟨v177, e178, h⟩ := xbnd h
      refine xs_iald rfl (by decide +kernel) hx4 e178 rfl ?_
      refine xe_alr (ins := .aload_n 2) (len := 1) (i := 2) (by decide +kernel) rfl rfl rfl rfl rfl ?_
      obtain ⟨v179, e180, h⟩ := xbnd h
      refine xs_gr (i := 679) (c := 13) (k := 0) (by decide +kernel) (by decide) (by decide +kernel) e180 rfl ?_
      obtain ⟨v181, e182, h⟩ := xbnd h
      refine xs_gr (i := 696) (c := 12) (k := 1) (by decide +kernel) (by decide) (by decide +kernel) e182 rfl ?_
      refine xe_iconst (n := 4) (by decide +kernel) rfl ?_
      refine xe_ldn (ins := .iload 4) (len := 2) (by decide +kernel) rfl rfl rfl rfl ?_
      refine xe_imul (by decide +kernel) rfl ?_
      refine xe_alr (ins := .aload_n 0) (len := 1) (i := 0) (by decide +kernel) rfl rfl rfl rfl rfl ?_
      obtain ⟨v183, e184, h⟩ := xbnd h
      refine xs_gr (i := 858) (c := 15) (k := 80) (by decide +kernel) (by decide) (by decide +kernel) e184 rfl ?_
      obtain ⟨v185, e186, h⟩ := xbnd h
      refine xs_gr (i := 694) (c := 12) (k := 0) (by decide +kernel) (by decide) (by decide +kernel) e186 rfl ?_
      refine xe_ldn (ins := .iload 5) (len := 2) (by decide +kernel) rfl rfl rfl rfl ?_
      obtain ⟨v187, e188, h⟩ := xbnd h
      refine xs_lald (by decide +kernel) hx5 e188 rfl ?_
      refine xe_alr (ins := .aload_n 0) (len := 1) (i := 0) (by decide +kernel) rfl rfl rfl rfl rfl ?_
      obtain ⟨v189, e190, h⟩ := xbnd h
      refine xs_gr (i := 858) (c := 15) (k := 80) (by decide +kernel) (by decide) (by decide +kernel) e190 rfl ?_
      obtain ⟨v191, e192, h⟩ := xbnd h
      refine xs_gr (i := 695) (c := 12) (k := 2) (by decide +kernel) (by decide) (by decide +kernel) e192 rfl ?_
      refine xe_ldn (ins := .iload 5) (len := 2) (by decide +kernel) rfl rfl rfl rfl ?_
      obtain ⟨v193, e194, h⟩ := xbnd h
      refine xs_iald rfl (by decide +kernel) hx5 e194 rfl ?_
      refine xe_alr (ins := .aload_n 0) (len := 1) (i := 0) (by decide +kernel) rfl rfl rfl rfl rfl ?_
      obtain ⟨v195, e196, h⟩ := xbnd h
      refine xs_gr (i := 858) (c := 15) (k := 80) (by decide +kernel) (by decide) (by decide +kernel) e196 rfl ?_
      obtain ⟨v197, e198, h⟩ := xbnd h
      refine xs_gr (i := 696) (c := 12) (k := 1) (by decide +kernel) (by decide) (by decide +kernel) e198 rfl ?_
      refine xe_iconst (n := 4) (by decide +kernel) rfl ?_
      refine xe_ldn (ins := .iload 5) (len := 2) (by decide +kernel) rfl rfl rfl rfl ?_
      refine xe_imul (by decide +kernel) rfl ?_
      obtain ⟨R200, e199, h⟩ := xbnd h
      refine xs_cs (kd := 2) (by decide) (i := 817) (j := 195) (ar := [xI (xwr ((4) * (x5))), xR_ (v197), xI (v193), xZ (v187), xI (xwr ((4) * (x4))), xR_ (v181), xI (v177), xZ (v171)]) (rest := []) (r2 := xr_195) (by decide +kernel) (by decide +kernel) (by decide +kernel) xr_195_e rfl (by decide) ?_
      refine xc_i (k195 (d := d + 2)  (xq_al_in e172) (xq_ai_in e178) (xin_wr _) (xq_al_in e188) (xq_ai_in e194) (xin_wr _) e199) rfl (fun hi201 => ?_)
      refine xW_lv rfl (l := [(0, xR_ (x0)), (1, xR_ (x1)), (2, xR_ (x2)), (3, xI (x3)), (4, xI (x4)), (5, xI (x5))]) (xsb_of ⟨rfl, rfl, rfl, rfl, rfl, rfl, trivial⟩ (show [0, 1, 2, 3, 4, 5].Nodup by decide)) ?_
      exact k327_167  hr2 hr46 hx3 hx4 hx5 hi201 h
    · rw [if_neg c166] at h
      refine xe_iconst (n := -1) (by decide +kernel) rfl ?_
      refine xe_goto (off := 68) (nx := 167) (by decide +kernel) (by decide) ?_
      refine xW_lv rfl (l := [(0, xR_ (x0)), (1, xR_ (x1)), (2, xR_ (x2)), (3, xI (x3)), (4, xI (x4)), (5, xI (x5))]) (xsb_of ⟨rfl, rfl, rfl, rfl, rfl, rfl, trivial⟩ (show [0, 1, 2, 3, 4, 5].Nodup by decide)) ?_
      exact k327_167  hr2 hr46 hx3 hx4 hx5 (show xin (-1) by decide) h
  · rw [if_neg c161] at h
    refine xe_iconst (n := 1) (by decide +kernel) rfl ?_
    refine xe_goto (off := 84) (nx := 167) (by decide +kernel) (by decide) ?_
    refine xW_lv rfl (l := [(0, xR_ (x0)), (1, xR_ (x1)), (2, xR_ (x2)), (3, xI (x3)), (4, xI (x4)), (5, xI (x5))]) (xsb_of ⟨rfl, rfl, rfl, rfl, rfl, rfl, trivial⟩ (show [0, 1, 2, 3, 4, 5].Nodup by decide)) ?_
    exact k327_167  hr2 hr46 hx3 hx4 hx5 (show xin (1) by decide) h
def f327_46b  (r2 : Nat → Nat → Nat → Int → xj_M → Option (Int × xj_M)) (r46 : Nat → Nat → Nat → Int → Int → Int → xj_M → Option (Int × xj_M)) (f : Nat) (x0 : Nat) (x1 : Nat) (x2 : Nat) (x3 : Int) (x4 : Int) (x5 : Int) (M : xj_M) : Option (Int × xj_M) := ((xq_gr 13 0 (x2) M).bind fun v202 => ((xq_gi 12 3 (v202) M).bind fun v204 => (if (x4) < (v204) then f327_70  r2 r46 f (x0) (x1) (x2) (x3) (x4) (x5) M else ((xq_gr 15 80 (x0) M).bind fun v207 => ((xq_gi 12 3 (v207) M).bind fun v209 => (if (v209) ≤ (x5) then f327_363  r2 f (x0) (x1) (x2) (x3) M else f327_70  r2 r46 f (x0) (x1) (x2) (x3) (x4) (x5) M))))))
theorem k327_46b {d f : Nat}  {r2 : Nat → Nat → Nat → Int → xj_M → Option (Int × xj_M)} {r46 : Nat → Nat → Nat → Int → Int → Int → xj_M → Option (Int × xj_M)}  (hr2 : ∀ {x0 : Nat} {x1 : Nat} {x2 : Nat} {x3 : Int} {M : xj_M} {R : Int × xj_M}, xin x3 → r2 x0 x1 x2 x3 M = some R → xW (d + 3) (none, d + 3, none) xr_327 (2, [(0, xR_ x0), (1, xR_ x1), (2, xR_ x2), (3, xI x3)], [], M) (xQi R)) (hr46 : ∀ {x0 : Nat} {x1 : Nat} {x2 : Nat} {x3 : Int} {x4 : Int} {x5 : Int} {M : xj_M} {R : Int × xj_M}, xin x3 → xin x4 → xin x5 → r46 x0 x1 x2 x3 x4 x5 M = some R → xW (d + 3) (none, d + 3, none) xr_327 (46, [(0, xR_ x0), (1, xR_ x1), (2, xR_ x2), (3, xI x3), (4, xI x4), (5, xI x5)], [], M) (xQi R)) {x0 : Nat} {x1 : Nat} {x2 : Nat} {x3 : Int} {x4 : Int} {x5 : Int} {M : xj_M} {R : Int × xj_M} (hx3 : xin x3) (hx4 : xin x4) (hx5 : xin x5) (h : f327_46b  r2 r46 f x0 x1 x2 x3 x4 x5 M = some R) : xW (d + 3) (none, d + 3, none) xr_327 (46, [(0, xR_ x0), (1, xR_ x1), (2, xR_ x2), (3, xI x3), (4, xI x4), (5, xI x5)], [], M) (xQi R) := by
  unfold f327_46b at h
  refine xe_ldn (ins := .iload 4) (len := 2) (by decide +kernel) rfl rfl rfl rfl ?_
  refine xe_alr (ins := .aload_n 2) (len := 1) (i := 2) (by decide +kernel) rfl rfl rfl rfl rfl ?_
  obtain ⟨v202, e203, h⟩ := xbnd h
  refine xs_gr (i := 679) (c := 13) (k := 0) (by decide +kernel) (by decide) (by decide +kernel) e203 rfl ?_
  obtain ⟨v204, e205, h⟩ := xbnd h
  refine xs_gi (i := 690) (c := 12) (k := 3) (by decide +kernel) (by decide) (by decide +kernel) e205 rfl ?_
  refine xe_icmplt (off := 15) (t := 70) (by decide +kernel) (by decide) rfl hx4 (xq_gi_in e205) (fun c206 => ?_) (fun c206 => ?_)
  · rw [if_pos c206] at h
    refine xW_lv rfl (l := [(0, xR_ (x0)), (1, xR_ (x1)), (2, xR_ (x2)), (3, xI (x3)), (4, xI (x4)), (5, xI (x5))]) (xsb_of ⟨rfl, rfl, rfl, rfl, rfl, rfl, trivial⟩ (show [0, 1, 2, 3, 4, 5].Nodup by decide)) ?_
    exact k327_70  hr2 hr46 hx3 hx4 hx5 h
  · rw [if_neg c206] at h
    refine xe_ldn (ins := .iload 5) (len := 2) (by decide +kernel) rfl rfl rfl rfl ?_
    refine xe_alr (ins := .aload_n 0) (len := 1) (i := 0) (by decide +kernel) rfl rfl rfl rfl rfl ?_
    obtain ⟨v207, e208, h⟩ := xbnd h
    refine xs_gr (i := 858) (c := 15) (k := 80) (by decide +kernel) (by decide) (by decide +kernel) e208 rfl ?_
    obtain ⟨v209, e210, h⟩ := xbnd h
    refine xs_gi (i := 690) (c := 12) (k := 3) (by decide +kernel) (by decide) (by decide +kernel) e210 rfl ?_
    refine xe_icmpge (off := 296) (t := 363) (by decide +kernel) (by decide) rfl hx5 (xq_gi_in e210) (fun c211 => ?_) (fun c211 => ?_)
    · rw [if_pos c211] at h
      refine xW_lv rfl (l := [(0, xR_ (x0)), (1, xR_ (x1)), (2, xR_ (x2)), (3, xI (x3))]) (xsb_of ⟨rfl, rfl, rfl, rfl, trivial⟩ (show [0, 1, 2, 3, 4, 5].Nodup by decide)) ?_
      exact k327_363  hr2 hx3 h
    · rw [if_neg c211] at h
      refine xW_lv rfl (l := [(0, xR_ (x0)), (1, xR_ (x1)), (2, xR_ (x2)), (3, xI (x3)), (4, xI (x4)), (5, xI (x5))]) (xsb_of ⟨rfl, rfl, rfl, rfl, rfl, rfl, trivial⟩ (show [0, 1, 2, 3, 4, 5].Nodup by decide)) ?_
      exact k327_70  hr2 hr46 hx3 hx4 hx5 h
def f327_46  (r2 : Nat → Nat → Nat → Int → xj_M → Option (Int × xj_M)) (f : Nat) : Nat → Nat → Nat → Nat → Int → Int → Int → xj_M → Option (Int × xj_M)
  | 0, _, _, _, _, _, _, _ => none
  | n + 1, x0, x1, x2, x3, x4, x5, M => f327_46b  r2 (f327_46  r2 f n) f x0 x1 x2 x3 x4 x5 M
theorem k327_46 {d f : Nat}  {r2 : Nat → Nat → Nat → Int → xj_M → Option (Int × xj_M)}  (hr2 : ∀ {x0 : Nat} {x1 : Nat} {x2 : Nat} {x3 : Int} {M : xj_M} {R : Int × xj_M}, xin x3 → r2 x0 x1 x2 x3 M = some R → xW (d + 3) (none, d + 3, none) xr_327 (2, [(0, xR_ x0), (1, xR_ x1), (2, xR_ x2), (3, xI x3)], [], M) (xQi R)) : ∀ {n : Nat} {x0 : Nat} {x1 : Nat} {x2 : Nat} {x3 : Int} {x4 : Int} {x5 : Int} {M : xj_M} {R : Int × xj_M}, xin x3 → xin x4 → xin x5 → f327_46  r2 f n x0 x1 x2 x3 x4 x5 M = some R → xW (d + 3) (none, d + 3, none) xr_327 (46, [(0, xR_ x0), (1, xR_ x1), (2, xR_ x2), (3, xI x3), (4, xI x4), (5, xI x5)], [], M) (xQi R) := by
  intro n
  induction n with
  | zero => intros; rename_i h; cases h
  | succ n ih => intros; rename_i h; exact k327_46b  hr2 ih (by assumption) (by assumption) (by assumption) h
def f327_2b  (r2 : Nat → Nat → Nat → Int → xj_M → Option (Int × xj_M)) (f : Nat) (x0 : Nat) (x1 : Nat) (x2 : Nat) (x3 : Int) (M : xj_M) : Option (Int × xj_M) := ((xq_gr 15 29 (x0) M).bind fun v212 => ((xq_gi 14 8 (v212) M).bind fun v214 => (if (v214) ≤ (x3) then (some (0, M)) else ((xq_gr 15 29 (x0) M).bind fun v217 => ((xq_gr 14 5 (v217) M).bind fun v219 => ((xq_ab (v219) (x3) M).bind fun v221 => (if (v221) = 0 then f327_363  r2 f (x0) (x1) (x2) (x3) M else ((xq_gr 15 29 (x0) M).bind fun v224 => ((xq_gr 14 2 (v224) M).bind fun v226 => ((xq_ai 3 (v226) (x3) M).bind fun v228 => (if ¬ (v228) = 0 then f327_46  r2 f f (x0) (x1) (x2) (x3) (0) (0) M else f327_363  r2 f (x0) (x1) (x2) (x3) M)))))))))))
theorem k327_2b {d f : Nat}  {r2 : Nat → Nat → Nat → Int → xj_M → Option (Int × xj_M)}  (hr2 : ∀ {x0 : Nat} {x1 : Nat} {x2 : Nat} {x3 : Int} {M : xj_M} {R : Int × xj_M}, xin x3 → r2 x0 x1 x2 x3 M = some R → xW (d + 3) (none, d + 3, none) xr_327 (2, [(0, xR_ x0), (1, xR_ x1), (2, xR_ x2), (3, xI x3)], [], M) (xQi R)) {x0 : Nat} {x1 : Nat} {x2 : Nat} {x3 : Int} {M : xj_M} {R : Int × xj_M} (hx3 : xin x3) (h : f327_2b  r2 f x0 x1 x2 x3 M = some R) : xW (d + 3) (none, d + 3, none) xr_327 (2, [(0, xR_ x0), (1, xR_ x1), (2, xR_ x2), (3, xI x3)], [], M) (xQi R) := by
  unfold f327_2b at h
  refine xe_ldn (ins := .iload_n 3) (len := 1) (by decide +kernel) rfl rfl rfl rfl ?_
  refine xe_alr (ins := .aload_n 0) (len := 1) (i := 0) (by decide +kernel) rfl rfl rfl rfl rfl ?_
  obtain ⟨v212, e213, h⟩ := xbnd h
  refine xs_gr (i := 439) (c := 15) (k := 29) (by decide +kernel) (by decide) (by decide +kernel) e213 rfl ?_
  obtain ⟨v214, e215, h⟩ := xbnd h
  refine xs_gi (i := 166) (c := 14) (k := 8) (by decide +kernel) (by decide) (by decide +kernel) e215 rfl ?_
  refine xe_icmpge (off := 359) (t := 369) (by decide +kernel) (by decide) rfl hx3 (xq_gi_in e215) (fun c216 => ?_) (fun c216 => ?_)
  · rw [if_pos c216] at h
    refine xe_iconst (n := 0) (by decide +kernel) rfl ?_
    cases h
    exact xe_ret_i (ty := .boolean) (by decide +kernel) rfl (by decide) ⟨rfl, rfl, (show xin (0) by decide)⟩
  · rw [if_neg c216] at h
    refine xe_alr (ins := .aload_n 0) (len := 1) (i := 0) (by decide +kernel) rfl rfl rfl rfl rfl ?_
    obtain ⟨v217, e218, h⟩ := xbnd h
    refine xs_gr (i := 439) (c := 15) (k := 29) (by decide +kernel) (by decide) (by decide +kernel) e218 rfl ?_
    obtain ⟨v219, e220, h⟩ := xbnd h
    refine xs_gr (i := 187) (c := 14) (k := 5) (by decide +kernel) (by decide) (by decide +kernel) e220 rfl ?_
    refine xe_ldn (ins := .iload_n 3) (len := 1) (by decide +kernel) rfl rfl rfl rfl ?_
    obtain ⟨v221, e222, h⟩ := xbnd h
    refine xs_bald (by decide +kernel) hx3 e222 rfl ?_
    refine xe_ifeq (off := 341) (t := 363) (by decide +kernel) (by decide) rfl (xq_ab_in e222) (fun c223 => ?_) (fun c223 => ?_)
    · rw [if_pos c223] at h
      refine xW_lv rfl (l := [(0, xR_ (x0)), (1, xR_ (x1)), (2, xR_ (x2)), (3, xI (x3))]) (xsb_of ⟨rfl, rfl, rfl, rfl, trivial⟩ (show [0, 1, 2, 3].Nodup by decide)) ?_
      exact k327_363  hr2 hx3 h
    · rw [if_neg c223] at h
      refine xe_alr (ins := .aload_n 0) (len := 1) (i := 0) (by decide +kernel) rfl rfl rfl rfl rfl ?_
      obtain ⟨v224, e225, h⟩ := xbnd h
      refine xs_gr (i := 439) (c := 15) (k := 29) (by decide +kernel) (by decide) (by decide +kernel) e225 rfl ?_
      obtain ⟨v226, e227, h⟩ := xbnd h
      refine xs_gr (i := 184) (c := 14) (k := 2) (by decide +kernel) (by decide) (by decide +kernel) e227 rfl ?_
      refine xe_ldn (ins := .iload_n 3) (len := 1) (by decide +kernel) rfl rfl rfl rfl ?_
      obtain ⟨v228, e229, h⟩ := xbnd h
      refine xs_iald rfl (by decide +kernel) hx3 e229 rfl ?_
      refine xe_ifne (off := 6) (t := 40) (by decide +kernel) (by decide) rfl (xq_ai_in e229) (fun c230 => ?_) (fun c230 => ?_)
      · rw [if_pos c230] at h
        refine xe_iconst (n := 0) (by decide +kernel) rfl ?_
        refine xe_isr (ins := .istore 4) (len := 2) (i := 4) (by decide +kernel) rfl rfl rfl (by decide) (xk_k (show ¬ (0 : Nat) = 4 by decide) (Or.inl (show ¬ (0 + 1 : Nat) = 4 by decide)) (xk_k (show ¬ (1 : Nat) = 4 by decide) (Or.inl (show ¬ (1 + 1 : Nat) = 4 by decide)) (xk_k (show ¬ (2 : Nat) = 4 by decide) (Or.inl (show ¬ (2 + 1 : Nat) = 4 by decide)) (xk_k (show ¬ (3 : Nat) = 4 by decide) (Or.inr (xI_cat _)) xk_n)))) rfl ?_
        refine xe_iconst (n := 0) (by decide +kernel) rfl ?_
        refine xe_isr (ins := .istore 5) (len := 2) (i := 5) (by decide +kernel) rfl rfl rfl (by decide) (xk_k (show ¬ (4 : Nat) = 5 by decide) (Or.inr (xI_cat _)) (xk_k (show ¬ (0 : Nat) = 5 by decide) (Or.inl (show ¬ (0 + 1 : Nat) = 5 by decide)) (xk_k (show ¬ (1 : Nat) = 5 by decide) (Or.inl (show ¬ (1 + 1 : Nat) = 5 by decide)) (xk_k (show ¬ (2 : Nat) = 5 by decide) (Or.inl (show ¬ (2 + 1 : Nat) = 5 by decide)) (xk_k (show ¬ (3 : Nat) = 5 by decide) (Or.inl (show ¬ (3 + 1 : Nat) = 5 by decide)) xk_n))))) rfl ?_
        refine xW_lv rfl (l := [(0, xR_ (x0)), (1, xR_ (x1)), (2, xR_ (x2)), (3, xI (x3)), (4, xI (0)), (5, xI (0))]) (xsb_of ⟨rfl, rfl, rfl, rfl, rfl, rfl, trivial⟩ (show [5, 4, 0, 1, 2, 3].Nodup by decide)) ?_
        exact k327_46  hr2 hx3 (show xin (0) by decide) (show xin (0) by decide) h
      · rw [if_neg c230] at h
        refine xe_goto (off := 326) (nx := 363) (by decide +kernel) (by decide) ?_
        refine xW_lv rfl (l := [(0, xR_ (x0)), (1, xR_ (x1)), (2, xR_ (x2)), (3, xI (x3))]) (xsb_of ⟨rfl, rfl, rfl, rfl, trivial⟩ (show [0, 1, 2, 3].Nodup by decide)) ?_
        exact k327_363  hr2 hx3 h
def f327_2   (f : Nat) : Nat → Nat → Nat → Nat → Int → xj_M → Option (Int × xj_M)
  | 0, _, _, _, _, _ => none
  | n + 1, x0, x1, x2, x3, M => f327_2b   (f327_2   f n) f x0 x1 x2 x3 M
theorem k327_2 {d f : Nat}     : ∀ {n : Nat} {x0 : Nat} {x1 : Nat} {x2 : Nat} {x3 : Int} {M : xj_M} {R : Int × xj_M}, xin x3 → f327_2   f n x0 x1 x2 x3 M = some R → xW (d + 3) (none, d + 3, none) xr_327 (2, [(0, xR_ x0), (1, xR_ x1), (2, xR_ x2), (3, xI x3)], [], M) (xQi R) := by
  intro n
  induction n with
  | zero => intros; rename_i h; cases h
  | succ n ih => intros; rename_i h; exact k327_2b   ih (by assumption) h
def f327  (f : Nat) (a0 : Nat) (a1 : Nat) (a2 : Nat) (M : xj_M) : Option (Int × xj_M) := f327_2   f f (a0) (a1) (a2) (0) M
theorem k327 {d f : Nat}   {a0 : Nat} {a1 : Nat} {a2 : Nat} {M : xj_M} {R : Int × xj_M}  (h : f327  f a0 a1 a2 M = some R) : xT (d + 4) 327 [xR_ a0, xR_ a1, xR_ a2] M (xQi R) := by
  refine xT_m xr_327_e (X := (none, d + 3, none)) rfl (xa_1 (xR_cat _) (xa_1 (xR_cat _) (xa_1 (xR_cat _) xa_n))) (by decide) ?_
  unfold f327 at h
  refine xe_iconst (n := 0) (by decide +kernel) rfl ?_
  refine xe_isr (ins := .istore_n 3) (len := 1) (i := 3) (by decide +kernel) rfl rfl rfl (by decide) (xk_k (show ¬ (0 : Nat) = 3 by decide) (Or.inl (show ¬ (0 + 1 : Nat) = 3 by decide)) (xk_k (show ¬ (1 : Nat) = 3 by decide) (Or.inl (show ¬ (1 + 1 : Nat) = 3 by decide)) (xk_k (show ¬ (2 : Nat) = 3 by decide) (Or.inr (xR_cat _)) xk_n))) rfl ?_
  refine xW_lv rfl (l := [(0, xR_ (a0)), (1, xR_ (a1)), (2, xR_ (a2)), (3, xI (0))]) (xsb_of ⟨rfl, rfl, rfl, rfl, trivial⟩ (show [3, 0, 1, 2].Nodup by decide)) ?_
  exact k327_2   (show xin (0) by decide) h
-- ChangeHouseModel.pend
def xr_329 : xj_mR := (15, yX15_pend, cX15_pend, 8, (Option.none : Option Jvm.ClassFile.FieldType), 6, false, (11, 19), (1, 12))
set_option maxRecDepth 20000 in
theorem xr_329_e : xj_row 329 = some xr_329 := rfl
def f329_72  (r34 : Nat → Int → Nat → Int → Int → xj_M → Option (xj_M)) (f : Nat) (x0 : Nat) (x4 : Int) (x5 : Nat) (x6 : Int) (x7 : Int) (y0 : Int) (y1 : Int) (y2 : Nat) (M : xj_M) : Option (xj_M) := ((xq_sl (y2) (y1) (y0) M).bind fun M101 => r34 (x0) (x4) (x5) (x6) (xwr ((x7) + (1))) M101)
theorem k329_72 {d f : Nat}  {r34 : Nat → Int → Nat → Int → Int → xj_M → Option (xj_M)}  (hr34 : ∀ {x0 : Nat} {x4 : Int} {x5 : Nat} {x6 : Int} {x7 : Int} {M : xj_M} {R : xj_M}, xin x4 → xin x6 → xin x7 → r34 x0 x4 x5 x6 x7 M = some R → xW (d + 0) (none, d + 0, none) xr_329 (34, [(0, xR_ x0), (4, xI x4), (5, xR_ x5), (6, xI x6), (7, xI x7)], [], M) (xQv R)) {x0 : Nat} {x4 : Int} {x5 : Nat} {x6 : Int} {x7 : Int} {y0 : Int} {y1 : Int} {y2 : Nat} {M : xj_M} {R : xj_M} (hx4 : xin x4) (hx6 : xin x6) (hx7 : xin x7) (hy0 : xiN y0) (hy1 : xin y1) (h : f329_72  r34 f x0 x4 x5 x6 x7 y0 y1 y2 M = some R) : xW (d + 0) (none, d + 0, none) xr_329 (72, [(0, xR_ x0), (4, xI x4), (5, xR_ x5), (6, xI x6), (7, xI x7)], [xZ y0, xI y1, xR_ y2], M) (xQv R) := by
  unfold f329_72 at h
  obtain ⟨M101, e102, h⟩ := xbnd h
  refine xs_last (by decide +kernel) hy1 e102 rfl ?_
  refine xe_iincr (i := 7) (n := 1) (by decide +kernel) (by decide) rfl (xk_k (show ¬ (0 : Nat) = 7 by decide) (Or.inl (show ¬ (0 + 1 : Nat) = 7 by decide)) (xk_k (show ¬ (4 : Nat) = 7 by decide) (Or.inl (show ¬ (4 + 1 : Nat) = 7 by decide)) (xk_k (show ¬ (5 : Nat) = 7 by decide) (Or.inl (show ¬ (5 + 1 : Nat) = 7 by decide)) (xk_k (show ¬ (6 : Nat) = 7 by decide) (Or.inr (xI_cat _)) (xk_d rfl xk_n))))) rfl ?_
  refine xe_goto (off := -42) (nx := 34) (by decide +kernel) (by decide) ?_
  refine xW_lv rfl (l := [(0, xR_ (x0)), (4, xI (x4)), (5, xR_ (x5)), (6, xI (x6)), (7, xI (xwr ((x7) + (1))))]) (xsb_of ⟨rfl, rfl, rfl, rfl, rfl, trivial⟩ (show [7, 0, 4, 5, 6].Nodup by decide)) ?_
  exact hr34 hx4 hx6 (xin_wr _) h
def f329_34b  (r34 : Nat → Int → Nat → Int → Int → xj_M → Option (xj_M)) (f : Nat) (x0 : Nat) (x4 : Int) (x5 : Nat) (x6 : Int) (x7 : Int) (M : xj_M) : Option (xj_M) := (if (4) ≤ (x7) then ((xq_gi 13 33 (x0) M).bind fun v104 => ((xq_pi 13 33 (x0) (xwr ((v104) + (1))) M).bind fun M106 => (some M106))) else ((xq_gr 13 32 (x0) M).bind fun v108 => ((xq_gi 13 33 (x0) M).bind fun v110 => (if (x4) ≤ (x7) then f329_72  r34 f (x0) (x4) (x5) (x6) (x7) (0) (xwr ((xwr ((4) * (v110))) + (x7))) (v108) M else ((xq_al (x5) (xwr ((x6) + (x7))) M).bind fun v113 => f329_72  r34 f (x0) (x4) (x5) (x6) (x7) (v113) (xwr ((xwr ((4) * (v110))) + (x7))) (v108) M)))))
theorem k329_34b {d f : Nat}  {r34 : Nat → Int → Nat → Int → Int → xj_M → Option (xj_M)}  (hr34 : ∀ {x0 : Nat} {x4 : Int} {x5 : Nat} {x6 : Int} {x7 : Int} {M : xj_M} {R : xj_M}, xin x4 → xin x6 → xin x7 → r34 x0 x4 x5 x6 x7 M = some R → xW (d + 0) (none, d + 0, none) xr_329 (34, [(0, xR_ x0), (4, xI x4), (5, xR_ x5), (6, xI x6), (7, xI x7)], [], M) (xQv R)) {x0 : Nat} {x4 : Int} {x5 : Nat} {x6 : Int} {x7 : Int} {M : xj_M} {R : xj_M} (hx4 : xin x4) (hx6 : xin x6) (hx7 : xin x7) (h : f329_34b  r34 f x0 x4 x5 x6 x7 M = some R) : xW (d + 0) (none, d + 0, none) xr_329 (34, [(0, xR_ x0), (4, xI x4), (5, xR_ x5), (6, xI x6), (7, xI x7)], [], M) (xQv R) := by
  unfold f329_34b at h
  refine xe_ldn (ins := .iload 7) (len := 2) (by decide +kernel) rfl rfl rfl rfl ?_
  refine xe_iconst (n := 4) (by decide +kernel) rfl ?_
  refine xe_icmpge (off := 42) (t := 79) (by decide +kernel) (by decide) rfl hx7 (show xin (4) by decide) (fun c103 => ?_) (fun c103 => ?_)
  · rw [if_pos c103] at h
    refine xe_alr (ins := .aload_n 0) (len := 1) (i := 0) (by decide +kernel) rfl rfl rfl rfl rfl ?_
    refine xe_dupr (by decide +kernel) rfl ?_
    obtain ⟨v104, e105, h⟩ := xbnd h
    refine xs_gi (i := 715) (c := 13) (k := 33) (by decide +kernel) (by decide) (by decide +kernel) e105 rfl ?_
    refine xe_iconst (n := 1) (by decide +kernel) rfl ?_
    refine xe_iadd (by decide +kernel) rfl ?_
    obtain ⟨M106, e107, h⟩ := xbnd h
    refine xs_p (i := 715) (c := 13) (k := 33) (by decide +kernel) (by decide +kernel) (by decide +kernel) e107 rfl ?_
    cases h
    exact xe_ret_v (by decide +kernel) rfl ⟨rfl, rfl⟩
  · rw [if_neg c103] at h
    refine xe_alr (ins := .aload_n 0) (len := 1) (i := 0) (by decide +kernel) rfl rfl rfl rfl rfl ?_
    obtain ⟨v108, e109, h⟩ := xbnd h
    refine xs_gr (i := 779) (c := 13) (k := 32) (by decide +kernel) (by decide) (by decide +kernel) e109 rfl ?_
    refine xe_iconst (n := 4) (by decide +kernel) rfl ?_
    refine xe_alr (ins := .aload_n 0) (len := 1) (i := 0) (by decide +kernel) rfl rfl rfl rfl rfl ?_
    obtain ⟨v110, e111, h⟩ := xbnd h
    refine xs_gi (i := 715) (c := 13) (k := 33) (by decide +kernel) (by decide) (by decide +kernel) e111 rfl ?_
    refine xe_imul (by decide +kernel) rfl ?_
    refine xe_ldn (ins := .iload 7) (len := 2) (by decide +kernel) rfl rfl rfl rfl ?_
    refine xe_iadd (by decide +kernel) rfl ?_
    refine xe_ldn (ins := .iload 7) (len := 2) (by decide +kernel) rfl rfl rfl rfl ?_
    refine xe_ldn (ins := .iload 4) (len := 2) (by decide +kernel) rfl rfl rfl rfl ?_
    refine xe_icmpge (off := 14) (t := 71) (by decide +kernel) (by decide) rfl hx7 hx4 (fun c112 => ?_) (fun c112 => ?_)
    · rw [if_pos c112] at h
      refine xe_lconst (n := 0) (z := 0) (by decide +kernel) rfl rfl ?_
      refine xW_lv rfl (l := [(0, xR_ (x0)), (4, xI (x4)), (5, xR_ (x5)), (6, xI (x6)), (7, xI (x7))]) (xsb_of ⟨rfl, rfl, rfl, rfl, rfl, trivial⟩ (show [0, 4, 5, 6, 7].Nodup by decide)) ?_
      exact k329_72  hr34 hx4 hx6 hx7 (show xiN (0) by decide) (xin_wr _) h
    · rw [if_neg c112] at h
      refine xe_alr (ins := .aload 5) (len := 2) (i := 5) (by decide +kernel) rfl rfl rfl rfl rfl ?_
      refine xe_ldn (ins := .iload 6) (len := 2) (by decide +kernel) rfl rfl rfl rfl ?_
      refine xe_ldn (ins := .iload 7) (len := 2) (by decide +kernel) rfl rfl rfl rfl ?_
      refine xe_iadd (by decide +kernel) rfl ?_
      obtain ⟨v113, e114, h⟩ := xbnd h
      refine xs_lald (by decide +kernel) (xin_wr _) e114 rfl ?_
      refine xe_goto (off := 4) (nx := 72) (by decide +kernel) (by decide) ?_
      refine xW_lv rfl (l := [(0, xR_ (x0)), (4, xI (x4)), (5, xR_ (x5)), (6, xI (x6)), (7, xI (x7))]) (xsb_of ⟨rfl, rfl, rfl, rfl, rfl, trivial⟩ (show [0, 4, 5, 6, 7].Nodup by decide)) ?_
      exact k329_72  hr34 hx4 hx6 hx7 (xq_al_in e114) (xin_wr _) h
def f329_34   (f : Nat) : Nat → Nat → Int → Nat → Int → Int → xj_M → Option (xj_M)
  | 0, _, _, _, _, _, _ => none
  | n + 1, x0, x4, x5, x6, x7, M => f329_34b   (f329_34   f n) f x0 x4 x5 x6 x7 M
theorem k329_34 {d f : Nat}     : ∀ {n : Nat} {x0 : Nat} {x4 : Int} {x5 : Nat} {x6 : Int} {x7 : Int} {M : xj_M} {R : xj_M}, xin x4 → xin x6 → xin x7 → f329_34   f n x0 x4 x5 x6 x7 M = some R → xW (d + 0) (none, d + 0, none) xr_329 (34, [(0, xR_ x0), (4, xI x4), (5, xR_ x5), (6, xI x6), (7, xI x7)], [], M) (xQv R) := by
  intro n
  induction n with
  | zero => intros; rename_i h; cases h
  | succ n ih => intros; rename_i h; exact k329_34b   ih (by assumption) (by assumption) (by assumption) h
def f329  (f : Nat) (a0 : Nat) (a1 : Int) (a2 : Int) (a3 : Int) (a4 : Nat) (a5 : Int) (M : xj_M) : Option (xj_M) := ((xq_gr 13 28 (a0) M).bind fun v115 => ((xq_gi 13 33 (a0) M).bind fun v117 => ((xq_si (v115) (v117) (a1) M).bind fun M119 => ((xq_gr 13 31 (a0) M119).bind fun v121 => ((xq_gi 13 33 (a0) M119).bind fun v123 => ((xq_sl (v121) (v123) (a2) M119).bind fun M125 => ((xq_gr 13 29 (a0) M125).bind fun v127 => ((xq_gi 13 33 (a0) M125).bind fun v129 => ((xq_si (v127) (v129) (a3) M125).bind fun M131 => f329_34   f f (a0) (a3) (a4) (a5) (0) M131)))))))))
theorem k329 {d f : Nat}   {a0 : Nat} {a1 : Int} {a2 : Int} {a3 : Int} {a4 : Nat} {a5 : Int} {M : xj_M} {R : xj_M} (ha1 : xin a1) (ha2 : xiN a2) (ha3 : xin a3) (ha5 : xin a5) (h : f329  f a0 a1 a2 a3 a4 a5 M = some R) : xT (d + 1) 329 [xR_ a0, xI a1, xZ a2, xI a3, xR_ a4, xI a5] M (xQv R) := by
  refine xT_m xr_329_e (X := (none, d + 0, none)) rfl (xa_1 (xR_cat _) (xa_1 (xI_cat _) (xa_2 (xZ_cat _) (xa_1 (xI_cat _) (xa_1 (xR_cat _) (xa_1 (xI_cat _) xa_n)))))) (by decide) ?_
  unfold f329 at h
  refine xe_alr (ins := .aload_n 0) (len := 1) (i := 0) (by decide +kernel) rfl rfl rfl rfl rfl ?_
  obtain ⟨v115, e116, h⟩ := xbnd h
  refine xs_gr (i := 780) (c := 13) (k := 28) (by decide +kernel) (by decide) (by decide +kernel) e116 rfl ?_
  refine xe_alr (ins := .aload_n 0) (len := 1) (i := 0) (by decide +kernel) rfl rfl rfl rfl rfl ?_
  obtain ⟨v117, e118, h⟩ := xbnd h
  refine xs_gi (i := 715) (c := 13) (k := 33) (by decide +kernel) (by decide) (by decide +kernel) e118 rfl ?_
  refine xe_ldn (ins := .iload_n 1) (len := 1) (by decide +kernel) rfl rfl rfl rfl ?_
  obtain ⟨M119, e120, h⟩ := xbnd h
  refine xs_iast (by decide +kernel) (xq_gi_in e118) e120 rfl ?_
  refine xe_alr (ins := .aload_n 0) (len := 1) (i := 0) (by decide +kernel) rfl rfl rfl rfl rfl ?_
  obtain ⟨v121, e122, h⟩ := xbnd h
  refine xs_gr (i := 777) (c := 13) (k := 31) (by decide +kernel) (by decide) (by decide +kernel) e122 rfl ?_
  refine xe_alr (ins := .aload_n 0) (len := 1) (i := 0) (by decide +kernel) rfl rfl rfl rfl rfl ?_
  obtain ⟨v123, e124, h⟩ := xbnd h
  refine xs_gi (i := 715) (c := 13) (k := 33) (by decide +kernel) (by decide) (by decide +kernel) e124 rfl ?_
  refine xe_ldn (ins := .lload_n 2) (len := 1) (by decide +kernel) rfl rfl rfl rfl ?_
  obtain ⟨M125, e126, h⟩ := xbnd h
  refine xs_last (by decide +kernel) (xq_gi_in e124) e126 rfl ?_
  refine xe_alr (ins := .aload_n 0) (len := 1) (i := 0) (by decide +kernel) rfl rfl rfl rfl rfl ?_
  obtain ⟨v127, e128, h⟩ := xbnd h
  refine xs_gr (i := 778) (c := 13) (k := 29) (by decide +kernel) (by decide) (by decide +kernel) e128 rfl ?_
  refine xe_alr (ins := .aload_n 0) (len := 1) (i := 0) (by decide +kernel) rfl rfl rfl rfl rfl ?_
  obtain ⟨v129, e130, h⟩ := xbnd h
  refine xs_gi (i := 715) (c := 13) (k := 33) (by decide +kernel) (by decide) (by decide +kernel) e130 rfl ?_
  refine xe_ldn (ins := .iload 4) (len := 2) (by decide +kernel) rfl rfl rfl rfl ?_
  obtain ⟨M131, e132, h⟩ := xbnd h
  refine xs_iast (by decide +kernel) (xq_gi_in e130) e132 rfl ?_
  refine xe_iconst (n := 0) (by decide +kernel) rfl ?_
  refine xe_isr (ins := .istore 7) (len := 2) (i := 7) (by decide +kernel) rfl rfl rfl (by decide) (xk_k (show ¬ (0 : Nat) = 7 by decide) (Or.inl (show ¬ (0 + 1 : Nat) = 7 by decide)) (xk_k (show ¬ (1 : Nat) = 7 by decide) (Or.inl (show ¬ (1 + 1 : Nat) = 7 by decide)) (xk_k (show ¬ (2 : Nat) = 7 by decide) (Or.inl (show ¬ (2 + 1 : Nat) = 7 by decide)) (xk_k (show ¬ (4 : Nat) = 7 by decide) (Or.inl (show ¬ (4 + 1 : Nat) = 7 by decide)) (xk_k (show ¬ (5 : Nat) = 7 by decide) (Or.inl (show ¬ (5 + 1 : Nat) = 7 by decide)) (xk_k (show ¬ (6 : Nat) = 7 by decide) (Or.inr (xI_cat _)) xk_n)))))) rfl ?_
  refine xW_lv rfl (l := [(0, xR_ (a0)), (4, xI (a3)), (5, xR_ (a4)), (6, xI (a5)), (7, xI (0))]) (xsb_of ⟨rfl, rfl, rfl, rfl, rfl, trivial⟩ (show [7, 0, 1, 2, 4, 5, 6].Nodup by decide)) ?_
  exact k329_34   ha3 ha5 (show xin (0) by decide) h
-- ChangeHouseModel.met
def xr_330 : xj_mR := (15, yX15_met, cX15_met, 2, (Option.some Jvm.ClassFile.FieldType.long), 1, false, (11, 23), (1, 12))
set_option maxRecDepth 20000 in
theorem xr_330_e : xj_row 330 = some xr_330 := rfl
def f330_25   (f : Nat) (x0 : Nat) (M : xj_M) : Option (Int × xj_M) := ((xq_is 15 (x0) M).bind fun _ => ((f321  f (x0) M).bind fun R103 => (some (R103.1, R103.2))))
theorem k330_25 {d f : Nat}     {x0 : Nat} {M : xj_M} {R : Int × xj_M}  (h : f330_25   f x0 M = some R) : xW (d + 1) (none, d + 1, none) xr_330 (25, [(0, xR_ x0)], [], M) (xQl R) := by
  unfold f330_25 at h
  refine xe_alr (ins := .aload_n 0) (len := 1) (i := 0) (by decide +kernel) rfl rfl rfl rfl rfl ?_
  obtain ⟨_, e102, h⟩ := xbnd h
  obtain ⟨R103, e101, h⟩ := xbnd h
  refine xs_cv (i := 903) (j := 321) (ar := []) (rest := []) (r2 := xr_321) (by decide +kernel) (by decide +kernel) (by decide +kernel) xr_321_e rfl (by decide) (by decide) e102 ?_
  refine xc_i (k321 (d := d + 0)   e101) rfl (fun hi104 => ?_)
  refine xe_i2l (by decide +kernel) rfl hi104 ?_
  cases h
  exact xe_ret_l (by decide +kernel) rfl ⟨rfl, rfl, (xin_N hi104)⟩
def f330_51   (f : Nat) (y0 : Int) (M : xj_M) : Option (Int × xj_M) := (some (y0, M))
theorem k330_51 {d f : Nat}     {y0 : Int} {M : xj_M} {R : Int × xj_M} (hy0 : xiN y0) (h : f330_51   f y0 M = some R) : xW (d + 1) (none, d + 1, none) xr_330 (51, [], [xZ y0], M) (xQl R) := by
  unfold f330_51 at h
  cases h
  exact xe_ret_l (by decide +kernel) rfl ⟨rfl, rfl, hy0⟩
def f330  (f : Nat) (a0 : Nat) (a1 : Int) (M : xj_M) : Option (Int × xj_M) := ((xq_pi 15 74 (a0) (0) M).bind fun M105 => ((xq_gi 15 82 (a0) M105).bind fun v107 => (if (v107) = (-1) then f330_25   f (a0) M105 else (if (a1) < 0 then f330_25   f (a0) M105 else ((xq_gi 15 83 (a0) M105).bind fun v111 => (if (a1) ≤ (v111) then (if ¬ (a1) = 0 then ((xq_gr 15 81 (a0) M105).bind fun v115 => ((xq_al (v115) (xwr ((a1) - (1))) M105).bind fun v117 => f330_51   f (v117) M105)) else ((xq_gi 15 82 (a0) M105).bind fun v119 => f330_51   f (v119) M105)) else f330_25   f (a0) M105))))))
theorem k330 {d f : Nat}   {a0 : Nat} {a1 : Int} {M : xj_M} {R : Int × xj_M} (ha1 : xin a1) (h : f330  f a0 a1 M = some R) : xT (d + 2) 330 [xR_ a0, xI a1] M (xQl R) := by
  refine xT_m xr_330_e (X := (none, d + 1, none)) rfl (xa_1 (xR_cat _) (xa_1 (xI_cat _) xa_n)) (by decide) ?_
  unfold f330 at h
  refine xe_alr (ins := .aload_n 0) (len := 1) (i := 0) (by decide +kernel) rfl rfl rfl rfl rfl ?_
  refine xe_iconst (n := 0) (by decide +kernel) rfl ?_
  obtain ⟨M105, e106, h⟩ := xbnd h
  refine xs_p (i := 699) (c := 15) (k := 74) (by decide +kernel) (by decide +kernel) (by decide +kernel) e106 rfl ?_
  refine xe_alr (ins := .aload_n 0) (len := 1) (i := 0) (by decide +kernel) rfl rfl rfl rfl rfl ?_
  obtain ⟨v107, e108, h⟩ := xbnd h
  refine xs_gi (i := 926) (c := 15) (k := 82) (by decide +kernel) (by decide) (by decide +kernel) e108 rfl ?_
  refine xe_iconst (n := -1) (by decide +kernel) rfl ?_
  refine xe_icmpeq (off := 15) (t := 25) (by decide +kernel) (by decide) rfl (xq_gi_in e108) (show xin (-1) by decide) (fun c109 => ?_) (fun c109 => ?_)
  · rw [if_pos c109] at h
    refine xW_lv rfl (l := [(0, xR_ (a0))]) (xsb_of ⟨rfl, trivial⟩ (show [0, 1].Nodup by decide)) ?_
    exact k330_25    h
  · rw [if_neg c109] at h
    refine xe_ldn (ins := .iload_n 1) (len := 1) (by decide +kernel) rfl rfl rfl rfl ?_
    refine xe_iflt (off := 11) (t := 25) (by decide +kernel) (by decide) rfl ha1 (fun c110 => ?_) (fun c110 => ?_)
    · rw [if_pos c110] at h
      refine xW_lv rfl (l := [(0, xR_ (a0))]) (xsb_of ⟨rfl, trivial⟩ (show [0, 1].Nodup by decide)) ?_
      exact k330_25    h
    · rw [if_neg c110] at h
      refine xe_ldn (ins := .iload_n 1) (len := 1) (by decide +kernel) rfl rfl rfl rfl ?_
      refine xe_alr (ins := .aload_n 0) (len := 1) (i := 0) (by decide +kernel) rfl rfl rfl rfl rfl ?_
      obtain ⟨v111, e112, h⟩ := xbnd h
      refine xs_gi (i := 929) (c := 15) (k := 83) (by decide +kernel) (by decide) (by decide +kernel) e112 rfl ?_
      refine xe_icmple (off := 9) (t := 31) (by decide +kernel) (by decide) rfl ha1 (xq_gi_in e112) (fun c113 => ?_) (fun c113 => ?_)
      · rw [if_pos c113] at h
        refine xe_ldn (ins := .iload_n 1) (len := 1) (by decide +kernel) rfl rfl rfl rfl ?_
        refine xe_ifne (off := 11) (t := 43) (by decide +kernel) (by decide) rfl ha1 (fun c114 => ?_) (fun c114 => ?_)
        · rw [if_pos c114] at h
          refine xe_alr (ins := .aload_n 0) (len := 1) (i := 0) (by decide +kernel) rfl rfl rfl rfl rfl ?_
          obtain ⟨v115, e116, h⟩ := xbnd h
          refine xs_gr (i := 932) (c := 15) (k := 81) (by decide +kernel) (by decide) (by decide +kernel) e116 rfl ?_
          refine xe_ldn (ins := .iload_n 1) (len := 1) (by decide +kernel) rfl rfl rfl rfl ?_
          refine xe_iconst (n := 1) (by decide +kernel) rfl ?_
          refine xe_isub (by decide +kernel) rfl ?_
          obtain ⟨v117, e118, h⟩ := xbnd h
          refine xs_lald (by decide +kernel) (xin_wr _) e118 rfl ?_
          refine xW_lv rfl (l := []) (xsb_of trivial (show [0, 1].Nodup by decide)) ?_
          exact k330_51   (xq_al_in e118) h
        · rw [if_neg c114] at h
          refine xe_alr (ins := .aload_n 0) (len := 1) (i := 0) (by decide +kernel) rfl rfl rfl rfl rfl ?_
          obtain ⟨v119, e120, h⟩ := xbnd h
          refine xs_gi (i := 926) (c := 15) (k := 82) (by decide +kernel) (by decide) (by decide +kernel) e120 rfl ?_
          refine xe_i2l (by decide +kernel) rfl (xq_gi_in e120) ?_
          refine xe_goto (off := 11) (nx := 51) (by decide +kernel) (by decide) ?_
          refine xW_lv rfl (l := []) (xsb_of trivial (show [0, 1].Nodup by decide)) ?_
          exact k330_51   (xin_N (xq_gi_in e120)) h
      · rw [if_neg c113] at h
        refine xW_lv rfl (l := [(0, xR_ (a0))]) (xsb_of ⟨rfl, trivial⟩ (show [0, 1].Nodup by decide)) ?_
        exact k330_25    h
-- ChangeHouseModel.node
def xr_331 : xj_mR := (15, yX15_node, cX15_node, 7, (Option.some Jvm.ClassFile.FieldType.int), 5, false, (10, 113), (1, 12))
set_option maxRecDepth 20000 in
theorem xr_331_e : xj_row 331 = some xr_331 := rfl
def f331  (f : Nat) (a0 : Nat) (a1 : Int) (a2 : Int) (a3 : Int) (a4 : Int) (a5 : Int) (M : xj_M) : Option (Int × xj_M) := ((xq_gr 15 84 (a0) M).bind fun v101 => ((xq_gi 15 89 (a0) M).bind fun v103 => ((xq_si (v101) (v103) (a1) M).bind fun M105 => ((xq_gr 15 85 (a0) M105).bind fun v107 => ((xq_gi 15 89 (a0) M105).bind fun v109 => ((xq_si (v107) (v109) (a2) M105).bind fun M111 => ((xq_gr 15 86 (a0) M111).bind fun v113 => ((xq_gi 15 89 (a0) M111).bind fun v115 => ((xq_si (v113) (v115) (a3) M111).bind fun M117 => ((xq_gr 15 87 (a0) M117).bind fun v119 => ((xq_gi 15 89 (a0) M117).bind fun v121 => ((xq_si (v119) (v121) (a4) M117).bind fun M123 => ((xq_gr 15 88 (a0) M123).bind fun v125 => ((xq_gi 15 89 (a0) M123).bind fun v127 => ((xq_sl (v125) (v127) (a5) M123).bind fun M129 => ((xq_gi 15 89 (a0) M129).bind fun v131 => ((xq_pi 15 89 (a0) (xwr ((v131) + (1))) M129).bind fun M133 => ((xq_gi 15 89 (a0) M133).bind fun v135 => (some (xwr ((v135) - (1)), M133))))))))))))))))))))
theorem k331 {d f : Nat}   {a0 : Nat} {a1 : Int} {a2 : Int} {a3 : Int} {a4 : Int} {a5 : Int} {M : xj_M} {R : Int × xj_M} (ha1 : xin a1) (ha2 : xin a2) (ha3 : xin a3) (ha4 : xin a4) (ha5 : xiN a5) (h : f331  f a0 a1 a2 a3 a4 a5 M = some R) : xT (d + 1) 331 [xR_ a0, xI a1, xI a2, xI a3, xI a4, xZ a5] M (xQi R) := by
  refine xT_m xr_331_e (X := (none, d + 0, none)) rfl (xa_1 (xR_cat _) (xa_1 (xI_cat _) (xa_1 (xI_cat _) (xa_1 (xI_cat _) (xa_1 (xI_cat _) (xa_2 (xZ_cat _) xa_n)))))) (by decide) ?_
  unfold f331 at h
  refine xe_alr (ins := .aload_n 0) (len := 1) (i := 0) (by decide +kernel) rfl rfl rfl rfl rfl ?_
  obtain ⟨v101, e102, h⟩ := xbnd h
  refine xs_gr (i := 943) (c := 15) (k := 84) (by decide +kernel) (by decide) (by decide +kernel) e102 rfl ?_
  refine xe_alr (ins := .aload_n 0) (len := 1) (i := 0) (by decide +kernel) rfl rfl rfl rfl rfl ?_
  obtain ⟨v103, e104, h⟩ := xbnd h
  refine xs_gi (i := 946) (c := 15) (k := 89) (by decide +kernel) (by decide) (by decide +kernel) e104 rfl ?_
  refine xe_ldn (ins := .iload_n 1) (len := 1) (by decide +kernel) rfl rfl rfl rfl ?_
  obtain ⟨M105, e106, h⟩ := xbnd h
  refine xs_iast (by decide +kernel) (xq_gi_in e104) e106 rfl ?_
  refine xe_alr (ins := .aload_n 0) (len := 1) (i := 0) (by decide +kernel) rfl rfl rfl rfl rfl ?_
  obtain ⟨v107, e108, h⟩ := xbnd h
  refine xs_gr (i := 949) (c := 15) (k := 85) (by decide +kernel) (by decide) (by decide +kernel) e108 rfl ?_
  refine xe_alr (ins := .aload_n 0) (len := 1) (i := 0) (by decide +kernel) rfl rfl rfl rfl rfl ?_
  obtain ⟨v109, e110, h⟩ := xbnd h
  refine xs_gi (i := 946) (c := 15) (k := 89) (by decide +kernel) (by decide) (by decide +kernel) e110 rfl ?_
  refine xe_ldn (ins := .iload_n 2) (len := 1) (by decide +kernel) rfl rfl rfl rfl ?_
  obtain ⟨M111, e112, h⟩ := xbnd h
  refine xs_iast (by decide +kernel) (xq_gi_in e110) e112 rfl ?_
  refine xe_alr (ins := .aload_n 0) (len := 1) (i := 0) (by decide +kernel) rfl rfl rfl rfl rfl ?_
  obtain ⟨v113, e114, h⟩ := xbnd h
  refine xs_gr (i := 952) (c := 15) (k := 86) (by decide +kernel) (by decide) (by decide +kernel) e114 rfl ?_
  refine xe_alr (ins := .aload_n 0) (len := 1) (i := 0) (by decide +kernel) rfl rfl rfl rfl rfl ?_
  obtain ⟨v115, e116, h⟩ := xbnd h
  refine xs_gi (i := 946) (c := 15) (k := 89) (by decide +kernel) (by decide) (by decide +kernel) e116 rfl ?_
  refine xe_ldn (ins := .iload_n 3) (len := 1) (by decide +kernel) rfl rfl rfl rfl ?_
  obtain ⟨M117, e118, h⟩ := xbnd h
  refine xs_iast (by decide +kernel) (xq_gi_in e116) e118 rfl ?_
  refine xe_alr (ins := .aload_n 0) (len := 1) (i := 0) (by decide +kernel) rfl rfl rfl rfl rfl ?_
  obtain ⟨v119, e120, h⟩ := xbnd h
  refine xs_gr (i := 955) (c := 15) (k := 87) (by decide +kernel) (by decide) (by decide +kernel) e120 rfl ?_
  refine xe_alr (ins := .aload_n 0) (len := 1) (i := 0) (by decide +kernel) rfl rfl rfl rfl rfl ?_
  obtain ⟨v121, e122, h⟩ := xbnd h
  refine xs_gi (i := 946) (c := 15) (k := 89) (by decide +kernel) (by decide) (by decide +kernel) e122 rfl ?_
  refine xe_ldn (ins := .iload 4) (len := 2) (by decide +kernel) rfl rfl rfl rfl ?_
  obtain ⟨M123, e124, h⟩ := xbnd h
  refine xs_iast (by decide +kernel) (xq_gi_in e122) e124 rfl ?_
  refine xe_alr (ins := .aload_n 0) (len := 1) (i := 0) (by decide +kernel) rfl rfl rfl rfl rfl ?_
  obtain ⟨v125, e126, h⟩ := xbnd h
  refine xs_gr (i := 958) (c := 15) (k := 88) (by decide +kernel) (by decide) (by decide +kernel) e126 rfl ?_
  refine xe_alr (ins := .aload_n 0) (len := 1) (i := 0) (by decide +kernel) rfl rfl rfl rfl rfl ?_
  obtain ⟨v127, e128, h⟩ := xbnd h
  refine xs_gi (i := 946) (c := 15) (k := 89) (by decide +kernel) (by decide) (by decide +kernel) e128 rfl ?_
  refine xe_ldn (ins := .lload 5) (len := 2) (by decide +kernel) rfl rfl rfl rfl ?_
  obtain ⟨M129, e130, h⟩ := xbnd h
  refine xs_last (by decide +kernel) (xq_gi_in e128) e130 rfl ?_
  refine xe_alr (ins := .aload_n 0) (len := 1) (i := 0) (by decide +kernel) rfl rfl rfl rfl rfl ?_
  refine xe_dupr (by decide +kernel) rfl ?_
  obtain ⟨v131, e132, h⟩ := xbnd h
  refine xs_gi (i := 946) (c := 15) (k := 89) (by decide +kernel) (by decide) (by decide +kernel) e132 rfl ?_
  refine xe_iconst (n := 1) (by decide +kernel) rfl ?_
  refine xe_iadd (by decide +kernel) rfl ?_
  obtain ⟨M133, e134, h⟩ := xbnd h
  refine xs_p (i := 946) (c := 15) (k := 89) (by decide +kernel) (by decide +kernel) (by decide +kernel) e134 rfl ?_
  refine xe_alr (ins := .aload_n 0) (len := 1) (i := 0) (by decide +kernel) rfl rfl rfl rfl rfl ?_
  obtain ⟨v135, e136, h⟩ := xbnd h
  refine xs_gi (i := 946) (c := 15) (k := 89) (by decide +kernel) (by decide) (by decide +kernel) e136 rfl ?_
  refine xe_iconst (n := 1) (by decide +kernel) rfl ?_
  refine xe_isub (by decide +kernel) rfl ?_
  cases h
  exact xe_ret_i (ty := .int) (by decide +kernel) rfl rfl ⟨rfl, rfl, (xin_wr _)⟩
-- ChangeHouseModel.readsCell
def xr_342 : xj_mR := (15, yX15_readsCell, cX15_readsCell, 3, (Option.none : Option Jvm.ClassFile.FieldType), 2, false, (10, 133), (1, 12))
set_option maxRecDepth 20000 in
theorem xr_342_e : xj_row 342 = some xr_342 := rfl
def f342_36   (f : Nat)  (M : xj_M) : Option (xj_M) := (some M)
theorem k342_36 {d f : Nat}      {M : xj_M} {R : xj_M}  (h : f342_36   f  M = some R) : xW (d + 0) (none, d + 0, none) xr_342 (36, [], [], M) (xQv R) := by
  unfold f342_36 at h
  cases h
  exact xe_ret_v (by decide +kernel) rfl ⟨rfl, rfl⟩
def f342  (f : Nat) (a0 : Nat) (a1 : Int) (a2 : Int) (M : xj_M) : Option (xj_M) := (if (64) ≤ (a2) then ((xq_gr 15 93 (a0) M).bind fun v102 => ((xq_al (v102) (a1) M).bind fun v104 => ((xq_sl (v102) (a1) (xor8 (v104) (xshl8 (1) (xwr ((a2) - (64))))) M).bind fun M106 => f342_36   f  M106))) else ((xq_gr 15 92 (a0) M).bind fun v108 => ((xq_al (v108) (a1) M).bind fun v110 => ((xq_sl (v108) (a1) (xor8 (v110) (xshl8 (1) (a2))) M).bind fun M112 => f342_36   f  M112))))
theorem k342 {d f : Nat}   {a0 : Nat} {a1 : Int} {a2 : Int} {M : xj_M} {R : xj_M} (ha1 : xin a1) (ha2 : xin a2) (h : f342  f a0 a1 a2 M = some R) : xT (d + 1) 342 [xR_ a0, xI a1, xI a2] M (xQv R) := by
  refine xT_m xr_342_e (X := (none, d + 0, none)) rfl (xa_1 (xR_cat _) (xa_1 (xI_cat _) (xa_1 (xI_cat _) xa_n))) (by decide) ?_
  unfold f342 at h
  refine xe_ldn (ins := .iload_n 2) (len := 1) (by decide +kernel) rfl rfl rfl rfl ?_
  refine xe_bipush (n := 64) (by decide +kernel) (by decide) rfl ?_
  refine xe_icmpge (off := 18) (t := 21) (by decide +kernel) (by decide) rfl ha2 (show xin (64) by decide) (fun c101 => ?_) (fun c101 => ?_)
  · rw [if_pos c101] at h
    refine xe_alr (ins := .aload_n 0) (len := 1) (i := 0) (by decide +kernel) rfl rfl rfl rfl rfl ?_
    obtain ⟨v102, e103, h⟩ := xbnd h
    refine xs_gr (i := 1002) (c := 15) (k := 93) (by decide +kernel) (by decide) (by decide +kernel) e103 rfl ?_
    refine xe_ldn (ins := .iload_n 1) (len := 1) (by decide +kernel) rfl rfl rfl rfl ?_
    refine xe_dup2r (xI_cat _) (xR_cat _) (by decide +kernel) rfl ?_
    obtain ⟨v104, e105, h⟩ := xbnd h
    refine xs_lald (by decide +kernel) ha1 e105 rfl ?_
    refine xe_lconst (n := 1) (z := 1) (by decide +kernel) rfl rfl ?_
    refine xe_ldn (ins := .iload_n 2) (len := 1) (by decide +kernel) rfl rfl rfl rfl ?_
    refine xe_bipush (n := 64) (by decide +kernel) (by decide) rfl ?_
    refine xe_isub (by decide +kernel) rfl ?_
    refine xe_lshl (by decide +kernel) rfl ?_
    refine xe_lor (by decide +kernel) rfl ?_
    obtain ⟨M106, e107, h⟩ := xbnd h
    refine xs_last (by decide +kernel) ha1 e107 rfl ?_
    refine xW_lv rfl (l := []) (xsb_of trivial (show [0, 1, 2].Nodup by decide)) ?_
    exact k342_36    h
  · rw [if_neg c101] at h
    refine xe_alr (ins := .aload_n 0) (len := 1) (i := 0) (by decide +kernel) rfl rfl rfl rfl rfl ?_
    obtain ⟨v108, e109, h⟩ := xbnd h
    refine xs_gr (i := 999) (c := 15) (k := 92) (by decide +kernel) (by decide) (by decide +kernel) e109 rfl ?_
    refine xe_ldn (ins := .iload_n 1) (len := 1) (by decide +kernel) rfl rfl rfl rfl ?_
    refine xe_dup2r (xI_cat _) (xR_cat _) (by decide +kernel) rfl ?_
    obtain ⟨v110, e111, h⟩ := xbnd h
    refine xs_lald (by decide +kernel) ha1 e111 rfl ?_
    refine xe_lconst (n := 1) (z := 1) (by decide +kernel) rfl rfl ?_
    refine xe_ldn (ins := .iload_n 2) (len := 1) (by decide +kernel) rfl rfl rfl rfl ?_
    refine xe_lshl (by decide +kernel) rfl ?_
    refine xe_lor (by decide +kernel) rfl ?_
    obtain ⟨M112, e113, h⟩ := xbnd h
    refine xs_last (by decide +kernel) ha1 e113 rfl ?_
    refine xe_goto (off := 18) (nx := 36) (by decide +kernel) (by decide) ?_
    refine xW_lv rfl (l := []) (xsb_of trivial (show [0, 1, 2].Nodup by decide)) ?_
    exact k342_36    h
-- ChangeHouseModel.has
def xr_343 : xj_mR := (15, yX15_has, cX15_has, 5, (Option.some Jvm.ClassFile.FieldType.boolean), 3, false, (10, 142), (1, 12))
set_option maxRecDepth 20000 in
theorem xr_343_e : xj_row 343 = some xr_343 := rfl
def f343_33   (f : Nat) (y0 : Int) (M : xj_M) : Option (Int × xj_M) := (if (y0) = 0 ∨ (y0) = 1 then some (y0, M) else none)
theorem k343_33 {d f : Nat}     {y0 : Int} {M : xj_M} {R : Int × xj_M} (hy0 : xin y0) (h : f343_33   f y0 M = some R) : xW (d + 0) (none, d + 0, none) xr_343 (33, [], [xI y0], M) (xQi R) := by
  unfold f343_33 at h
  by_cases c101 : (y0) = 0 ∨ (y0) = 1
  · rw [if_pos c101] at h; cases h; exact xe_ret_i (ty := .boolean) (by decide +kernel) rfl (xbool c101) ⟨rfl, rfl, hy0⟩
  · rw [if_neg c101] at h; cases h
def f343_21   (f : Nat) (y0 : Int) (M : xj_M) : Option (Int × xj_M) := (if ¬ (xand8 (y0) (1)) = (1) then f343_33   f (0) M else f343_33   f (1) M)
theorem k343_21 {d f : Nat}     {y0 : Int} {M : xj_M} {R : Int × xj_M} (hy0 : xiN y0) (h : f343_21   f y0 M = some R) : xW (d + 0) (none, d + 0, none) xr_343 (21, [], [xZ y0], M) (xQi R) := by
  unfold f343_21 at h
  refine xe_lconst (n := 1) (z := 1) (by decide +kernel) rfl rfl ?_
  refine xe_land (by decide +kernel) rfl ?_
  refine xe_lconst (n := 1) (z := 1) (by decide +kernel) rfl rfl ?_
  refine xe_lcmp (by decide +kernel) rfl (xiN_of _) (show xiN (1) by decide) ?_
  refine xe_ifne (off := 7) (t := 32) (by decide +kernel) (by decide) rfl (xin_cmp8 _ _) (fun c102 => ?_) (fun c102 => ?_)
  · have c102 := xcmp8_ne.mp c102; rw [if_pos c102] at h
    refine xe_iconst (n := 0) (by decide +kernel) rfl ?_
    refine xW_lv rfl (l := []) (xsb_of trivial (show [].Nodup by decide)) ?_
    exact k343_33   (show xin (0) by decide) h
  · have c102 := (not_congr xcmp8_ne).mp c102; rw [if_neg c102] at h
    refine xe_iconst (n := 1) (by decide +kernel) rfl ?_
    refine xe_goto (off := 4) (nx := 33) (by decide +kernel) (by decide) ?_
    refine xW_lv rfl (l := []) (xsb_of trivial (show [].Nodup by decide)) ?_
    exact k343_33   (show xin (1) by decide) h
def f343  (f : Nat) (a0 : Int) (a1 : Int) (a2 : Int) (M : xj_M) : Option (Int × xj_M) := (if (64) ≤ (a2) then f343_21   f (xshr8 (a1) (xwr ((a2) - (64)))) M else f343_21   f (xshr8 (a0) (a2)) M)
theorem k343 {d f : Nat}   {a0 : Int} {a1 : Int} {a2 : Int} {M : xj_M} {R : Int × xj_M} (ha0 : xiN a0) (ha1 : xiN a1) (ha2 : xin a2) (h : f343  f a0 a1 a2 M = some R) : xT (d + 1) 343 [xZ a0, xZ a1, xI a2] M (xQi R) := by
  refine xT_m xr_343_e (X := (none, d + 0, none)) rfl (xa_2 (xZ_cat _) (xa_2 (xZ_cat _) (xa_1 (xI_cat _) xa_n))) (by decide) ?_
  unfold f343 at h
  refine xe_ldn (ins := .iload 4) (len := 2) (by decide +kernel) rfl rfl rfl rfl ?_
  refine xe_bipush (n := 64) (by decide +kernel) (by decide) rfl ?_
  refine xe_icmpge (off := 10) (t := 14) (by decide +kernel) (by decide) rfl ha2 (show xin (64) by decide) (fun c103 => ?_) (fun c103 => ?_)
  · rw [if_pos c103] at h
    refine xe_ldn (ins := .lload_n 2) (len := 1) (by decide +kernel) rfl rfl rfl rfl ?_
    refine xe_ldn (ins := .iload 4) (len := 2) (by decide +kernel) rfl rfl rfl rfl ?_
    refine xe_bipush (n := 64) (by decide +kernel) (by decide) rfl ?_
    refine xe_isub (by decide +kernel) rfl ?_
    refine xe_lshr (by decide +kernel) rfl ?_
    refine xW_lv rfl (l := []) (xsb_of trivial (show [0, 2, 4].Nodup by decide)) ?_
    exact k343_21   (xiN_of _) h
  · rw [if_neg c103] at h
    refine xe_ldn (ins := .lload_n 0) (len := 1) (by decide +kernel) rfl rfl rfl rfl ?_
    refine xe_ldn (ins := .iload 4) (len := 2) (by decide +kernel) rfl rfl rfl rfl ?_
    refine xe_lshr (by decide +kernel) rfl ?_
    refine xe_goto (off := 10) (nx := 21) (by decide +kernel) (by decide) ?_
    refine xW_lv rfl (l := []) (xsb_of trivial (show [0, 2, 4].Nodup by decide)) ?_
    exact k343_21   (xiN_of _) h
-- ChangeHouseModel.isWithin
def xr_345 : xj_mR := (15, yX15_isWithin, cX15_isWithin, 3, (Option.some Jvm.ClassFile.FieldType.boolean), 3, false, (10, 136), (1, 12))
set_option maxRecDepth 20000 in
theorem xr_345_e : xj_row 345 = some xr_345 := rfl
def f345_49   (f : Nat) (y0 : Int) (M : xj_M) : Option (Int × xj_M) := (if (y0) = 0 ∨ (y0) = 1 then some (y0, M) else none)
theorem k345_49 {d f : Nat}     {y0 : Int} {M : xj_M} {R : Int × xj_M} (hy0 : xin y0) (h : f345_49   f y0 M = some R) : xW (d + 0) (none, d + 0, none) xr_345 (49, [], [xI y0], M) (xQi R) := by
  unfold f345_49 at h
  by_cases c101 : (y0) = 0 ∨ (y0) = 1
  · rw [if_pos c101] at h; cases h; exact xe_ret_i (ty := .boolean) (by decide +kernel) rfl (xbool c101) ⟨rfl, rfl, hy0⟩
  · rw [if_neg c101] at h; cases h
def f345_48   (f : Nat)  (M : xj_M) : Option (Int × xj_M) := f345_49   f (0) M
theorem k345_48 {d f : Nat}      {M : xj_M} {R : Int × xj_M}  (h : f345_48   f  M = some R) : xW (d + 0) (none, d + 0, none) xr_345 (48, [], [], M) (xQi R) := by
  unfold f345_48 at h
  refine xe_iconst (n := 0) (by decide +kernel) rfl ?_
  refine xW_lv rfl (l := []) (xsb_of trivial (show [].Nodup by decide)) ?_
  exact k345_49   (show xin (0) by decide) h
def f345  (f : Nat) (a0 : Int) (a1 : Int) (a2 : Int) (M : xj_M) : Option (Int × xj_M) := (if (xrem (a0) (6)) < (xrem (a1) (6)) then f345_48   f  M else (if (xrem (a2) (6)) < (xrem (a0) (6)) then f345_48   f  M else (if (xdiv (a0) (6)) < (xdiv (a1) (6)) then f345_48   f  M else (if (xdiv (a2) (6)) < (xdiv (a0) (6)) then f345_48   f  M else f345_49   f (1) M))))
theorem k345 {d f : Nat}   {a0 : Int} {a1 : Int} {a2 : Int} {M : xj_M} {R : Int × xj_M} (ha0 : xin a0) (ha1 : xin a1) (ha2 : xin a2) (h : f345  f a0 a1 a2 M = some R) : xT (d + 1) 345 [xI a0, xI a1, xI a2] M (xQi R) := by
  refine xT_m xr_345_e (X := (none, d + 0, none)) rfl (xa_1 (xI_cat _) (xa_1 (xI_cat _) (xa_1 (xI_cat _) xa_n))) (by decide) ?_
  unfold f345 at h
  refine xe_ldn (ins := .iload_n 0) (len := 1) (by decide +kernel) rfl rfl rfl rfl ?_
  refine xe_bipush (n := 6) (by decide +kernel) (by decide) rfl ?_
  refine xe_irem (by decide +kernel) rfl (show xin (6) by decide) (by decide) ?_
  refine xe_ldn (ins := .iload_n 1) (len := 1) (by decide +kernel) rfl rfl rfl rfl ?_
  refine xe_bipush (n := 6) (by decide +kernel) (by decide) rfl ?_
  refine xe_irem (by decide +kernel) rfl (show xin (6) by decide) (by decide) ?_
  refine xe_icmplt (off := 40) (t := 48) (by decide +kernel) (by decide) rfl (xin_of _) (xin_of _) (fun c104 => ?_) (fun c104 => ?_)
  · rw [if_pos c104] at h
    refine xW_lv rfl (l := []) (xsb_of trivial (show [0, 1, 2].Nodup by decide)) ?_
    exact k345_48    h
  · rw [if_neg c104] at h
    refine xe_ldn (ins := .iload_n 0) (len := 1) (by decide +kernel) rfl rfl rfl rfl ?_
    refine xe_bipush (n := 6) (by decide +kernel) (by decide) rfl ?_
    refine xe_irem (by decide +kernel) rfl (show xin (6) by decide) (by decide) ?_
    refine xe_ldn (ins := .iload_n 2) (len := 1) (by decide +kernel) rfl rfl rfl rfl ?_
    refine xe_bipush (n := 6) (by decide +kernel) (by decide) rfl ?_
    refine xe_irem (by decide +kernel) rfl (show xin (6) by decide) (by decide) ?_
    refine xe_icmpgt (off := 29) (t := 48) (by decide +kernel) (by decide) rfl (xin_of _) (xin_of _) (fun c107 => ?_) (fun c107 => ?_)
    · rw [if_pos c107] at h
      refine xW_lv rfl (l := []) (xsb_of trivial (show [0, 1, 2].Nodup by decide)) ?_
      exact k345_48    h
    · rw [if_neg c107] at h
      refine xe_ldn (ins := .iload_n 0) (len := 1) (by decide +kernel) rfl rfl rfl rfl ?_
      refine xe_bipush (n := 6) (by decide +kernel) (by decide) rfl ?_
      refine xe_idiv (by decide +kernel) rfl (show xin (6) by decide) (by decide) ?_
      refine xe_ldn (ins := .iload_n 1) (len := 1) (by decide +kernel) rfl rfl rfl rfl ?_
      refine xe_bipush (n := 6) (by decide +kernel) (by decide) rfl ?_
      refine xe_idiv (by decide +kernel) rfl (show xin (6) by decide) (by decide) ?_
      refine xe_icmplt (off := 18) (t := 48) (by decide +kernel) (by decide) rfl (xin_of _) (xin_of _) (fun c110 => ?_) (fun c110 => ?_)
      · rw [if_pos c110] at h
        refine xW_lv rfl (l := []) (xsb_of trivial (show [0, 1, 2].Nodup by decide)) ?_
        exact k345_48    h
      · rw [if_neg c110] at h
        refine xe_ldn (ins := .iload_n 0) (len := 1) (by decide +kernel) rfl rfl rfl rfl ?_
        refine xe_bipush (n := 6) (by decide +kernel) (by decide) rfl ?_
        refine xe_idiv (by decide +kernel) rfl (show xin (6) by decide) (by decide) ?_
        refine xe_ldn (ins := .iload_n 2) (len := 1) (by decide +kernel) rfl rfl rfl rfl ?_
        refine xe_bipush (n := 6) (by decide +kernel) (by decide) rfl ?_
        refine xe_idiv (by decide +kernel) rfl (show xin (6) by decide) (by decide) ?_
        refine xe_icmpgt (off := 7) (t := 48) (by decide +kernel) (by decide) rfl (xin_of _) (xin_of _) (fun c113 => ?_) (fun c113 => ?_)
        · rw [if_pos c113] at h
          refine xW_lv rfl (l := []) (xsb_of trivial (show [0, 1, 2].Nodup by decide)) ?_
          exact k345_48    h
        · rw [if_neg c113] at h
          refine xe_iconst (n := 1) (by decide +kernel) rfl ?_
          refine xe_goto (off := 4) (nx := 49) (by decide +kernel) (by decide) ?_
          refine xW_lv rfl (l := []) (xsb_of trivial (show [0, 1, 2].Nodup by decide)) ?_
          exact k345_49   (show xin (1) by decide) h
-- ChangeHouseModel.waits
def xr_347 : xj_mR := (15, yX15_waits, cX15_waits, 3, (Option.some Jvm.ClassFile.FieldType.boolean), 1, false, (10, 146), (1, 12))
set_option maxRecDepth 20000 in
theorem xr_347_e : xj_row 347 = some xr_347 := rfl
def f347_38  (r2 : Nat → Int → Int → xj_M → Option (Int × xj_M)) (f : Nat) (x0 : Nat) (x1 : Int) (x2 : Int) (M : xj_M) : Option (Int × xj_M) := r2 (x0) (x1) (xwr ((x2) + (1))) M
theorem k347_38 {d f : Nat}  {r2 : Nat → Int → Int → xj_M → Option (Int × xj_M)}  (hr2 : ∀ {x0 : Nat} {x1 : Int} {x2 : Int} {M : xj_M} {R : Int × xj_M}, xin x1 → xin x2 → r2 x0 x1 x2 M = some R → xW (d + 1) (none, d + 1, none) xr_347 (2, [(0, xR_ x0), (1, xI x1), (2, xI x2)], [], M) (xQi R)) {x0 : Nat} {x1 : Int} {x2 : Int} {M : xj_M} {R : Int × xj_M} (hx1 : xin x1) (hx2 : xin x2) (h : f347_38  r2 f x0 x1 x2 M = some R) : xW (d + 1) (none, d + 1, none) xr_347 (38, [(0, xR_ x0), (1, xI x1), (2, xI x2)], [], M) (xQi R) := by
  unfold f347_38 at h
  refine xe_iincr (i := 2) (n := 1) (by decide +kernel) (by decide) rfl (xk_k (show ¬ (0 : Nat) = 2 by decide) (Or.inl (show ¬ (0 + 1 : Nat) = 2 by decide)) (xk_k (show ¬ (1 : Nat) = 2 by decide) (Or.inr (xI_cat _)) (xk_d rfl xk_n))) rfl ?_
  refine xe_goto (off := -39) (nx := 2) (by decide +kernel) (by decide) ?_
  refine xW_lv rfl (l := [(0, xR_ (x0)), (1, xI (x1)), (2, xI (xwr ((x2) + (1))))]) (xsb_of ⟨rfl, rfl, rfl, trivial⟩ (show [2, 0, 1].Nodup by decide)) ?_
  exact hr2 hx1 (xin_wr _) h
def f347_2b  (r2 : Nat → Int → Int → xj_M → Option (Int × xj_M)) (f : Nat) (x0 : Nat) (x1 : Int) (x2 : Int) (M : xj_M) : Option (Int × xj_M) := (if (72) ≤ (x2) then (some (0, M)) else ((xq_gr 15 92 (x0) M).bind fun v102 => ((xq_al (v102) (x1) M).bind fun v104 => ((xq_gr 15 93 (x0) M).bind fun v106 => ((xq_al (v106) (x1) M).bind fun v108 => ((f343  f (v104) (v108) (x2) M).bind fun R111 => (if (R111.1) = 0 then f347_38  r2 f (x0) (x1) (x2) R111.2 else ((xq_gr 15 96 (x0) R111.2).bind fun v114 => ((xq_ab (v114) (x2) R111.2).bind fun v116 => (if ¬ (v116) = 0 then f347_38  r2 f (x0) (x1) (x2) R111.2 else (some (1, R111.2))))))))))))
theorem k347_2b {d f : Nat}  {r2 : Nat → Int → Int → xj_M → Option (Int × xj_M)}  (hr2 : ∀ {x0 : Nat} {x1 : Int} {x2 : Int} {M : xj_M} {R : Int × xj_M}, xin x1 → xin x2 → r2 x0 x1 x2 M = some R → xW (d + 1) (none, d + 1, none) xr_347 (2, [(0, xR_ x0), (1, xI x1), (2, xI x2)], [], M) (xQi R)) {x0 : Nat} {x1 : Int} {x2 : Int} {M : xj_M} {R : Int × xj_M} (hx1 : xin x1) (hx2 : xin x2) (h : f347_2b  r2 f x0 x1 x2 M = some R) : xW (d + 1) (none, d + 1, none) xr_347 (2, [(0, xR_ x0), (1, xI x1), (2, xI x2)], [], M) (xQi R) := by
  unfold f347_2b at h
  refine xe_ldn (ins := .iload_n 2) (len := 1) (by decide +kernel) rfl rfl rfl rfl ?_
  refine xe_bipush (n := 72) (by decide +kernel) (by decide) rfl ?_
  refine xe_icmpge (off := 39) (t := 44) (by decide +kernel) (by decide) rfl hx2 (show xin (72) by decide) (fun c101 => ?_) (fun c101 => ?_)
  · rw [if_pos c101] at h
    refine xe_iconst (n := 0) (by decide +kernel) rfl ?_
    cases h
    exact xe_ret_i (ty := .boolean) (by decide +kernel) rfl (by decide) ⟨rfl, rfl, (show xin (0) by decide)⟩
  · rw [if_neg c101] at h
    refine xe_alr (ins := .aload_n 0) (len := 1) (i := 0) (by decide +kernel) rfl rfl rfl rfl rfl ?_
    obtain ⟨v102, e103, h⟩ := xbnd h
    refine xs_gr (i := 999) (c := 15) (k := 92) (by decide +kernel) (by decide) (by decide +kernel) e103 rfl ?_
    refine xe_ldn (ins := .iload_n 1) (len := 1) (by decide +kernel) rfl rfl rfl rfl ?_
    obtain ⟨v104, e105, h⟩ := xbnd h
    refine xs_lald (by decide +kernel) hx1 e105 rfl ?_
    refine xe_alr (ins := .aload_n 0) (len := 1) (i := 0) (by decide +kernel) rfl rfl rfl rfl rfl ?_
    obtain ⟨v106, e107, h⟩ := xbnd h
    refine xs_gr (i := 1002) (c := 15) (k := 93) (by decide +kernel) (by decide) (by decide +kernel) e107 rfl ?_
    refine xe_ldn (ins := .iload_n 1) (len := 1) (by decide +kernel) rfl rfl rfl rfl ?_
    obtain ⟨v108, e109, h⟩ := xbnd h
    refine xs_lald (by decide +kernel) hx1 e109 rfl ?_
    refine xe_ldn (ins := .iload_n 2) (len := 1) (by decide +kernel) rfl rfl rfl rfl ?_
    obtain ⟨R111, e110, h⟩ := xbnd h
    refine xs_cs (kd := 2) (by decide) (i := 1036) (j := 343) (ar := [xI (x2), xZ (v108), xZ (v104)]) (rest := []) (r2 := xr_343) (by decide +kernel) (by decide +kernel) (by decide +kernel) xr_343_e rfl (by decide) ?_
    refine xc_i (k343 (d := d + 0)  (xq_al_in e105) (xq_al_in e109) hx2 e110) rfl (fun hi112 => ?_)
    refine xe_ifeq (off := 14) (t := 38) (by decide +kernel) (by decide) rfl hi112 (fun c113 => ?_) (fun c113 => ?_)
    · rw [if_pos c113] at h
      refine xW_lv rfl (l := [(0, xR_ (x0)), (1, xI (x1)), (2, xI (x2))]) (xsb_of ⟨rfl, rfl, rfl, trivial⟩ (show [0, 1, 2].Nodup by decide)) ?_
      exact k347_38  hr2 hx1 hx2 h
    · rw [if_neg c113] at h
      refine xe_alr (ins := .aload_n 0) (len := 1) (i := 0) (by decide +kernel) rfl rfl rfl rfl rfl ?_
      obtain ⟨v114, e115, h⟩ := xbnd h
      refine xs_gr (i := 1029) (c := 15) (k := 96) (by decide +kernel) (by decide) (by decide +kernel) e115 rfl ?_
      refine xe_ldn (ins := .iload_n 2) (len := 1) (by decide +kernel) rfl rfl rfl rfl ?_
      obtain ⟨v116, e117, h⟩ := xbnd h
      refine xs_bald (by decide +kernel) hx2 e117 rfl ?_
      refine xe_ifne (off := 5) (t := 38) (by decide +kernel) (by decide) rfl (xq_ab_in e117) (fun c118 => ?_) (fun c118 => ?_)
      · rw [if_pos c118] at h
        refine xW_lv rfl (l := [(0, xR_ (x0)), (1, xI (x1)), (2, xI (x2))]) (xsb_of ⟨rfl, rfl, rfl, trivial⟩ (show [0, 1, 2].Nodup by decide)) ?_
        exact k347_38  hr2 hx1 hx2 h
      · rw [if_neg c118] at h
        refine xe_iconst (n := 1) (by decide +kernel) rfl ?_
        cases h
        exact xe_ret_i (ty := .boolean) (by decide +kernel) rfl (by decide) ⟨rfl, rfl, (show xin (1) by decide)⟩
def f347_2   (f : Nat) : Nat → Nat → Int → Int → xj_M → Option (Int × xj_M)
  | 0, _, _, _, _ => none
  | n + 1, x0, x1, x2, M => f347_2b   (f347_2   f n) f x0 x1 x2 M
theorem k347_2 {d f : Nat}     : ∀ {n : Nat} {x0 : Nat} {x1 : Int} {x2 : Int} {M : xj_M} {R : Int × xj_M}, xin x1 → xin x2 → f347_2   f n x0 x1 x2 M = some R → xW (d + 1) (none, d + 1, none) xr_347 (2, [(0, xR_ x0), (1, xI x1), (2, xI x2)], [], M) (xQi R) := by
  intro n
  induction n with
  | zero => intros; rename_i h; cases h
  | succ n ih => intros; rename_i h; exact k347_2b   ih (by assumption) (by assumption) h
def f347  (f : Nat) (a0 : Nat) (a1 : Int) (M : xj_M) : Option (Int × xj_M) := f347_2   f f (a0) (a1) (0) M
theorem k347 {d f : Nat}   {a0 : Nat} {a1 : Int} {M : xj_M} {R : Int × xj_M} (ha1 : xin a1) (h : f347  f a0 a1 M = some R) : xT (d + 2) 347 [xR_ a0, xI a1] M (xQi R) := by
  refine xT_m xr_347_e (X := (none, d + 1, none)) rfl (xa_1 (xR_cat _) (xa_1 (xI_cat _) xa_n)) (by decide) ?_
  unfold f347 at h
  refine xe_iconst (n := 0) (by decide +kernel) rfl ?_
  refine xe_isr (ins := .istore_n 2) (len := 1) (i := 2) (by decide +kernel) rfl rfl rfl (by decide) (xk_k (show ¬ (0 : Nat) = 2 by decide) (Or.inl (show ¬ (0 + 1 : Nat) = 2 by decide)) (xk_k (show ¬ (1 : Nat) = 2 by decide) (Or.inr (xI_cat _)) xk_n)) rfl ?_
  refine xW_lv rfl (l := [(0, xR_ (a0)), (1, xI (a1)), (2, xI (0))]) (xsb_of ⟨rfl, rfl, rfl, trivial⟩ (show [2, 0, 1].Nodup by decide)) ?_
  exact k347_2   ha1 (show xin (0) by decide) h
-- ChangeHouseModel.setCell
def xr_348 : xj_mR := (15, yX15_setCell, cX15_setCell, 5, (Option.none : Option Jvm.ClassFile.FieldType), 4, false, (10, 139), (1, 12))
set_option maxRecDepth 20000 in
theorem xr_348_e : xj_row 348 = some xr_348 := rfl
def f348  (f : Nat) (a0 : Nat) (a1 : Int) (a2 : Int) (a3 : Int) (M : xj_M) : Option (xj_M) := ((xq_gr 13 20 (a0) M).bind fun v101 => ((xq_si (v101) (a1) (a2) M).bind fun M103 => ((xq_gr 13 23 (a0) M103).bind fun v105 => ((xq_sl (v105) (a1) (a3) M103).bind fun M107 => (some M107)))))
theorem k348 {d f : Nat}   {a0 : Nat} {a1 : Int} {a2 : Int} {a3 : Int} {M : xj_M} {R : xj_M} (ha1 : xin a1) (ha2 : xin a2) (ha3 : xiN a3) (h : f348  f a0 a1 a2 a3 M = some R) : xT (d + 1) 348 [xR_ a0, xI a1, xI a2, xZ a3] M (xQv R) := by
  refine xT_m xr_348_e (X := (none, d + 0, none)) rfl (xa_1 (xR_cat _) (xa_1 (xI_cat _) (xa_1 (xI_cat _) (xa_2 (xZ_cat _) xa_n)))) (by decide) ?_
  unfold f348 at h
  refine xe_alr (ins := .aload_n 0) (len := 1) (i := 0) (by decide +kernel) rfl rfl rfl rfl rfl ?_
  obtain ⟨v101, e102, h⟩ := xbnd h
  refine xs_gr (i := 1045) (c := 13) (k := 20) (by decide +kernel) (by decide) (by decide +kernel) e102 rfl ?_
  refine xe_ldn (ins := .iload_n 1) (len := 1) (by decide +kernel) rfl rfl rfl rfl ?_
  refine xe_ldn (ins := .iload_n 2) (len := 1) (by decide +kernel) rfl rfl rfl rfl ?_
  obtain ⟨M103, e104, h⟩ := xbnd h
  refine xs_iast (by decide +kernel) ha1 e104 rfl ?_
  refine xe_alr (ins := .aload_n 0) (len := 1) (i := 0) (by decide +kernel) rfl rfl rfl rfl rfl ?_
  obtain ⟨v105, e106, h⟩ := xbnd h
  refine xs_gr (i := 1048) (c := 13) (k := 23) (by decide +kernel) (by decide) (by decide +kernel) e106 rfl ?_
  refine xe_ldn (ins := .iload_n 1) (len := 1) (by decide +kernel) rfl rfl rfl rfl ?_
  refine xe_ldn (ins := .lload_n 3) (len := 1) (by decide +kernel) rfl rfl rfl rfl ?_
  obtain ⟨M107, e108, h⟩ := xbnd h
  refine xs_last (by decide +kernel) ha1 e108 rfl ?_
  cases h
  exact xe_ret_v (by decide +kernel) rfl ⟨rfl, rfl⟩
-- ChangeHouseModel.overCells
def xr_352 : xj_mR := (15, yX15_overCells, cX15_overCells, 7, (Option.some Jvm.ClassFile.FieldType.long), 2, false, (10, 162), (1, 12))
set_option maxRecDepth 20000 in
theorem xr_352_e : xj_row 352 = some xr_352 := rfl
def f352_99  (r8 : Nat → Nat → Int → Int → Int → Int → xj_M → Option (Int × xj_M)) (f : Nat) (x0 : Nat) (x1 : Nat) (x2 : Int) (x3 : Int) (x5 : Int) (x6 : Int) (M : xj_M) : Option (Int × xj_M) := r8 (x0) (x1) (x2) (x3) (x5) (xwr ((x6) + (1))) M
theorem k352_99 {d f : Nat}  {r8 : Nat → Nat → Int → Int → Int → Int → xj_M → Option (Int × xj_M)}  (hr8 : ∀ {x0 : Nat} {x1 : Nat} {x2 : Int} {x3 : Int} {x5 : Int} {x6 : Int} {M : xj_M} {R : Int × xj_M}, xin x2 → xiN x3 → xin x5 → xin x6 → r8 x0 x1 x2 x3 x5 x6 M = some R → xW (d + 1) (none, d + 1, none) xr_352 (8, [(0, xR_ x0), (1, xR_ x1), (2, xI x2), (3, xZ x3), (5, xI x5), (6, xI x6)], [], M) (xQl R)) {x0 : Nat} {x1 : Nat} {x2 : Int} {x3 : Int} {x5 : Int} {x6 : Int} {M : xj_M} {R : Int × xj_M} (hx2 : xin x2) (hx3 : xiN x3) (hx5 : xin x5) (hx6 : xin x6) (h : f352_99  r8 f x0 x1 x2 x3 x5 x6 M = some R) : xW (d + 1) (none, d + 1, none) xr_352 (99, [(0, xR_ x0), (1, xR_ x1), (2, xI x2), (3, xZ x3), (5, xI x5), (6, xI x6)], [], M) (xQl R) := by
  unfold f352_99 at h
  refine xe_iincr (i := 6) (n := 1) (by decide +kernel) (by decide) rfl (xk_k (show ¬ (0 : Nat) = 6 by decide) (Or.inl (show ¬ (0 + 1 : Nat) = 6 by decide)) (xk_k (show ¬ (1 : Nat) = 6 by decide) (Or.inl (show ¬ (1 + 1 : Nat) = 6 by decide)) (xk_k (show ¬ (2 : Nat) = 6 by decide) (Or.inl (show ¬ (2 + 1 : Nat) = 6 by decide)) (xk_k (show ¬ (3 : Nat) = 6 by decide) (Or.inl (show ¬ (3 + 1 : Nat) = 6 by decide)) (xk_k (show ¬ (5 : Nat) = 6 by decide) (Or.inr (xI_cat _)) (xk_d rfl xk_n)))))) rfl ?_
  refine xe_goto (off := -94) (nx := 8) (by decide +kernel) (by decide) ?_
  refine xW_lv rfl (l := [(0, xR_ (x0)), (1, xR_ (x1)), (2, xI (x2)), (3, xZ (x3)), (5, xI (x5)), (6, xI (xwr ((x6) + (1))))]) (xsb_of ⟨rfl, rfl, rfl, rfl, rfl, rfl, trivial⟩ (show [6, 0, 1, 2, 3, 5].Nodup by decide)) ?_
  exact hr8 hx2 hx3 hx5 (xin_wr _) h
def f352_140   (f : Nat) (x3 : Int) (M : xj_M) : Option (Int × xj_M) := (some (x3, M))
theorem k352_140 {d f : Nat}     {x3 : Int} {M : xj_M} {R : Int × xj_M} (hx3 : xiN x3) (h : f352_140   f x3 M = some R) : xW (d + 1) (none, d + 1, none) xr_352 (140, [(3, xZ x3)], [], M) (xQl R) := by
  unfold f352_140 at h
  refine xe_ldn (ins := .lload_n 3) (len := 1) (by decide +kernel) rfl rfl rfl rfl ?_
  cases h
  exact xe_ret_l (by decide +kernel) rfl ⟨rfl, rfl, hx3⟩
def f352_135   (f : Nat) (x0 : Nat) (x3 : Int) (M : xj_M) : Option (Int × xj_M) := ((xq_pi 15 91 (x0) (3) M).bind fun M101 => f352_140   f (x3) M101)
theorem k352_135 {d f : Nat}     {x0 : Nat} {x3 : Int} {M : xj_M} {R : Int × xj_M} (hx3 : xiN x3) (h : f352_135   f x0 x3 M = some R) : xW (d + 1) (none, d + 1, none) xr_352 (135, [(0, xR_ x0), (3, xZ x3)], [], M) (xQl R) := by
  unfold f352_135 at h
  refine xe_alr (ins := .aload_n 0) (len := 1) (i := 0) (by decide +kernel) rfl rfl rfl rfl rfl ?_
  refine xe_iconst (n := 3) (by decide +kernel) rfl ?_
  obtain ⟨M101, e102, h⟩ := xbnd h
  refine xs_p (i := 1051) (c := 15) (k := 91) (by decide +kernel) (by decide +kernel) (by decide +kernel) e102 rfl ?_
  refine xW_lv rfl (l := [(3, xZ (x3))]) (xsb_of ⟨rfl, trivial⟩ (show [0, 3].Nodup by decide)) ?_
  exact k352_140   hx3 h
def f352_8b  (r8 : Nat → Nat → Int → Int → Int → Int → xj_M → Option (Int × xj_M)) (f : Nat) (x0 : Nat) (x1 : Nat) (x2 : Int) (x3 : Int) (x5 : Int) (x6 : Int) (M : xj_M) : Option (Int × xj_M) := (if (72) ≤ (x6) then ((xq_gr 15 84 (x0) M).bind fun v104 => ((xq_ai 3 (v104) (x2) M).bind fun v106 => (if ¬ (v106) = (5) then (if (1000000000000) < (x3) then f352_135   f (x0) (x3) M else (if (-1000000000000) ≤ (x3) then f352_140   f (x3) M else f352_135   f (x0) (x3) M)) else (some (x5, M))))) else ((xq_gr 15 85 (x0) M).bind fun v111 => ((xq_ai 3 (v111) (x2) M).bind fun v113 => ((xq_gr 15 86 (x0) M).bind fun v115 => ((xq_ai 3 (v115) (x2) M).bind fun v117 => ((f345  f (x6) (v113) (v117) M).bind fun R120 => (if (R120.1) = 0 then f352_99  r8 f (x0) (x1) (x2) (x3) (x5) (x6) R120.2 else ((xq_gr 13 20 (x1) R120.2).bind fun v123 => ((xq_ai 3 (v123) (x6) R120.2).bind fun v125 => (if ¬ (v125) = 0 then ((xq_gr 13 20 (x1) R120.2).bind fun v128 => ((xq_ai 3 (v128) (x6) R120.2).bind fun v130 => (if ¬ (v130) = (2) then ((xq_gr 13 23 (x1) R120.2).bind fun v133 => ((xq_al (v133) (x6) R120.2).bind fun v135 => ((f267  f (v135) R120.2).bind fun R138 => (if ¬ (R138.1) = 0 then f352_99  r8 f (x0) (x1) (x2) (x3) (xwr ((x5) + (1))) (x6) R138.2 else ((xq_gr 13 23 (x1) R138.2).bind fun v141 => ((xq_al (v141) (x6) R138.2).bind fun v143 => f352_99  r8 f (x0) (x1) (x2) (xwl ((x3) + (v143))) (xwr ((x5) + (1))) (x6) R138.2)))))) else ((xq_gr 13 23 (x1) R120.2).bind fun v145 => ((xq_al (v145) (x6) R120.2).bind fun v147 => ((xq_pi 15 91 (x0) (xwr (v147)) R120.2).bind fun M149 => (some (0, M149)))))))) else f352_99  r8 f (x0) (x1) (x2) (x3) (x5) (x6) R120.2))))))))))
theorem k352_8b {d f : Nat}  {r8 : Nat → Nat → Int → Int → Int → Int → xj_M → Option (Int × xj_M)}  (hr8 : ∀ {x0 : Nat} {x1 : Nat} {x2 : Int} {x3 : Int} {x5 : Int} {x6 : Int} {M : xj_M} {R : Int × xj_M}, xin x2 → xiN x3 → xin x5 → xin x6 → r8 x0 x1 x2 x3 x5 x6 M = some R → xW (d + 1) (none, d + 1, none) xr_352 (8, [(0, xR_ x0), (1, xR_ x1), (2, xI x2), (3, xZ x3), (5, xI x5), (6, xI x6)], [], M) (xQl R)) {x0 : Nat} {x1 : Nat} {x2 : Int} {x3 : Int} {x5 : Int} {x6 : Int} {M : xj_M} {R : Int × xj_M} (hx2 : xin x2) (hx3 : xiN x3) (hx5 : xin x5) (hx6 : xin x6) (h : f352_8b  r8 f x0 x1 x2 x3 x5 x6 M = some R) : xW (d + 1) (none, d + 1, none) xr_352 (8, [(0, xR_ x0), (1, xR_ x1), (2, xI x2), (3, xZ x3), (5, xI x5), (6, xI x6)], [], M) (xQl R) := by
  unfold f352_8b at h
  refine xe_ldn (ins := .iload 6) (len := 2) (by decide +kernel) rfl rfl rfl rfl ?_
  refine xe_bipush (n := 72) (by decide +kernel) (by decide) rfl ?_
  refine xe_icmpge (off := 93) (t := 105) (by decide +kernel) (by decide) rfl hx6 (show xin (72) by decide) (fun c103 => ?_) (fun c103 => ?_)
  · rw [if_pos c103] at h
    refine xe_alr (ins := .aload_n 0) (len := 1) (i := 0) (by decide +kernel) rfl rfl rfl rfl rfl ?_
    obtain ⟨v104, e105, h⟩ := xbnd h
    refine xs_gr (i := 943) (c := 15) (k := 84) (by decide +kernel) (by decide) (by decide +kernel) e105 rfl ?_
    refine xe_ldn (ins := .iload_n 2) (len := 1) (by decide +kernel) rfl rfl rfl rfl ?_
    obtain ⟨v106, e107, h⟩ := xbnd h
    refine xs_iald rfl (by decide +kernel) hx2 e107 rfl ?_
    refine xe_iconst (n := 5) (by decide +kernel) rfl ?_
    refine xe_icmpne (off := 7) (t := 119) (by decide +kernel) (by decide) rfl (xq_ai_in e107) (show xin (5) by decide) (fun c108 => ?_) (fun c108 => ?_)
    · rw [if_pos c108] at h
      refine xe_ldn (ins := .lload_n 3) (len := 1) (by decide +kernel) rfl rfl rfl rfl ?_
      refine xe_ldc2 (i := 103) (n := 1000000000000) (by decide +kernel) (by decide +kernel) rfl ?_
      refine xe_lcmp (by decide +kernel) rfl hx3 (show xiN (1000000000000) by decide) ?_
      refine xe_ifgt (off := 11) (t := 135) (by decide +kernel) (by decide) rfl (xin_cmp8 _ _) (fun c109 => ?_) (fun c109 => ?_)
      · have c109 := xcmp8_gt.mp c109; rw [if_pos c109] at h
        refine xW_lv rfl (l := [(0, xR_ (x0)), (3, xZ (x3))]) (xsb_of ⟨rfl, rfl, trivial⟩ (show [0, 1, 2, 3, 5, 6].Nodup by decide)) ?_
        exact k352_135   hx3 h
      · have c109 := (not_congr xcmp8_gt).mp c109; rw [if_neg c109] at h
        refine xe_ldn (ins := .lload_n 3) (len := 1) (by decide +kernel) rfl rfl rfl rfl ?_
        refine xe_ldc2 (i := 473) (n := -1000000000000) (by decide +kernel) (by decide +kernel) rfl ?_
        refine xe_lcmp (by decide +kernel) rfl hx3 (show xiN (-1000000000000) by decide) ?_
        refine xe_ifge (off := 8) (t := 140) (by decide +kernel) (by decide) rfl (xin_cmp8 _ _) (fun c110 => ?_) (fun c110 => ?_)
        · have c110 := xcmp8_ge.mp c110; rw [if_pos c110] at h
          refine xW_lv rfl (l := [(3, xZ (x3))]) (xsb_of ⟨rfl, trivial⟩ (show [0, 1, 2, 3, 5, 6].Nodup by decide)) ?_
          exact k352_140   hx3 h
        · have c110 := (not_congr xcmp8_ge).mp c110; rw [if_neg c110] at h
          refine xW_lv rfl (l := [(0, xR_ (x0)), (3, xZ (x3))]) (xsb_of ⟨rfl, rfl, trivial⟩ (show [0, 1, 2, 3, 5, 6].Nodup by decide)) ?_
          exact k352_135   hx3 h
    · rw [if_neg c108] at h
      refine xe_ldn (ins := .iload 5) (len := 2) (by decide +kernel) rfl rfl rfl rfl ?_
      refine xe_i2l (by decide +kernel) rfl hx5 ?_
      cases h
      exact xe_ret_l (by decide +kernel) rfl ⟨rfl, rfl, (xin_N hx5)⟩
  · rw [if_neg c103] at h
    refine xe_ldn (ins := .iload 6) (len := 2) (by decide +kernel) rfl rfl rfl rfl ?_
    refine xe_alr (ins := .aload_n 0) (len := 1) (i := 0) (by decide +kernel) rfl rfl rfl rfl rfl ?_
    obtain ⟨v111, e112, h⟩ := xbnd h
    refine xs_gr (i := 949) (c := 15) (k := 85) (by decide +kernel) (by decide) (by decide +kernel) e112 rfl ?_
    refine xe_ldn (ins := .iload_n 2) (len := 1) (by decide +kernel) rfl rfl rfl rfl ?_
    obtain ⟨v113, e114, h⟩ := xbnd h
    refine xs_iald rfl (by decide +kernel) hx2 e114 rfl ?_
    refine xe_alr (ins := .aload_n 0) (len := 1) (i := 0) (by decide +kernel) rfl rfl rfl rfl rfl ?_
    obtain ⟨v115, e116, h⟩ := xbnd h
    refine xs_gr (i := 952) (c := 15) (k := 86) (by decide +kernel) (by decide) (by decide +kernel) e116 rfl ?_
    refine xe_ldn (ins := .iload_n 2) (len := 1) (by decide +kernel) rfl rfl rfl rfl ?_
    obtain ⟨v117, e118, h⟩ := xbnd h
    refine xs_iald rfl (by decide +kernel) hx2 e118 rfl ?_
    obtain ⟨R120, e119, h⟩ := xbnd h
    refine xs_cs (kd := 2) (by decide) (i := 1017) (j := 345) (ar := [xI (v117), xI (v113), xI (x6)]) (rest := []) (r2 := xr_345) (by decide +kernel) (by decide +kernel) (by decide +kernel) xr_345_e rfl (by decide) ?_
    refine xc_i (k345 (d := d + 0)  hx6 (xq_ai_in e114) (xq_ai_in e118) e119) rfl (fun hi121 => ?_)
    refine xe_ifeq (off := 67) (t := 99) (by decide +kernel) (by decide) rfl hi121 (fun c122 => ?_) (fun c122 => ?_)
    · rw [if_pos c122] at h
      refine xW_lv rfl (l := [(0, xR_ (x0)), (1, xR_ (x1)), (2, xI (x2)), (3, xZ (x3)), (5, xI (x5)), (6, xI (x6))]) (xsb_of ⟨rfl, rfl, rfl, rfl, rfl, rfl, trivial⟩ (show [0, 1, 2, 3, 5, 6].Nodup by decide)) ?_
      exact k352_99  hr8 hx2 hx3 hx5 hx6 h
    · rw [if_neg c122] at h
      refine xe_alr (ins := .aload_n 1) (len := 1) (i := 1) (by decide +kernel) rfl rfl rfl rfl rfl ?_
      obtain ⟨v123, e124, h⟩ := xbnd h
      refine xs_gr (i := 1045) (c := 13) (k := 20) (by decide +kernel) (by decide) (by decide +kernel) e124 rfl ?_
      refine xe_ldn (ins := .iload 6) (len := 2) (by decide +kernel) rfl rfl rfl rfl ?_
      obtain ⟨v125, e126, h⟩ := xbnd h
      refine xs_iald rfl (by decide +kernel) hx6 e126 rfl ?_
      refine xe_ifne (off := 6) (t := 48) (by decide +kernel) (by decide) rfl (xq_ai_in e126) (fun c127 => ?_) (fun c127 => ?_)
      · rw [if_pos c127] at h
        refine xe_iincr (i := 5) (n := 1) (by decide +kernel) (by decide) rfl (xk_k (show ¬ (0 : Nat) = 5 by decide) (Or.inl (show ¬ (0 + 1 : Nat) = 5 by decide)) (xk_k (show ¬ (1 : Nat) = 5 by decide) (Or.inl (show ¬ (1 + 1 : Nat) = 5 by decide)) (xk_k (show ¬ (2 : Nat) = 5 by decide) (Or.inl (show ¬ (2 + 1 : Nat) = 5 by decide)) (xk_k (show ¬ (3 : Nat) = 5 by decide) (Or.inl (show ¬ (3 + 1 : Nat) = 5 by decide)) (xk_d rfl (xk_k (show ¬ (6 : Nat) = 5 by decide) (Or.inl (show ¬ (6 + 1 : Nat) = 5 by decide)) xk_n)))))) rfl ?_
        refine xe_alr (ins := .aload_n 1) (len := 1) (i := 1) (by decide +kernel) rfl rfl rfl rfl rfl ?_
        obtain ⟨v128, e129, h⟩ := xbnd h
        refine xs_gr (i := 1045) (c := 13) (k := 20) (by decide +kernel) (by decide) (by decide +kernel) e129 rfl ?_
        refine xe_ldn (ins := .iload 6) (len := 2) (by decide +kernel) rfl rfl rfl rfl ?_
        obtain ⟨v130, e131, h⟩ := xbnd h
        refine xs_iald rfl (by decide +kernel) hx6 e131 rfl ?_
        refine xe_iconst (n := 2) (by decide +kernel) rfl ?_
        refine xe_icmpne (off := 17) (t := 76) (by decide +kernel) (by decide) rfl (xq_ai_in e131) (show xin (2) by decide) (fun c132 => ?_) (fun c132 => ?_)
        · rw [if_pos c132] at h
          refine xe_alr (ins := .aload_n 1) (len := 1) (i := 1) (by decide +kernel) rfl rfl rfl rfl rfl ?_
          obtain ⟨v133, e134, h⟩ := xbnd h
          refine xs_gr (i := 1048) (c := 13) (k := 23) (by decide +kernel) (by decide) (by decide +kernel) e134 rfl ?_
          refine xe_ldn (ins := .iload 6) (len := 2) (by decide +kernel) rfl rfl rfl rfl ?_
          obtain ⟨v135, e136, h⟩ := xbnd h
          refine xs_lald (by decide +kernel) hx6 e136 rfl ?_
          obtain ⟨R138, e137, h⟩ := xbnd h
          refine xs_cs (kd := 2) (by decide) (i := 466) (j := 267) (ar := [xZ (v135)]) (rest := []) (r2 := xr_267) (by decide +kernel) (by decide +kernel) (by decide +kernel) xr_267_e rfl (by decide) ?_
          refine xc_i (k267 (d := d + 0)  (xq_al_in e136) e137) rfl (fun hi139 => ?_)
          refine xe_ifne (off := 13) (t := 99) (by decide +kernel) (by decide) rfl hi139 (fun c140 => ?_) (fun c140 => ?_)
          · rw [if_pos c140] at h
            refine xW_lv rfl (l := [(0, xR_ (x0)), (1, xR_ (x1)), (2, xI (x2)), (3, xZ (x3)), (5, xI (xwr ((x5) + (1)))), (6, xI (x6))]) (xsb_of ⟨rfl, rfl, rfl, rfl, rfl, rfl, trivial⟩ (show [5, 0, 1, 2, 3, 6].Nodup by decide)) ?_
            exact k352_99  hr8 hx2 hx3 (xin_wr _) hx6 h
          · rw [if_neg c140] at h
            refine xe_ldn (ins := .lload_n 3) (len := 1) (by decide +kernel) rfl rfl rfl rfl ?_
            refine xe_alr (ins := .aload_n 1) (len := 1) (i := 1) (by decide +kernel) rfl rfl rfl rfl rfl ?_
            obtain ⟨v141, e142, h⟩ := xbnd h
            refine xs_gr (i := 1048) (c := 13) (k := 23) (by decide +kernel) (by decide) (by decide +kernel) e142 rfl ?_
            refine xe_ldn (ins := .iload 6) (len := 2) (by decide +kernel) rfl rfl rfl rfl ?_
            obtain ⟨v143, e144, h⟩ := xbnd h
            refine xs_lald (by decide +kernel) hx6 e144 rfl ?_
            refine xe_ladd (by decide +kernel) rfl ?_
            refine xe_lsr (ins := .lstore_n 3) (len := 1) (i := 3) (by decide +kernel) rfl rfl rfl (by decide) (xk2_k (show ¬ (5 : Nat) = 3 by decide) (show ¬ (5 : Nat) = 3 + 1 by decide) (Or.inl (show ¬ (5 + 1 : Nat) = 3 by decide)) (xk2_k (show ¬ (0 : Nat) = 3 by decide) (show ¬ (0 : Nat) = 3 + 1 by decide) (Or.inl (show ¬ (0 + 1 : Nat) = 3 by decide)) (xk2_k (show ¬ (1 : Nat) = 3 by decide) (show ¬ (1 : Nat) = 3 + 1 by decide) (Or.inl (show ¬ (1 + 1 : Nat) = 3 by decide)) (xk2_k (show ¬ (2 : Nat) = 3 by decide) (show ¬ (2 : Nat) = 3 + 1 by decide) (Or.inr (xI_cat _)) (xk2_d (Or.inl rfl) (xk2_k (show ¬ (6 : Nat) = 3 by decide) (show ¬ (6 : Nat) = 3 + 1 by decide) (Or.inl (show ¬ (6 + 1 : Nat) = 3 by decide)) xk2_n)))))) rfl ?_
            refine xW_lv rfl (l := [(0, xR_ (x0)), (1, xR_ (x1)), (2, xI (x2)), (3, xZ (xwl ((x3) + (v143)))), (5, xI (xwr ((x5) + (1)))), (6, xI (x6))]) (xsb_of ⟨rfl, rfl, rfl, rfl, rfl, rfl, trivial⟩ (show [3, 5, 0, 1, 2, 6].Nodup by decide)) ?_
            exact k352_99  hr8 hx2 (xiN_wl _) (xin_wr _) hx6 h
        · rw [if_neg c132] at h
          refine xe_alr (ins := .aload_n 0) (len := 1) (i := 0) (by decide +kernel) rfl rfl rfl rfl rfl ?_
          refine xe_alr (ins := .aload_n 1) (len := 1) (i := 1) (by decide +kernel) rfl rfl rfl rfl rfl ?_
          obtain ⟨v145, e146, h⟩ := xbnd h
          refine xs_gr (i := 1048) (c := 13) (k := 23) (by decide +kernel) (by decide) (by decide +kernel) e146 rfl ?_
          refine xe_ldn (ins := .iload 6) (len := 2) (by decide +kernel) rfl rfl rfl rfl ?_
          obtain ⟨v147, e148, h⟩ := xbnd h
          refine xs_lald (by decide +kernel) hx6 e148 rfl ?_
          refine xe_l2i (by decide +kernel) rfl ?_
          obtain ⟨M149, e150, h⟩ := xbnd h
          refine xs_p (i := 1051) (c := 15) (k := 91) (by decide +kernel) (by decide +kernel) (by decide +kernel) e150 rfl ?_
          refine xe_lconst (n := 0) (z := 0) (by decide +kernel) rfl rfl ?_
          cases h
          exact xe_ret_l (by decide +kernel) rfl ⟨rfl, rfl, (show xiN (0) by decide)⟩
      · rw [if_neg c127] at h
        refine xe_goto (off := 54) (nx := 99) (by decide +kernel) (by decide) ?_
        refine xW_lv rfl (l := [(0, xR_ (x0)), (1, xR_ (x1)), (2, xI (x2)), (3, xZ (x3)), (5, xI (x5)), (6, xI (x6))]) (xsb_of ⟨rfl, rfl, rfl, rfl, rfl, rfl, trivial⟩ (show [0, 1, 2, 3, 5, 6].Nodup by decide)) ?_
        exact k352_99  hr8 hx2 hx3 hx5 hx6 h
def f352_8   (f : Nat) : Nat → Nat → Nat → Int → Int → Int → Int → xj_M → Option (Int × xj_M)
  | 0, _, _, _, _, _, _, _ => none
  | n + 1, x0, x1, x2, x3, x5, x6, M => f352_8b   (f352_8   f n) f x0 x1 x2 x3 x5 x6 M
theorem k352_8 {d f : Nat}     : ∀ {n : Nat} {x0 : Nat} {x1 : Nat} {x2 : Int} {x3 : Int} {x5 : Int} {x6 : Int} {M : xj_M} {R : Int × xj_M}, xin x2 → xiN x3 → xin x5 → xin x6 → f352_8   f n x0 x1 x2 x3 x5 x6 M = some R → xW (d + 1) (none, d + 1, none) xr_352 (8, [(0, xR_ x0), (1, xR_ x1), (2, xI x2), (3, xZ x3), (5, xI x5), (6, xI x6)], [], M) (xQl R) := by
  intro n
  induction n with
  | zero => intros; rename_i h; cases h
  | succ n ih => intros; rename_i h; exact k352_8b   ih (by assumption) (by assumption) (by assumption) (by assumption) h
def f352  (f : Nat) (a0 : Nat) (a1 : Nat) (a2 : Int) (M : xj_M) : Option (Int × xj_M) := f352_8   f f (a0) (a1) (a2) (0) (0) (0) M
theorem k352 {d f : Nat}   {a0 : Nat} {a1 : Nat} {a2 : Int} {M : xj_M} {R : Int × xj_M} (ha2 : xin a2) (h : f352  f a0 a1 a2 M = some R) : xT (d + 2) 352 [xR_ a0, xR_ a1, xI a2] M (xQl R) := by
  refine xT_m xr_352_e (X := (none, d + 1, none)) rfl (xa_1 (xR_cat _) (xa_1 (xR_cat _) (xa_1 (xI_cat _) xa_n))) (by decide) ?_
  unfold f352 at h
  refine xe_lconst (n := 0) (z := 0) (by decide +kernel) rfl rfl ?_
  refine xe_lsr (ins := .lstore_n 3) (len := 1) (i := 3) (by decide +kernel) rfl rfl rfl (by decide) (xk2_k (show ¬ (0 : Nat) = 3 by decide) (show ¬ (0 : Nat) = 3 + 1 by decide) (Or.inl (show ¬ (0 + 1 : Nat) = 3 by decide)) (xk2_k (show ¬ (1 : Nat) = 3 by decide) (show ¬ (1 : Nat) = 3 + 1 by decide) (Or.inl (show ¬ (1 + 1 : Nat) = 3 by decide)) (xk2_k (show ¬ (2 : Nat) = 3 by decide) (show ¬ (2 : Nat) = 3 + 1 by decide) (Or.inr (xI_cat _)) xk2_n))) rfl ?_
  refine xe_iconst (n := 0) (by decide +kernel) rfl ?_
  refine xe_isr (ins := .istore 5) (len := 2) (i := 5) (by decide +kernel) rfl rfl rfl (by decide) (xk_k (show ¬ (3 : Nat) = 5 by decide) (Or.inl (show ¬ (3 + 1 : Nat) = 5 by decide)) (xk_k (show ¬ (0 : Nat) = 5 by decide) (Or.inl (show ¬ (0 + 1 : Nat) = 5 by decide)) (xk_k (show ¬ (1 : Nat) = 5 by decide) (Or.inl (show ¬ (1 + 1 : Nat) = 5 by decide)) (xk_k (show ¬ (2 : Nat) = 5 by decide) (Or.inl (show ¬ (2 + 1 : Nat) = 5 by decide)) xk_n)))) rfl ?_
  refine xe_iconst (n := 0) (by decide +kernel) rfl ?_
  refine xe_isr (ins := .istore 6) (len := 2) (i := 6) (by decide +kernel) rfl rfl rfl (by decide) (xk_k (show ¬ (5 : Nat) = 6 by decide) (Or.inr (xI_cat _)) (xk_k (show ¬ (3 : Nat) = 6 by decide) (Or.inl (show ¬ (3 + 1 : Nat) = 6 by decide)) (xk_k (show ¬ (0 : Nat) = 6 by decide) (Or.inl (show ¬ (0 + 1 : Nat) = 6 by decide)) (xk_k (show ¬ (1 : Nat) = 6 by decide) (Or.inl (show ¬ (1 + 1 : Nat) = 6 by decide)) (xk_k (show ¬ (2 : Nat) = 6 by decide) (Or.inl (show ¬ (2 + 1 : Nat) = 6 by decide)) xk_n))))) rfl ?_
  refine xW_lv rfl (l := [(0, xR_ (a0)), (1, xR_ (a1)), (2, xI (a2)), (3, xZ (0)), (5, xI (0)), (6, xI (0))]) (xsb_of ⟨rfl, rfl, rfl, rfl, rfl, rfl, trivial⟩ (show [6, 5, 3, 0, 1, 2].Nodup by decide)) ?_
  exact k352_8   ha2 (show xiN (0) by decide) (show xin (0) by decide) (show xin (0) by decide) h
-- ChangeHouseModel.overRows
def xr_353 : xj_mR := (15, yX15_overRows, cX15_overRows, 9, (Option.some Jvm.ClassFile.FieldType.long), 1, false, (10, 166), (1, 12))
set_option maxRecDepth 20000 in
theorem xr_353_e : xj_row 353 = some xr_353 := rfl
def f353_41   (f : Nat) (x0 : Nat) (M : xj_M) : Option (Int × xj_M) := ((xq_pi 15 91 (x0) (4) M).bind fun M101 => (some (0, M101)))
theorem k353_41 {d f : Nat}     {x0 : Nat} {M : xj_M} {R : Int × xj_M}  (h : f353_41   f x0 M = some R) : xW (d + 1) (none, d + 1, none) xr_353 (41, [(0, xR_ x0)], [], M) (xQl R) := by
  unfold f353_41 at h
  refine xe_alr (ins := .aload_n 0) (len := 1) (i := 0) (by decide +kernel) rfl rfl rfl rfl rfl ?_
  refine xe_iconst (n := 4) (by decide +kernel) rfl ?_
  obtain ⟨M101, e102, h⟩ := xbnd h
  refine xs_p (i := 1051) (c := 15) (k := 91) (by decide +kernel) (by decide +kernel) (by decide +kernel) e102 rfl ?_
  refine xe_lconst (n := 0) (z := 0) (by decide +kernel) rfl rfl ?_
  cases h
  exact xe_ret_l (by decide +kernel) rfl ⟨rfl, rfl, (show xiN (0) by decide)⟩
def f353_173  (r73 : Nat → Int → Int → Int → Int → Int → xj_M → Option (Int × xj_M)) (f : Nat) (x0 : Nat) (x1 : Int) (x2 : Int) (x3 : Int) (x4 : Int) (x6 : Int) (M : xj_M) : Option (Int × xj_M) := r73 (x0) (x1) (x2) (x3) (x4) (xwr ((x6) + (1))) M
theorem k353_173 {d f : Nat}  {r73 : Nat → Int → Int → Int → Int → Int → xj_M → Option (Int × xj_M)}  (hr73 : ∀ {x0 : Nat} {x1 : Int} {x2 : Int} {x3 : Int} {x4 : Int} {x6 : Int} {M : xj_M} {R : Int × xj_M}, xin x1 → xin x2 → xin x3 → xiN x4 → xin x6 → r73 x0 x1 x2 x3 x4 x6 M = some R → xW (d + 1) (none, d + 1, none) xr_353 (73, [(0, xR_ x0), (1, xI x1), (2, xI x2), (3, xI x3), (4, xZ x4), (6, xI x6)], [], M) (xQl R)) {x0 : Nat} {x1 : Int} {x2 : Int} {x3 : Int} {x4 : Int} {x6 : Int} {M : xj_M} {R : Int × xj_M} (hx1 : xin x1) (hx2 : xin x2) (hx3 : xin x3) (hx4 : xiN x4) (hx6 : xin x6) (h : f353_173  r73 f x0 x1 x2 x3 x4 x6 M = some R) : xW (d + 1) (none, d + 1, none) xr_353 (173, [(0, xR_ x0), (1, xI x1), (2, xI x2), (3, xI x3), (4, xZ x4), (6, xI x6)], [], M) (xQl R) := by
  unfold f353_173 at h
  refine xe_iincr (i := 6) (n := 1) (by decide +kernel) (by decide) rfl (xk_k (show ¬ (0 : Nat) = 6 by decide) (Or.inl (show ¬ (0 + 1 : Nat) = 6 by decide)) (xk_k (show ¬ (1 : Nat) = 6 by decide) (Or.inl (show ¬ (1 + 1 : Nat) = 6 by decide)) (xk_k (show ¬ (2 : Nat) = 6 by decide) (Or.inl (show ¬ (2 + 1 : Nat) = 6 by decide)) (xk_k (show ¬ (3 : Nat) = 6 by decide) (Or.inl (show ¬ (3 + 1 : Nat) = 6 by decide)) (xk_k (show ¬ (4 : Nat) = 6 by decide) (Or.inl (show ¬ (4 + 1 : Nat) = 6 by decide)) (xk_d rfl xk_n)))))) rfl ?_
  refine xe_goto (off := -103) (nx := 73) (by decide +kernel) (by decide) ?_
  refine xW_lv rfl (l := [(0, xR_ (x0)), (1, xI (x1)), (2, xI (x2)), (3, xI (x3)), (4, xZ (x4)), (6, xI (xwr ((x6) + (1))))]) (xsb_of ⟨rfl, rfl, rfl, rfl, rfl, rfl, trivial⟩ (show [6, 0, 1, 2, 3, 4].Nodup by decide)) ?_
  exact hr73 hx1 hx2 hx3 hx4 (xin_wr _) h
def f353_127  (r73 : Nat → Int → Int → Int → Int → Int → xj_M → Option (Int × xj_M)) (f : Nat) (x0 : Nat) (x1 : Int) (x2 : Int) (x3 : Int) (x6 : Int) (y0 : Int) (y1 : Int) (M : xj_M) : Option (Int × xj_M) := f353_173  r73 f (x0) (x1) (x2) (x3) (xwl ((y1) + (y0))) (x6) M
theorem k353_127 {d f : Nat}  {r73 : Nat → Int → Int → Int → Int → Int → xj_M → Option (Int × xj_M)}  (hr73 : ∀ {x0 : Nat} {x1 : Int} {x2 : Int} {x3 : Int} {x4 : Int} {x6 : Int} {M : xj_M} {R : Int × xj_M}, xin x1 → xin x2 → xin x3 → xiN x4 → xin x6 → r73 x0 x1 x2 x3 x4 x6 M = some R → xW (d + 1) (none, d + 1, none) xr_353 (73, [(0, xR_ x0), (1, xI x1), (2, xI x2), (3, xI x3), (4, xZ x4), (6, xI x6)], [], M) (xQl R)) {x0 : Nat} {x1 : Int} {x2 : Int} {x3 : Int} {x6 : Int} {y0 : Int} {y1 : Int} {M : xj_M} {R : Int × xj_M} (hx1 : xin x1) (hx2 : xin x2) (hx3 : xin x3) (hx6 : xin x6) (hy0 : xiN y0) (hy1 : xiN y1) (h : f353_127  r73 f x0 x1 x2 x3 x6 y0 y1 M = some R) : xW (d + 1) (none, d + 1, none) xr_353 (127, [(0, xR_ x0), (1, xI x1), (2, xI x2), (3, xI x3), (6, xI x6)], [xZ y0, xZ y1], M) (xQl R) := by
  unfold f353_127 at h
  refine xe_ladd (by decide +kernel) rfl ?_
  refine xe_lsr (ins := .lstore 4) (len := 2) (i := 4) (by decide +kernel) rfl rfl rfl (by decide) (xk2_k (show ¬ (0 : Nat) = 4 by decide) (show ¬ (0 : Nat) = 4 + 1 by decide) (Or.inl (show ¬ (0 + 1 : Nat) = 4 by decide)) (xk2_k (show ¬ (1 : Nat) = 4 by decide) (show ¬ (1 : Nat) = 4 + 1 by decide) (Or.inl (show ¬ (1 + 1 : Nat) = 4 by decide)) (xk2_k (show ¬ (2 : Nat) = 4 by decide) (show ¬ (2 : Nat) = 4 + 1 by decide) (Or.inl (show ¬ (2 + 1 : Nat) = 4 by decide)) (xk2_k (show ¬ (3 : Nat) = 4 by decide) (show ¬ (3 : Nat) = 4 + 1 by decide) (Or.inr (xI_cat _)) (xk2_k (show ¬ (6 : Nat) = 4 by decide) (show ¬ (6 : Nat) = 4 + 1 by decide) (Or.inl (show ¬ (6 + 1 : Nat) = 4 by decide)) xk2_n))))) rfl ?_
  refine xe_goto (off := 43) (nx := 173) (by decide +kernel) (by decide) ?_
  refine xW_lv rfl (l := [(0, xR_ (x0)), (1, xI (x1)), (2, xI (x2)), (3, xI (x3)), (4, xZ (xwl ((y1) + (y0)))), (6, xI (x6))]) (xsb_of ⟨rfl, rfl, rfl, rfl, rfl, rfl, trivial⟩ (show [4, 0, 1, 2, 3, 6].Nodup by decide)) ?_
  exact k353_173  hr73 hx1 hx2 hx3 (xiN_wl _) hx6 h
def f353_171  (r73 : Nat → Int → Int → Int → Int → Int → xj_M → Option (Int × xj_M)) (f : Nat) (x0 : Nat) (x1 : Int) (x2 : Int) (x3 : Int) (x6 : Int) (y0 : Int) (M : xj_M) : Option (Int × xj_M) := f353_173  r73 f (x0) (x1) (x2) (x3) (y0) (x6) M
theorem k353_171 {d f : Nat}  {r73 : Nat → Int → Int → Int → Int → Int → xj_M → Option (Int × xj_M)}  (hr73 : ∀ {x0 : Nat} {x1 : Int} {x2 : Int} {x3 : Int} {x4 : Int} {x6 : Int} {M : xj_M} {R : Int × xj_M}, xin x1 → xin x2 → xin x3 → xiN x4 → xin x6 → r73 x0 x1 x2 x3 x4 x6 M = some R → xW (d + 1) (none, d + 1, none) xr_353 (73, [(0, xR_ x0), (1, xI x1), (2, xI x2), (3, xI x3), (4, xZ x4), (6, xI x6)], [], M) (xQl R)) {x0 : Nat} {x1 : Int} {x2 : Int} {x3 : Int} {x6 : Int} {y0 : Int} {M : xj_M} {R : Int × xj_M} (hx1 : xin x1) (hx2 : xin x2) (hx3 : xin x3) (hx6 : xin x6) (hy0 : xiN y0) (h : f353_171  r73 f x0 x1 x2 x3 x6 y0 M = some R) : xW (d + 1) (none, d + 1, none) xr_353 (171, [(0, xR_ x0), (1, xI x1), (2, xI x2), (3, xI x3), (6, xI x6)], [xZ y0], M) (xQl R) := by
  unfold f353_171 at h
  refine xe_lsr (ins := .lstore 4) (len := 2) (i := 4) (by decide +kernel) rfl rfl rfl (by decide) (xk2_k (show ¬ (0 : Nat) = 4 by decide) (show ¬ (0 : Nat) = 4 + 1 by decide) (Or.inl (show ¬ (0 + 1 : Nat) = 4 by decide)) (xk2_k (show ¬ (1 : Nat) = 4 by decide) (show ¬ (1 : Nat) = 4 + 1 by decide) (Or.inl (show ¬ (1 + 1 : Nat) = 4 by decide)) (xk2_k (show ¬ (2 : Nat) = 4 by decide) (show ¬ (2 : Nat) = 4 + 1 by decide) (Or.inl (show ¬ (2 + 1 : Nat) = 4 by decide)) (xk2_k (show ¬ (3 : Nat) = 4 by decide) (show ¬ (3 : Nat) = 4 + 1 by decide) (Or.inr (xI_cat _)) (xk2_k (show ¬ (6 : Nat) = 4 by decide) (show ¬ (6 : Nat) = 4 + 1 by decide) (Or.inl (show ¬ (6 + 1 : Nat) = 4 by decide)) xk2_n))))) rfl ?_
  refine xW_lv rfl (l := [(0, xR_ (x0)), (1, xI (x1)), (2, xI (x2)), (3, xI (x3)), (4, xZ (y0)), (6, xI (x6))]) (xsb_of ⟨rfl, rfl, rfl, rfl, rfl, rfl, trivial⟩ (show [4, 0, 1, 2, 3, 6].Nodup by decide)) ?_
  exact k353_173  hr73 hx1 hx2 hx3 hy0 hx6 h
def f353_213   (f : Nat) (x4 : Int) (M : xj_M) : Option (Int × xj_M) := (some (x4, M))
theorem k353_213 {d f : Nat}     {x4 : Int} {M : xj_M} {R : Int × xj_M} (hx4 : xiN x4) (h : f353_213   f x4 M = some R) : xW (d + 1) (none, d + 1, none) xr_353 (213, [(4, xZ x4)], [], M) (xQl R) := by
  unfold f353_213 at h
  refine xe_ldn (ins := .lload 4) (len := 2) (by decide +kernel) rfl rfl rfl rfl ?_
  cases h
  exact xe_ret_l (by decide +kernel) rfl ⟨rfl, rfl, hx4⟩
def f353_208   (f : Nat) (x0 : Nat) (x4 : Int) (M : xj_M) : Option (Int × xj_M) := ((xq_pi 15 91 (x0) (3) M).bind fun M103 => f353_213   f (x4) M103)
theorem k353_208 {d f : Nat}     {x0 : Nat} {x4 : Int} {M : xj_M} {R : Int × xj_M} (hx4 : xiN x4) (h : f353_208   f x0 x4 M = some R) : xW (d + 1) (none, d + 1, none) xr_353 (208, [(0, xR_ x0), (4, xZ x4)], [], M) (xQl R) := by
  unfold f353_208 at h
  refine xe_alr (ins := .aload_n 0) (len := 1) (i := 0) (by decide +kernel) rfl rfl rfl rfl rfl ?_
  refine xe_iconst (n := 3) (by decide +kernel) rfl ?_
  obtain ⟨M103, e104, h⟩ := xbnd h
  refine xs_p (i := 1051) (c := 15) (k := 91) (by decide +kernel) (by decide +kernel) (by decide +kernel) e104 rfl ?_
  refine xW_lv rfl (l := [(4, xZ (x4))]) (xsb_of ⟨rfl, trivial⟩ (show [0, 4].Nodup by decide)) ?_
  exact k353_213   hx4 h
def f353_73b  (r73 : Nat → Int → Int → Int → Int → Int → xj_M → Option (Int × xj_M)) (f : Nat) (x0 : Nat) (x1 : Int) (x2 : Int) (x3 : Int) (x4 : Int) (x6 : Int) (M : xj_M) : Option (Int × xj_M) := ((xq_gr 15 33 (x0) M).bind fun v105 => ((xq_ai 3 (v105) (x2) M).bind fun v107 => (if (v107) ≤ (x6) then ((xq_gr 15 84 (x0) M).bind fun v110 => ((xq_ai 3 (v110) (x1) M).bind fun v112 => (if ¬ (v112) = (7) then f353_213   f (x4) M else (if (1000000000000) < (x4) then f353_208   f (x0) (x4) M else (if (-1000000000000) ≤ (x4) then f353_213   f (x4) M else f353_208   f (x0) (x4) M))))) else ((xq_gr 15 32 (x0) M).bind fun v117 => ((xq_is 15 (x0) M).bind fun _ => ((f261  f (x0) (x2) (x6) M).bind fun R121 => ((xq_al (v117) (xwr ((R121.1) + (x3))) R121.2).bind fun v123 => ((xq_gr 15 84 (x0) R121.2).bind fun v125 => ((xq_ai 3 (v125) (x1) R121.2).bind fun v127 => (if ¬ (v127) = (7) then (if ¬ (x6) = 0 then ((xq_gr 15 84 (x0) R121.2).bind fun v131 => ((xq_ai 3 (v131) (x1) R121.2).bind fun v133 => (if ¬ (v133) = (8) then f353_171  r73 f (x0) (x1) (x2) (x3) (x6) (xmax (x4) (v123)) R121.2 else f353_171  r73 f (x0) (x1) (x2) (x3) (x6) (xmin (x4) (v123)) R121.2))) else f353_171  r73 f (x0) (x1) (x2) (x3) (x6) (v123) R121.2) else ((f267  f (v123) R121.2).bind fun R137 => (if (R137.1) = 0 then f353_127  r73 f (x0) (x1) (x2) (x3) (x6) (v123) (x4) R137.2 else f353_127  r73 f (x0) (x1) (x2) (x3) (x6) (0) (x4) R137.2))))))))))))
theorem k353_73b {d f : Nat}  {r73 : Nat → Int → Int → Int → Int → Int → xj_M → Option (Int × xj_M)}  (hr73 : ∀ {x0 : Nat} {x1 : Int} {x2 : Int} {x3 : Int} {x4 : Int} {x6 : Int} {M : xj_M} {R : Int × xj_M}, xin x1 → xin x2 → xin x3 → xiN x4 → xin x6 → r73 x0 x1 x2 x3 x4 x6 M = some R → xW (d + 1) (none, d + 1, none) xr_353 (73, [(0, xR_ x0), (1, xI x1), (2, xI x2), (3, xI x3), (4, xZ x4), (6, xI x6)], [], M) (xQl R)) {x0 : Nat} {x1 : Int} {x2 : Int} {x3 : Int} {x4 : Int} {x6 : Int} {M : xj_M} {R : Int × xj_M} (hx1 : xin x1) (hx2 : xin x2) (hx3 : xin x3) (hx4 : xiN x4) (hx6 : xin x6) (h : f353_73b  r73 f x0 x1 x2 x3 x4 x6 M = some R) : xW (d + 1) (none, d + 1, none) xr_353 (73, [(0, xR_ x0), (1, xI x1), (2, xI x2), (3, xI x3), (4, xZ x4), (6, xI x6)], [], M) (xQl R) := by
  unfold f353_73b at h
  refine xe_ldn (ins := .iload 6) (len := 2) (by decide +kernel) rfl rfl rfl rfl ?_
  refine xe_alr (ins := .aload_n 0) (len := 1) (i := 0) (by decide +kernel) rfl rfl rfl rfl rfl ?_
  obtain ⟨v105, e106, h⟩ := xbnd h
  refine xs_gr (i := 430) (c := 15) (k := 33) (by decide +kernel) (by decide) (by decide +kernel) e106 rfl ?_
  refine xe_ldn (ins := .iload_n 2) (len := 1) (by decide +kernel) rfl rfl rfl rfl ?_
  obtain ⟨v107, e108, h⟩ := xbnd h
  refine xs_iald rfl (by decide +kernel) hx2 e108 rfl ?_
  refine xe_icmpge (off := 98) (t := 179) (by decide +kernel) (by decide) rfl hx6 (xq_ai_in e108) (fun c109 => ?_) (fun c109 => ?_)
  · rw [if_pos c109] at h
    refine xe_alr (ins := .aload_n 0) (len := 1) (i := 0) (by decide +kernel) rfl rfl rfl rfl rfl ?_
    obtain ⟨v110, e111, h⟩ := xbnd h
    refine xs_gr (i := 943) (c := 15) (k := 84) (by decide +kernel) (by decide) (by decide +kernel) e111 rfl ?_
    refine xe_ldn (ins := .iload_n 1) (len := 1) (by decide +kernel) rfl rfl rfl rfl ?_
    obtain ⟨v112, e113, h⟩ := xbnd h
    refine xs_iald rfl (by decide +kernel) hx1 e113 rfl ?_
    refine xe_bipush (n := 7) (by decide +kernel) (by decide) rfl ?_
    refine xe_icmpne (off := 26) (t := 213) (by decide +kernel) (by decide) rfl (xq_ai_in e113) (show xin (7) by decide) (fun c114 => ?_) (fun c114 => ?_)
    · rw [if_pos c114] at h
      refine xW_lv rfl (l := [(4, xZ (x4))]) (xsb_of ⟨rfl, trivial⟩ (show [0, 1, 2, 3, 4, 6].Nodup by decide)) ?_
      exact k353_213   hx4 h
    · rw [if_neg c114] at h
      refine xe_ldn (ins := .lload 4) (len := 2) (by decide +kernel) rfl rfl rfl rfl ?_
      refine xe_ldc2 (i := 103) (n := 1000000000000) (by decide +kernel) (by decide +kernel) rfl ?_
      refine xe_lcmp (by decide +kernel) rfl hx4 (show xiN (1000000000000) by decide) ?_
      refine xe_ifgt (off := 12) (t := 208) (by decide +kernel) (by decide) rfl (xin_cmp8 _ _) (fun c115 => ?_) (fun c115 => ?_)
      · have c115 := xcmp8_gt.mp c115; rw [if_pos c115] at h
        refine xW_lv rfl (l := [(0, xR_ (x0)), (4, xZ (x4))]) (xsb_of ⟨rfl, rfl, trivial⟩ (show [0, 1, 2, 3, 4, 6].Nodup by decide)) ?_
        exact k353_208   hx4 h
      · have c115 := (not_congr xcmp8_gt).mp c115; rw [if_neg c115] at h
        refine xe_ldn (ins := .lload 4) (len := 2) (by decide +kernel) rfl rfl rfl rfl ?_
        refine xe_ldc2 (i := 473) (n := -1000000000000) (by decide +kernel) (by decide +kernel) rfl ?_
        refine xe_lcmp (by decide +kernel) rfl hx4 (show xiN (-1000000000000) by decide) ?_
        refine xe_ifge (off := 8) (t := 213) (by decide +kernel) (by decide) rfl (xin_cmp8 _ _) (fun c116 => ?_) (fun c116 => ?_)
        · have c116 := xcmp8_ge.mp c116; rw [if_pos c116] at h
          refine xW_lv rfl (l := [(4, xZ (x4))]) (xsb_of ⟨rfl, trivial⟩ (show [0, 1, 2, 3, 4, 6].Nodup by decide)) ?_
          exact k353_213   hx4 h
        · have c116 := (not_congr xcmp8_ge).mp c116; rw [if_neg c116] at h
          refine xW_lv rfl (l := [(0, xR_ (x0)), (4, xZ (x4))]) (xsb_of ⟨rfl, rfl, trivial⟩ (show [0, 1, 2, 3, 4, 6].Nodup by decide)) ?_
          exact k353_208   hx4 h
  · rw [if_neg c109] at h
    refine xe_alr (ins := .aload_n 0) (len := 1) (i := 0) (by decide +kernel) rfl rfl rfl rfl rfl ?_
    obtain ⟨v117, e118, h⟩ := xbnd h
    refine xs_gr (i := 433) (c := 15) (k := 32) (by decide +kernel) (by decide) (by decide +kernel) e118 rfl ?_
    refine xe_alr (ins := .aload_n 0) (len := 1) (i := 0) (by decide +kernel) rfl rfl rfl rfl rfl ?_
    refine xe_ldn (ins := .iload_n 2) (len := 1) (by decide +kernel) rfl rfl rfl rfl ?_
    refine xe_ldn (ins := .iload 6) (len := 2) (by decide +kernel) rfl rfl rfl rfl ?_
    obtain ⟨_, e120, h⟩ := xbnd h
    obtain ⟨R121, e119, h⟩ := xbnd h
    refine xs_cv (i := 436) (j := 261) (ar := [xI (x6), xI (x2)]) (rest := [xR_ (v117)]) (r2 := xr_261) (by decide +kernel) (by decide +kernel) (by decide +kernel) xr_261_e rfl (by decide) (by simp only [List.map_cons, List.map_nil, List.sum_cons, List.sum_nil, xR_cat, xI_cat, xZ_cat]; decide) e120 ?_
    refine xc_i (k261 (d := d + 0)  hx2 hx6 e119) rfl (fun hi122 => ?_)
    refine xe_ldn (ins := .iload_n 3) (len := 1) (by decide +kernel) rfl rfl rfl rfl ?_
    refine xe_iadd (by decide +kernel) rfl ?_
    obtain ⟨v123, e124, h⟩ := xbnd h
    refine xs_lald (by decide +kernel) (xin_wr _) e124 rfl ?_
    refine xe_lsr (ins := .lstore 7) (len := 2) (i := 7) (by decide +kernel) rfl rfl rfl (by decide) (xk2_k (show ¬ (0 : Nat) = 7 by decide) (show ¬ (0 : Nat) = 7 + 1 by decide) (Or.inl (show ¬ (0 + 1 : Nat) = 7 by decide)) (xk2_k (show ¬ (1 : Nat) = 7 by decide) (show ¬ (1 : Nat) = 7 + 1 by decide) (Or.inl (show ¬ (1 + 1 : Nat) = 7 by decide)) (xk2_k (show ¬ (2 : Nat) = 7 by decide) (show ¬ (2 : Nat) = 7 + 1 by decide) (Or.inl (show ¬ (2 + 1 : Nat) = 7 by decide)) (xk2_k (show ¬ (3 : Nat) = 7 by decide) (show ¬ (3 : Nat) = 7 + 1 by decide) (Or.inl (show ¬ (3 + 1 : Nat) = 7 by decide)) (xk2_k (show ¬ (4 : Nat) = 7 by decide) (show ¬ (4 : Nat) = 7 + 1 by decide) (Or.inl (show ¬ (4 + 1 : Nat) = 7 by decide)) (xk2_k (show ¬ (6 : Nat) = 7 by decide) (show ¬ (6 : Nat) = 7 + 1 by decide) (Or.inr (xI_cat _)) xk2_n)))))) rfl ?_
    refine xe_alr (ins := .aload_n 0) (len := 1) (i := 0) (by decide +kernel) rfl rfl rfl rfl rfl ?_
    obtain ⟨v125, e126, h⟩ := xbnd h
    refine xs_gr (i := 943) (c := 15) (k := 84) (by decide +kernel) (by decide) (by decide +kernel) e126 rfl ?_
    refine xe_ldn (ins := .iload_n 1) (len := 1) (by decide +kernel) rfl rfl rfl rfl ?_
    obtain ⟨v127, e128, h⟩ := xbnd h
    refine xs_iald rfl (by decide +kernel) hx1 e128 rfl ?_
    refine xe_bipush (n := 7) (by decide +kernel) (by decide) rfl ?_
    refine xe_icmpne (off := 25) (t := 133) (by decide +kernel) (by decide) rfl (xq_ai_in e128) (show xin (7) by decide) (fun c129 => ?_) (fun c129 => ?_)
    · rw [if_pos c129] at h
      refine xe_ldn (ins := .iload 6) (len := 2) (by decide +kernel) rfl rfl rfl rfl ?_
      refine xe_ifne (off := 8) (t := 143) (by decide +kernel) (by decide) rfl hx6 (fun c130 => ?_) (fun c130 => ?_)
      · rw [if_pos c130] at h
        refine xe_alr (ins := .aload_n 0) (len := 1) (i := 0) (by decide +kernel) rfl rfl rfl rfl rfl ?_
        obtain ⟨v131, e132, h⟩ := xbnd h
        refine xs_gr (i := 943) (c := 15) (k := 84) (by decide +kernel) (by decide) (by decide +kernel) e132 rfl ?_
        refine xe_ldn (ins := .iload_n 1) (len := 1) (by decide +kernel) rfl rfl rfl rfl ?_
        obtain ⟨v133, e134, h⟩ := xbnd h
        refine xs_iald rfl (by decide +kernel) hx1 e134 rfl ?_
        refine xe_bipush (n := 8) (by decide +kernel) (by decide) rfl ?_
        refine xe_icmpne (off := 13) (t := 164) (by decide +kernel) (by decide) rfl (xq_ai_in e134) (show xin (8) by decide) (fun c135 => ?_) (fun c135 => ?_)
        · rw [if_pos c135] at h
          refine xe_ldn (ins := .lload 4) (len := 2) (by decide +kernel) rfl rfl rfl rfl ?_
          refine xe_ldn (ins := .lload 7) (len := 2) (by decide +kernel) rfl rfl rfl rfl ?_
          refine xe_xmxl (i := 604) (by decide +kernel) (by decide +kernel) (by decide +kernel) (by rfl) rfl hx4 (xq_al_in e124) ?_
          refine xW_lv rfl (l := [(0, xR_ (x0)), (1, xI (x1)), (2, xI (x2)), (3, xI (x3)), (6, xI (x6))]) (xsb_of ⟨rfl, rfl, rfl, rfl, rfl, trivial⟩ (show [7, 0, 1, 2, 3, 4, 6].Nodup by decide)) ?_
          exact k353_171  hr73 hx1 hx2 hx3 hx6 (xmax_iN hx4 (xq_al_in e124)) h
        · rw [if_neg c135] at h
          refine xe_ldn (ins := .lload 4) (len := 2) (by decide +kernel) rfl rfl rfl rfl ?_
          refine xe_ldn (ins := .lload 7) (len := 2) (by decide +kernel) rfl rfl rfl rfl ?_
          refine xe_xmnl (i := 97) (by decide +kernel) (by decide +kernel) (by decide +kernel) (by rfl) rfl hx4 (xq_al_in e124) ?_
          refine xe_goto (off := 10) (nx := 171) (by decide +kernel) (by decide) ?_
          refine xW_lv rfl (l := [(0, xR_ (x0)), (1, xI (x1)), (2, xI (x2)), (3, xI (x3)), (6, xI (x6))]) (xsb_of ⟨rfl, rfl, rfl, rfl, rfl, trivial⟩ (show [7, 0, 1, 2, 3, 4, 6].Nodup by decide)) ?_
          exact k353_171  hr73 hx1 hx2 hx3 hx6 (xmin_iN hx4 (xq_al_in e124)) h
      · rw [if_neg c130] at h
        refine xe_ldn (ins := .lload 7) (len := 2) (by decide +kernel) rfl rfl rfl rfl ?_
        refine xe_goto (off := 31) (nx := 171) (by decide +kernel) (by decide) ?_
        refine xW_lv rfl (l := [(0, xR_ (x0)), (1, xI (x1)), (2, xI (x2)), (3, xI (x3)), (6, xI (x6))]) (xsb_of ⟨rfl, rfl, rfl, rfl, rfl, trivial⟩ (show [7, 0, 1, 2, 3, 4, 6].Nodup by decide)) ?_
        exact k353_171  hr73 hx1 hx2 hx3 hx6 (xq_al_in e124) h
    · rw [if_neg c129] at h
      refine xe_ldn (ins := .lload 4) (len := 2) (by decide +kernel) rfl rfl rfl rfl ?_
      refine xe_ldn (ins := .lload 7) (len := 2) (by decide +kernel) rfl rfl rfl rfl ?_
      obtain ⟨R137, e136, h⟩ := xbnd h
      refine xs_cs (kd := 2) (by decide) (i := 466) (j := 267) (ar := [xZ (v123)]) (rest := [xZ (x4)]) (r2 := xr_267) (by decide +kernel) (by decide +kernel) (by decide +kernel) xr_267_e rfl (by simp only [List.map_cons, List.map_nil, List.sum_cons, List.sum_nil, xR_cat, xI_cat, xZ_cat]; decide) ?_
      refine xc_i (k267 (d := d + 0)  (xq_al_in e124) e136) rfl (fun hi138 => ?_)
      refine xe_ifeq (off := 7) (t := 125) (by decide +kernel) (by decide) rfl hi138 (fun c139 => ?_) (fun c139 => ?_)
      · rw [if_pos c139] at h
        refine xe_ldn (ins := .lload 7) (len := 2) (by decide +kernel) rfl rfl rfl rfl ?_
        refine xW_lv rfl (l := [(0, xR_ (x0)), (1, xI (x1)), (2, xI (x2)), (3, xI (x3)), (6, xI (x6))]) (xsb_of ⟨rfl, rfl, rfl, rfl, rfl, trivial⟩ (show [7, 0, 1, 2, 3, 4, 6].Nodup by decide)) ?_
        exact k353_127  hr73 hx1 hx2 hx3 hx6 (xq_al_in e124) hx4 h
      · rw [if_neg c139] at h
        refine xe_lconst (n := 0) (z := 0) (by decide +kernel) rfl rfl ?_
        refine xe_goto (off := 5) (nx := 127) (by decide +kernel) (by decide) ?_
        refine xW_lv rfl (l := [(0, xR_ (x0)), (1, xI (x1)), (2, xI (x2)), (3, xI (x3)), (6, xI (x6))]) (xsb_of ⟨rfl, rfl, rfl, rfl, rfl, trivial⟩ (show [7, 0, 1, 2, 3, 4, 6].Nodup by decide)) ?_
        exact k353_127  hr73 hx1 hx2 hx3 hx6 (show xiN (0) by decide) hx4 h
def f353_73   (f : Nat) : Nat → Nat → Int → Int → Int → Int → Int → xj_M → Option (Int × xj_M)
  | 0, _, _, _, _, _, _, _ => none
  | n + 1, x0, x1, x2, x3, x4, x6, M => f353_73b   (f353_73   f n) f x0 x1 x2 x3 x4 x6 M
theorem k353_73 {d f : Nat}     : ∀ {n : Nat} {x0 : Nat} {x1 : Int} {x2 : Int} {x3 : Int} {x4 : Int} {x6 : Int} {M : xj_M} {R : Int × xj_M}, xin x1 → xin x2 → xin x3 → xiN x4 → xin x6 → f353_73   f n x0 x1 x2 x3 x4 x6 M = some R → xW (d + 1) (none, d + 1, none) xr_353 (73, [(0, xR_ x0), (1, xI x1), (2, xI x2), (3, xI x3), (4, xZ x4), (6, xI x6)], [], M) (xQl R) := by
  intro n
  induction n with
  | zero => intros; rename_i h; cases h
  | succ n ih => intros; rename_i h; exact k353_73b   ih (by assumption) (by assumption) (by assumption) (by assumption) (by assumption) h
def f353  (f : Nat) (a0 : Nat) (a1 : Int) (M : xj_M) : Option (Int × xj_M) := ((xq_gr 15 29 (a0) M).bind fun v140 => ((xq_gr 15 88 (a0) M).bind fun v142 => ((xq_al (v142) (a1) M).bind fun v144 => ((xq_is 14 (v140) M).bind fun _ => ((f205  f (v140) (v144) M).bind fun R148 => ((xq_gr 15 85 (a0) R148.2).bind fun v150 => ((xq_ai 3 (v150) (a1) R148.2).bind fun v152 => (if (R148.1) = (-1) then f353_41   f (a0) R148.2 else ((xq_gr 15 29 (a0) R148.2).bind fun v155 => ((xq_gr 14 1 (v155) R148.2).bind fun v157 => ((xq_ai 3 (v157) (R148.1) R148.2).bind fun v159 => (if (xwr ((v152) - (1))) < (v159) then ((xq_gr 15 84 (a0) R148.2).bind fun v162 => ((xq_ai 3 (v162) (a1) R148.2).bind fun v164 => (if ¬ (v164) = (6) then f353_73   f f (a0) (a1) (R148.1) (xwr ((v152) - (1))) (0) (0) R148.2 else ((xq_gr 15 33 (a0) R148.2).bind fun v167 => ((xq_ai 3 (v167) (R148.1) R148.2).bind fun v169 => (some (v169, R148.2))))))) else f353_41   f (a0) R148.2))))))))))))
theorem k353 {d f : Nat}   {a0 : Nat} {a1 : Int} {M : xj_M} {R : Int × xj_M} (ha1 : xin a1) (h : f353  f a0 a1 M = some R) : xT (d + 2) 353 [xR_ a0, xI a1] M (xQl R) := by
  refine xT_m xr_353_e (X := (none, d + 1, none)) rfl (xa_1 (xR_cat _) (xa_1 (xI_cat _) xa_n)) (by decide) ?_
  unfold f353 at h
  refine xe_alr (ins := .aload_n 0) (len := 1) (i := 0) (by decide +kernel) rfl rfl rfl rfl rfl ?_
  obtain ⟨v140, e141, h⟩ := xbnd h
  refine xs_gr (i := 439) (c := 15) (k := 29) (by decide +kernel) (by decide) (by decide +kernel) e141 rfl ?_
  refine xe_alr (ins := .aload_n 0) (len := 1) (i := 0) (by decide +kernel) rfl rfl rfl rfl rfl ?_
  obtain ⟨v142, e143, h⟩ := xbnd h
  refine xs_gr (i := 958) (c := 15) (k := 88) (by decide +kernel) (by decide) (by decide +kernel) e143 rfl ?_
  refine xe_ldn (ins := .iload_n 1) (len := 1) (by decide +kernel) rfl rfl rfl rfl ?_
  obtain ⟨v144, e145, h⟩ := xbnd h
  refine xs_lald (by decide +kernel) ha1 e145 rfl ?_
  obtain ⟨_, e147, h⟩ := xbnd h
  obtain ⟨R148, e146, h⟩ := xbnd h
  refine xs_cv (i := 213) (j := 205) (ar := [xZ (v144)]) (rest := []) (r2 := xr_205) (by decide +kernel) (by decide +kernel) (by decide +kernel) xr_205_e rfl (by decide) (by decide) e147 ?_
  refine xc_i (k205 (d := d + 0)  (xq_al_in e145) e146) rfl (fun hi149 => ?_)
  refine xe_isr (ins := .istore_n 2) (len := 1) (i := 2) (by decide +kernel) rfl rfl rfl (by decide) (xk_k (show ¬ (0 : Nat) = 2 by decide) (Or.inl (show ¬ (0 + 1 : Nat) = 2 by decide)) (xk_k (show ¬ (1 : Nat) = 2 by decide) (Or.inr (xI_cat _)) xk_n)) rfl ?_
  refine xe_alr (ins := .aload_n 0) (len := 1) (i := 0) (by decide +kernel) rfl rfl rfl rfl rfl ?_
  obtain ⟨v150, e151, h⟩ := xbnd h
  refine xs_gr (i := 949) (c := 15) (k := 85) (by decide +kernel) (by decide) (by decide +kernel) e151 rfl ?_
  refine xe_ldn (ins := .iload_n 1) (len := 1) (by decide +kernel) rfl rfl rfl rfl ?_
  obtain ⟨v152, e153, h⟩ := xbnd h
  refine xs_iald rfl (by decide +kernel) ha1 e153 rfl ?_
  refine xe_iconst (n := 1) (by decide +kernel) rfl ?_
  refine xe_isub (by decide +kernel) rfl ?_
  refine xe_isr (ins := .istore_n 3) (len := 1) (i := 3) (by decide +kernel) rfl rfl rfl (by decide) (xk_k (show ¬ (2 : Nat) = 3 by decide) (Or.inr (xI_cat _)) (xk_k (show ¬ (0 : Nat) = 3 by decide) (Or.inl (show ¬ (0 + 1 : Nat) = 3 by decide)) (xk_k (show ¬ (1 : Nat) = 3 by decide) (Or.inl (show ¬ (1 + 1 : Nat) = 3 by decide)) xk_n))) rfl ?_
  refine xe_ldn (ins := .iload_n 2) (len := 1) (by decide +kernel) rfl rfl rfl rfl ?_
  refine xe_iconst (n := -1) (by decide +kernel) rfl ?_
  refine xe_icmpeq (off := 16) (t := 41) (by decide +kernel) (by decide) rfl hi149 (show xin (-1) by decide) (fun c154 => ?_) (fun c154 => ?_)
  · rw [if_pos c154] at h
    refine xW_lv rfl (l := [(0, xR_ (a0))]) (xsb_of ⟨rfl, trivial⟩ (show [3, 2, 0, 1].Nodup by decide)) ?_
    exact k353_41    h
  · rw [if_neg c154] at h
    refine xe_ldn (ins := .iload_n 3) (len := 1) (by decide +kernel) rfl rfl rfl rfl ?_
    refine xe_alr (ins := .aload_n 0) (len := 1) (i := 0) (by decide +kernel) rfl rfl rfl rfl rfl ?_
    obtain ⟨v155, e156, h⟩ := xbnd h
    refine xs_gr (i := 439) (c := 15) (k := 29) (by decide +kernel) (by decide) (by decide +kernel) e156 rfl ?_
    obtain ⟨v157, e158, h⟩ := xbnd h
    refine xs_gr (i := 180) (c := 14) (k := 1) (by decide +kernel) (by decide) (by decide +kernel) e158 rfl ?_
    refine xe_ldn (ins := .iload_n 2) (len := 1) (by decide +kernel) rfl rfl rfl rfl ?_
    obtain ⟨v159, e160, h⟩ := xbnd h
    refine xs_iald rfl (by decide +kernel) hi149 e160 rfl ?_
    refine xe_icmplt (off := 10) (t := 48) (by decide +kernel) (by decide) rfl (xin_wr _) (xq_ai_in e160) (fun c161 => ?_) (fun c161 => ?_)
    · rw [if_pos c161] at h
      refine xe_alr (ins := .aload_n 0) (len := 1) (i := 0) (by decide +kernel) rfl rfl rfl rfl rfl ?_
      obtain ⟨v162, e163, h⟩ := xbnd h
      refine xs_gr (i := 943) (c := 15) (k := 84) (by decide +kernel) (by decide) (by decide +kernel) e163 rfl ?_
      refine xe_ldn (ins := .iload_n 1) (len := 1) (by decide +kernel) rfl rfl rfl rfl ?_
      obtain ⟨v164, e165, h⟩ := xbnd h
      refine xs_iald rfl (by decide +kernel) ha1 e165 rfl ?_
      refine xe_bipush (n := 6) (by decide +kernel) (by decide) rfl ?_
      refine xe_icmpne (off := 11) (t := 67) (by decide +kernel) (by decide) rfl (xq_ai_in e165) (show xin (6) by decide) (fun c166 => ?_) (fun c166 => ?_)
      · rw [if_pos c166] at h
        refine xe_lconst (n := 0) (z := 0) (by decide +kernel) rfl rfl ?_
        refine xe_lsr (ins := .lstore 4) (len := 2) (i := 4) (by decide +kernel) rfl rfl rfl (by decide) (xk2_k (show ¬ (3 : Nat) = 4 by decide) (show ¬ (3 : Nat) = 4 + 1 by decide) (Or.inr (xI_cat _)) (xk2_k (show ¬ (2 : Nat) = 4 by decide) (show ¬ (2 : Nat) = 4 + 1 by decide) (Or.inl (show ¬ (2 + 1 : Nat) = 4 by decide)) (xk2_k (show ¬ (0 : Nat) = 4 by decide) (show ¬ (0 : Nat) = 4 + 1 by decide) (Or.inl (show ¬ (0 + 1 : Nat) = 4 by decide)) (xk2_k (show ¬ (1 : Nat) = 4 by decide) (show ¬ (1 : Nat) = 4 + 1 by decide) (Or.inl (show ¬ (1 + 1 : Nat) = 4 by decide)) xk2_n)))) rfl ?_
        refine xe_iconst (n := 0) (by decide +kernel) rfl ?_
        refine xe_isr (ins := .istore 6) (len := 2) (i := 6) (by decide +kernel) rfl rfl rfl (by decide) (xk_k (show ¬ (4 : Nat) = 6 by decide) (Or.inl (show ¬ (4 + 1 : Nat) = 6 by decide)) (xk_k (show ¬ (3 : Nat) = 6 by decide) (Or.inl (show ¬ (3 + 1 : Nat) = 6 by decide)) (xk_k (show ¬ (2 : Nat) = 6 by decide) (Or.inl (show ¬ (2 + 1 : Nat) = 6 by decide)) (xk_k (show ¬ (0 : Nat) = 6 by decide) (Or.inl (show ¬ (0 + 1 : Nat) = 6 by decide)) (xk_k (show ¬ (1 : Nat) = 6 by decide) (Or.inl (show ¬ (1 + 1 : Nat) = 6 by decide)) xk_n))))) rfl ?_
        refine xW_lv rfl (l := [(0, xR_ (a0)), (1, xI (a1)), (2, xI (R148.1)), (3, xI (xwr ((v152) - (1)))), (4, xZ (0)), (6, xI (0))]) (xsb_of ⟨rfl, rfl, rfl, rfl, rfl, rfl, trivial⟩ (show [6, 4, 3, 2, 0, 1].Nodup by decide)) ?_
        exact k353_73   ha1 hi149 (xin_wr _) (show xiN (0) by decide) (show xin (0) by decide) h
      · rw [if_neg c166] at h
        refine xe_alr (ins := .aload_n 0) (len := 1) (i := 0) (by decide +kernel) rfl rfl rfl rfl rfl ?_
        obtain ⟨v167, e168, h⟩ := xbnd h
        refine xs_gr (i := 430) (c := 15) (k := 33) (by decide +kernel) (by decide) (by decide +kernel) e168 rfl ?_
        refine xe_ldn (ins := .iload_n 2) (len := 1) (by decide +kernel) rfl rfl rfl rfl ?_
        obtain ⟨v169, e170, h⟩ := xbnd h
        refine xs_iald rfl (by decide +kernel) hi149 e170 rfl ?_
        refine xe_i2l (by decide +kernel) rfl (xq_ai_in e170) ?_
        cases h
        exact xe_ret_l (by decide +kernel) rfl ⟨rfl, rfl, (xin_N (xq_ai_in e170))⟩
    · rw [if_neg c161] at h
      refine xW_lv rfl (l := [(0, xR_ (a0))]) (xsb_of ⟨rfl, trivial⟩ (show [3, 2, 0, 1].Nodup by decide)) ?_
      exact k353_41    h
-- ChangeHouseModel.sheet
def xr_355 : xj_mR := (15, yX15_sheet, cX15_sheet, 6, (Option.some Jvm.ClassFile.FieldType.long), 3, false, (11, 27), (1, 12))
set_option maxRecDepth 20000 in
theorem xr_355_e : xj_row 355 = some xr_355 := rfl
def f355_25   (f : Nat) (x0 : Nat) (M : xj_M) : Option (Int × xj_M) := ((xq_is 15 (x0) M).bind fun _ => ((f321  f (x0) M).bind fun R103 => (some (R103.1, R103.2))))
theorem k355_25 {d f : Nat}     {x0 : Nat} {M : xj_M} {R : Int × xj_M}  (h : f355_25   f x0 M = some R) : xW (d + 1) (none, d + 1, none) xr_355 (25, [(0, xR_ x0)], [], M) (xQl R) := by
  unfold f355_25 at h
  refine xe_alr (ins := .aload_n 0) (len := 1) (i := 0) (by decide +kernel) rfl rfl rfl rfl rfl ?_
  obtain ⟨_, e102, h⟩ := xbnd h
  obtain ⟨R103, e101, h⟩ := xbnd h
  refine xs_cv (i := 903) (j := 321) (ar := []) (rest := []) (r2 := xr_321) (by decide +kernel) (by decide +kernel) (by decide +kernel) xr_321_e rfl (by decide) (by decide) e102 ?_
  refine xc_i (k321 (d := d + 0)   e101) rfl (fun hi104 => ?_)
  refine xe_i2l (by decide +kernel) rfl hi104 ?_
  cases h
  exact xe_ret_l (by decide +kernel) rfl ⟨rfl, rfl, (xin_N hi104)⟩
def f355_102   (f : Nat) (y0 : Int) (M : xj_M) : Option (Int × xj_M) := (some (y0, M))
theorem k355_102 {d f : Nat}     {y0 : Int} {M : xj_M} {R : Int × xj_M} (hy0 : xiN y0) (h : f355_102   f y0 M = some R) : xW (d + 1) (none, d + 1, none) xr_355 (102, [], [xZ y0], M) (xQl R) := by
  unfold f355_102 at h
  cases h
  exact xe_ret_l (by decide +kernel) rfl ⟨rfl, rfl, hy0⟩
def f355  (f : Nat) (a0 : Nat) (a1 : Int) (a2 : Int) (a3 : Int) (M : xj_M) : Option (Int × xj_M) := ((xq_pi 15 74 (a0) (0) M).bind fun M105 => (if (a1) < 0 then f355_25   f (a0) M105 else (if (6) ≤ (a1) then f355_25   f (a0) M105 else (if (a2) < 0 then f355_25   f (a0) M105 else (if (a2) ≤ (11) then ((xq_gr 15 61 (a0) M105).bind fun v111 => ((xq_gi 15 62 (a0) M105).bind fun v113 => ((xq_ar (v111) (v113) M105).bind fun v115 => (if ¬ (a3) = 0 then (if ¬ (a3) = (1) then (if ¬ (a3) = (2) then f355_102   f (-1) M105 else ((xq_gr 13 19 (v115) M105).bind fun v120 => ((xq_ai 3 (v120) (xwr ((a1) + (xwr ((6) * (a2))))) M105).bind fun v122 => f355_102   f (v122) M105))) else ((xq_gr 13 23 (v115) M105).bind fun v124 => ((xq_al (v124) (xwr ((a1) + (xwr ((6) * (a2))))) M105).bind fun v126 => f355_102   f (v126) M105))) else ((xq_gr 13 20 (v115) M105).bind fun v128 => ((xq_ai 3 (v128) (xwr ((a1) + (xwr ((6) * (a2))))) M105).bind fun v130 => f355_102   f (v130) M105)))))) else f355_25   f (a0) M105)))))
theorem k355 {d f : Nat}   {a0 : Nat} {a1 : Int} {a2 : Int} {a3 : Int} {M : xj_M} {R : Int × xj_M} (ha1 : xin a1) (ha2 : xin a2) (ha3 : xin a3) (h : f355  f a0 a1 a2 a3 M = some R) : xT (d + 2) 355 [xR_ a0, xI a1, xI a2, xI a3] M (xQl R) := by
  refine xT_m xr_355_e (X := (none, d + 1, none)) rfl (xa_1 (xR_cat _) (xa_1 (xI_cat _) (xa_1 (xI_cat _) (xa_1 (xI_cat _) xa_n)))) (by decide) ?_
  unfold f355 at h
  refine xe_alr (ins := .aload_n 0) (len := 1) (i := 0) (by decide +kernel) rfl rfl rfl rfl rfl ?_
  refine xe_iconst (n := 0) (by decide +kernel) rfl ?_
  obtain ⟨M105, e106, h⟩ := xbnd h
  refine xs_p (i := 699) (c := 15) (k := 74) (by decide +kernel) (by decide +kernel) (by decide +kernel) e106 rfl ?_
  refine xe_ldn (ins := .iload_n 1) (len := 1) (by decide +kernel) rfl rfl rfl rfl ?_
  refine xe_iflt (off := 19) (t := 25) (by decide +kernel) (by decide) rfl ha1 (fun c107 => ?_) (fun c107 => ?_)
  · rw [if_pos c107] at h
    refine xW_lv rfl (l := [(0, xR_ (a0))]) (xsb_of ⟨rfl, trivial⟩ (show [0, 1, 2, 3].Nodup by decide)) ?_
    exact k355_25    h
  · rw [if_neg c107] at h
    refine xe_ldn (ins := .iload_n 1) (len := 1) (by decide +kernel) rfl rfl rfl rfl ?_
    refine xe_bipush (n := 6) (by decide +kernel) (by decide) rfl ?_
    refine xe_icmpge (off := 13) (t := 25) (by decide +kernel) (by decide) rfl ha1 (show xin (6) by decide) (fun c108 => ?_) (fun c108 => ?_)
    · rw [if_pos c108] at h
      refine xW_lv rfl (l := [(0, xR_ (a0))]) (xsb_of ⟨rfl, trivial⟩ (show [0, 1, 2, 3].Nodup by decide)) ?_
      exact k355_25    h
    · rw [if_neg c108] at h
      refine xe_ldn (ins := .iload_n 2) (len := 1) (by decide +kernel) rfl rfl rfl rfl ?_
      refine xe_iflt (off := 9) (t := 25) (by decide +kernel) (by decide) rfl ha2 (fun c109 => ?_) (fun c109 => ?_)
      · rw [if_pos c109] at h
        refine xW_lv rfl (l := [(0, xR_ (a0))]) (xsb_of ⟨rfl, trivial⟩ (show [0, 1, 2, 3].Nodup by decide)) ?_
        exact k355_25    h
      · rw [if_neg c109] at h
        refine xe_ldn (ins := .iload_n 2) (len := 1) (by decide +kernel) rfl rfl rfl rfl ?_
        refine xe_bipush (n := 11) (by decide +kernel) (by decide) rfl ?_
        refine xe_icmple (off := 9) (t := 31) (by decide +kernel) (by decide) rfl ha2 (show xin (11) by decide) (fun c110 => ?_) (fun c110 => ?_)
        · rw [if_pos c110] at h
          refine xe_alr (ins := .aload_n 0) (len := 1) (i := 0) (by decide +kernel) rfl rfl rfl rfl rfl ?_
          obtain ⟨v111, e112, h⟩ := xbnd h
          refine xs_gr (i := 667) (c := 15) (k := 61) (by decide +kernel) (by decide) (by decide +kernel) e112 rfl ?_
          refine xe_alr (ins := .aload_n 0) (len := 1) (i := 0) (by decide +kernel) rfl rfl rfl rfl rfl ?_
          obtain ⟨v113, e114, h⟩ := xbnd h
          refine xs_gi (i := 664) (c := 15) (k := 62) (by decide +kernel) (by decide) (by decide +kernel) e114 rfl ?_
          obtain ⟨v115, e116, h⟩ := xbnd h
          refine xs_aald (by decide +kernel) (xq_gi_in e114) e116 rfl ?_
          refine xe_asr (ins := .astore 4) (len := 2) (i := 4) (by decide +kernel) rfl rfl rfl (by decide) (xk_k (show ¬ (0 : Nat) = 4 by decide) (Or.inl (show ¬ (0 + 1 : Nat) = 4 by decide)) (xk_k (show ¬ (1 : Nat) = 4 by decide) (Or.inl (show ¬ (1 + 1 : Nat) = 4 by decide)) (xk_k (show ¬ (2 : Nat) = 4 by decide) (Or.inl (show ¬ (2 + 1 : Nat) = 4 by decide)) (xk_k (show ¬ (3 : Nat) = 4 by decide) (Or.inr (xI_cat _)) xk_n)))) rfl ?_
          refine xe_ldn (ins := .iload_n 1) (len := 1) (by decide +kernel) rfl rfl rfl rfl ?_
          refine xe_bipush (n := 6) (by decide +kernel) (by decide) rfl ?_
          refine xe_ldn (ins := .iload_n 2) (len := 1) (by decide +kernel) rfl rfl rfl rfl ?_
          refine xe_imul (by decide +kernel) rfl ?_
          refine xe_iadd (by decide +kernel) rfl ?_
          refine xe_isr (ins := .istore 5) (len := 2) (i := 5) (by decide +kernel) rfl rfl rfl (by decide) (xk_k (show ¬ (4 : Nat) = 5 by decide) (Or.inr (xR_cat _)) (xk_k (show ¬ (0 : Nat) = 5 by decide) (Or.inl (show ¬ (0 + 1 : Nat) = 5 by decide)) (xk_k (show ¬ (1 : Nat) = 5 by decide) (Or.inl (show ¬ (1 + 1 : Nat) = 5 by decide)) (xk_k (show ¬ (2 : Nat) = 5 by decide) (Or.inl (show ¬ (2 + 1 : Nat) = 5 by decide)) (xk_k (show ¬ (3 : Nat) = 5 by decide) (Or.inl (show ¬ (3 + 1 : Nat) = 5 by decide)) xk_n))))) rfl ?_
          refine xe_ldn (ins := .iload_n 3) (len := 1) (by decide +kernel) rfl rfl rfl rfl ?_
          refine xe_ifne (off := 15) (t := 66) (by decide +kernel) (by decide) rfl ha3 (fun c117 => ?_) (fun c117 => ?_)
          · rw [if_pos c117] at h
            refine xe_ldn (ins := .iload_n 3) (len := 1) (by decide +kernel) rfl rfl rfl rfl ?_
            refine xe_iconst (n := 1) (by decide +kernel) rfl ?_
            refine xe_icmpne (off := 14) (t := 82) (by decide +kernel) (by decide) rfl ha3 (show xin (1) by decide) (fun c118 => ?_) (fun c118 => ?_)
            · rw [if_pos c118] at h
              refine xe_ldn (ins := .iload_n 3) (len := 1) (by decide +kernel) rfl rfl rfl rfl ?_
              refine xe_iconst (n := 2) (by decide +kernel) rfl ?_
              refine xe_icmpne (off := 15) (t := 99) (by decide +kernel) (by decide) rfl ha3 (show xin (2) by decide) (fun c119 => ?_) (fun c119 => ?_)
              · rw [if_pos c119] at h
                refine xe_ldc2 (i := 80) (n := -1) (by decide +kernel) (by decide +kernel) rfl ?_
                refine xW_lv rfl (l := []) (xsb_of trivial (show [5, 4, 0, 1, 2, 3].Nodup by decide)) ?_
                exact k355_102   (show xiN (-1) by decide) h
              · rw [if_neg c119] at h
                refine xe_alr (ins := .aload 4) (len := 2) (i := 4) (by decide +kernel) rfl rfl rfl rfl rfl ?_
                obtain ⟨v120, e121, h⟩ := xbnd h
                refine xs_gr (i := 894) (c := 13) (k := 19) (by decide +kernel) (by decide) (by decide +kernel) e121 rfl ?_
                refine xe_ldn (ins := .iload 5) (len := 2) (by decide +kernel) rfl rfl rfl rfl ?_
                obtain ⟨v122, e123, h⟩ := xbnd h
                refine xs_iald rfl (by decide +kernel) (xin_wr _) e123 rfl ?_
                refine xe_i2l (by decide +kernel) rfl (xq_ai_in e123) ?_
                refine xe_goto (off := 6) (nx := 102) (by decide +kernel) (by decide) ?_
                refine xW_lv rfl (l := []) (xsb_of trivial (show [5, 4, 0, 1, 2, 3].Nodup by decide)) ?_
                exact k355_102   (xin_N (xq_ai_in e123)) h
            · rw [if_neg c118] at h
              refine xe_alr (ins := .aload 4) (len := 2) (i := 4) (by decide +kernel) rfl rfl rfl rfl rfl ?_
              obtain ⟨v124, e125, h⟩ := xbnd h
              refine xs_gr (i := 1048) (c := 13) (k := 23) (by decide +kernel) (by decide) (by decide +kernel) e125 rfl ?_
              refine xe_ldn (ins := .iload 5) (len := 2) (by decide +kernel) rfl rfl rfl rfl ?_
              obtain ⟨v126, e127, h⟩ := xbnd h
              refine xs_lald (by decide +kernel) (xin_wr _) e127 rfl ?_
              refine xe_goto (off := 23) (nx := 102) (by decide +kernel) (by decide) ?_
              refine xW_lv rfl (l := []) (xsb_of trivial (show [5, 4, 0, 1, 2, 3].Nodup by decide)) ?_
              exact k355_102   (xq_al_in e127) h
          · rw [if_neg c117] at h
            refine xe_alr (ins := .aload 4) (len := 2) (i := 4) (by decide +kernel) rfl rfl rfl rfl rfl ?_
            obtain ⟨v128, e129, h⟩ := xbnd h
            refine xs_gr (i := 1045) (c := 13) (k := 20) (by decide +kernel) (by decide) (by decide +kernel) e129 rfl ?_
            refine xe_ldn (ins := .iload 5) (len := 2) (by decide +kernel) rfl rfl rfl rfl ?_
            obtain ⟨v130, e131, h⟩ := xbnd h
            refine xs_iald rfl (by decide +kernel) (xin_wr _) e131 rfl ?_
            refine xe_i2l (by decide +kernel) rfl (xq_ai_in e131) ?_
            refine xe_goto (off := 39) (nx := 102) (by decide +kernel) (by decide) ?_
            refine xW_lv rfl (l := []) (xsb_of trivial (show [5, 4, 0, 1, 2, 3].Nodup by decide)) ?_
            exact k355_102   (xin_N (xq_ai_in e131)) h
        · rw [if_neg c110] at h
          refine xW_lv rfl (l := [(0, xR_ (a0))]) (xsb_of ⟨rfl, trivial⟩ (show [0, 1, 2, 3].Nodup by decide)) ?_
          exact k355_25    h
-- ChangeHouseModel.thrown
def xr_358 : xj_mR := (15, yX15_thrown, cX15_thrown, 1, (Option.some Jvm.ClassFile.FieldType.int), 0, false, (13, 236), (1, 12))
set_option maxRecDepth 20000 in
theorem xr_358_e : xj_row 358 = some xr_358 := rfl
def f358  (f : Nat) (a0 : Nat) (M : xj_M) : Option (Int × xj_M) := ((xq_gi 15 74 (a0) M).bind fun v101 => (some (v101, M)))
theorem k358 {d f : Nat}   {a0 : Nat} {M : xj_M} {R : Int × xj_M}  (h : f358  f a0 M = some R) : xT (d + 1) 358 [xR_ a0] M (xQi R) := by
  refine xT_m xr_358_e (X := (none, d + 0, none)) rfl (xa_1 (xR_cat _) xa_n) (by decide) ?_
  unfold f358 at h
  refine xe_alr (ins := .aload_n 0) (len := 1) (i := 0) (by decide +kernel) rfl rfl rfl rfl rfl ?_
  obtain ⟨v101, e102, h⟩ := xbnd h
  refine xs_gi (i := 699) (c := 15) (k := 74) (by decide +kernel) (by decide) (by decide +kernel) e102 rfl ?_
  cases h
  exact xe_ret_i (ty := .int) (by decide +kernel) rfl rfl ⟨rfl, rfl, (xq_gi_in e102)⟩
-- ChangeHouseModel.feed
def xr_359 : xj_mR := (15, yX15_feed, cX15_feed, 8, (Option.some Jvm.ClassFile.FieldType.boolean), 5, false, (14, 0), (1, 12))
set_option maxRecDepth 20000 in
theorem xr_359_e : xj_row 359 = some xr_359 := rfl
def f359_76  (r23 : Nat → Int → Int → Int → Int → Int → Int → xj_M → Option (Int × xj_M)) (f : Nat) (x0 : Nat) (x1 : Int) (x2 : Int) (x3 : Int) (x4 : Int) (x5 : Int) (x6 : Int) (y0 : Int) (M : xj_M) : Option (Int × xj_M) := ((xq_gr 15 68 (x0) M).bind fun v101 => ((xq_gi 15 73 (x0) M).bind fun v103 => ((xq_sb (v101) (v103) (xi2b (xshr (y0) (xwr ((24) - (xwr ((xrem (x6) (4)) * (8))))))) M).bind fun M106 => ((xq_gi 15 73 (x0) M106).bind fun v108 => ((xq_pi 15 73 (x0) (xwr ((v108) + (1))) M106).bind fun M110 => r23 (x0) (x1) (x2) (x3) (x4) (x5) (xwr ((x6) + (1))) M110)))))
theorem k359_76 {d f : Nat}  {r23 : Nat → Int → Int → Int → Int → Int → Int → xj_M → Option (Int × xj_M)}  (hr23 : ∀ {x0 : Nat} {x1 : Int} {x2 : Int} {x3 : Int} {x4 : Int} {x5 : Int} {x6 : Int} {M : xj_M} {R : Int × xj_M}, xin x1 → xin x2 → xin x3 → xin x4 → xin x5 → xin x6 → r23 x0 x1 x2 x3 x4 x5 x6 M = some R → xW (d + 0) (none, d + 0, none) xr_359 (23, [(0, xR_ x0), (1, xI x1), (2, xI x2), (3, xI x3), (4, xI x4), (5, xI x5), (6, xI x6)], [], M) (xQi R)) {x0 : Nat} {x1 : Int} {x2 : Int} {x3 : Int} {x4 : Int} {x5 : Int} {x6 : Int} {y0 : Int} {M : xj_M} {R : Int × xj_M} (hx1 : xin x1) (hx2 : xin x2) (hx3 : xin x3) (hx4 : xin x4) (hx5 : xin x5) (hx6 : xin x6) (hy0 : xin y0) (h : f359_76  r23 f x0 x1 x2 x3 x4 x5 x6 y0 M = some R) : xW (d + 0) (none, d + 0, none) xr_359 (76, [(0, xR_ x0), (1, xI x1), (2, xI x2), (3, xI x3), (4, xI x4), (5, xI x5), (6, xI x6)], [xI y0], M) (xQi R) := by
  unfold f359_76 at h
  refine xe_isr (ins := .istore 7) (len := 2) (i := 7) (by decide +kernel) rfl rfl rfl (by decide) (xk_k (show ¬ (0 : Nat) = 7 by decide) (Or.inl (show ¬ (0 + 1 : Nat) = 7 by decide)) (xk_k (show ¬ (1 : Nat) = 7 by decide) (Or.inl (show ¬ (1 + 1 : Nat) = 7 by decide)) (xk_k (show ¬ (2 : Nat) = 7 by decide) (Or.inl (show ¬ (2 + 1 : Nat) = 7 by decide)) (xk_k (show ¬ (3 : Nat) = 7 by decide) (Or.inl (show ¬ (3 + 1 : Nat) = 7 by decide)) (xk_k (show ¬ (4 : Nat) = 7 by decide) (Or.inl (show ¬ (4 + 1 : Nat) = 7 by decide)) (xk_k (show ¬ (5 : Nat) = 7 by decide) (Or.inl (show ¬ (5 + 1 : Nat) = 7 by decide)) (xk_k (show ¬ (6 : Nat) = 7 by decide) (Or.inr (xI_cat _)) xk_n))))))) rfl ?_
  refine xe_alr (ins := .aload_n 0) (len := 1) (i := 0) (by decide +kernel) rfl rfl rfl rfl rfl ?_
  obtain ⟨v101, e102, h⟩ := xbnd h
  refine xs_gr (i := 645) (c := 15) (k := 68) (by decide +kernel) (by decide) (by decide +kernel) e102 rfl ?_
  refine xe_alr (ins := .aload_n 0) (len := 1) (i := 0) (by decide +kernel) rfl rfl rfl rfl rfl ?_
  obtain ⟨v103, e104, h⟩ := xbnd h
  refine xs_gi (i := 1131) (c := 15) (k := 73) (by decide +kernel) (by decide) (by decide +kernel) e104 rfl ?_
  refine xe_ldn (ins := .iload 7) (len := 2) (by decide +kernel) rfl rfl rfl rfl ?_
  refine xe_bipush (n := 24) (by decide +kernel) (by decide) rfl ?_
  refine xe_ldn (ins := .iload 6) (len := 2) (by decide +kernel) rfl rfl rfl rfl ?_
  refine xe_iconst (n := 4) (by decide +kernel) rfl ?_
  refine xe_irem (by decide +kernel) rfl (show xin (4) by decide) (by decide) ?_
  refine xe_bipush (n := 8) (by decide +kernel) (by decide) rfl ?_
  refine xe_imul (by decide +kernel) rfl ?_
  refine xe_isub (by decide +kernel) rfl ?_
  refine xe_ishr (by decide +kernel) rfl ?_
  refine xe_i2b (by decide +kernel) rfl ?_
  obtain ⟨M106, e107, h⟩ := xbnd h
  refine xs_bast (by decide +kernel) (xq_gi_in e104) e107 rfl ?_
  refine xe_alr (ins := .aload_n 0) (len := 1) (i := 0) (by decide +kernel) rfl rfl rfl rfl rfl ?_
  refine xe_dupr (by decide +kernel) rfl ?_
  obtain ⟨v108, e109, h⟩ := xbnd h
  refine xs_gi (i := 1131) (c := 15) (k := 73) (by decide +kernel) (by decide) (by decide +kernel) e109 rfl ?_
  refine xe_iconst (n := 1) (by decide +kernel) rfl ?_
  refine xe_iadd (by decide +kernel) rfl ?_
  obtain ⟨M110, e111, h⟩ := xbnd h
  refine xs_p (i := 1131) (c := 15) (k := 73) (by decide +kernel) (by decide +kernel) (by decide +kernel) e111 rfl ?_
  refine xe_iincr (i := 6) (n := 1) (by decide +kernel) (by decide) rfl (xk_k (show ¬ (7 : Nat) = 6 by decide) (Or.inl (show ¬ (7 + 1 : Nat) = 6 by decide)) (xk_k (show ¬ (0 : Nat) = 6 by decide) (Or.inl (show ¬ (0 + 1 : Nat) = 6 by decide)) (xk_k (show ¬ (1 : Nat) = 6 by decide) (Or.inl (show ¬ (1 + 1 : Nat) = 6 by decide)) (xk_k (show ¬ (2 : Nat) = 6 by decide) (Or.inl (show ¬ (2 + 1 : Nat) = 6 by decide)) (xk_k (show ¬ (3 : Nat) = 6 by decide) (Or.inl (show ¬ (3 + 1 : Nat) = 6 by decide)) (xk_k (show ¬ (4 : Nat) = 6 by decide) (Or.inl (show ¬ (4 + 1 : Nat) = 6 by decide)) (xk_k (show ¬ (5 : Nat) = 6 by decide) (Or.inr (xI_cat _)) (xk_d rfl xk_n)))))))) rfl ?_
  refine xe_goto (off := -91) (nx := 23) (by decide +kernel) (by decide) ?_
  refine xW_lv rfl (l := [(0, xR_ (x0)), (1, xI (x1)), (2, xI (x2)), (3, xI (x3)), (4, xI (x4)), (5, xI (x5)), (6, xI (xwr ((x6) + (1))))]) (xsb_of ⟨rfl, rfl, rfl, rfl, rfl, rfl, rfl, trivial⟩ (show [6, 7, 0, 1, 2, 3, 4, 5].Nodup by decide)) ?_
  exact hr23 hx1 hx2 hx3 hx4 hx5 (xin_wr _) h
def f359_23b  (r23 : Nat → Int → Int → Int → Int → Int → Int → xj_M → Option (Int × xj_M)) (f : Nat) (x0 : Nat) (x1 : Int) (x2 : Int) (x3 : Int) (x4 : Int) (x5 : Int) (x6 : Int) (M : xj_M) : Option (Int × xj_M) := (if (20) ≤ (x6) then (some (1, M)) else (if (4) ≤ (x6) then (if (8) ≤ (x6) then (if (12) ≤ (x6) then (if (16) ≤ (x6) then f359_76  r23 f (x0) (x1) (x2) (x3) (x4) (x5) (x6) (x5) M else f359_76  r23 f (x0) (x1) (x2) (x3) (x4) (x5) (x6) (x4) M) else f359_76  r23 f (x0) (x1) (x2) (x3) (x4) (x5) (x6) (x3) M) else f359_76  r23 f (x0) (x1) (x2) (x3) (x4) (x5) (x6) (x2) M) else f359_76  r23 f (x0) (x1) (x2) (x3) (x4) (x5) (x6) (x1) M))
theorem k359_23b {d f : Nat}  {r23 : Nat → Int → Int → Int → Int → Int → Int → xj_M → Option (Int × xj_M)}  (hr23 : ∀ {x0 : Nat} {x1 : Int} {x2 : Int} {x3 : Int} {x4 : Int} {x5 : Int} {x6 : Int} {M : xj_M} {R : Int × xj_M}, xin x1 → xin x2 → xin x3 → xin x4 → xin x5 → xin x6 → r23 x0 x1 x2 x3 x4 x5 x6 M = some R → xW (d + 0) (none, d + 0, none) xr_359 (23, [(0, xR_ x0), (1, xI x1), (2, xI x2), (3, xI x3), (4, xI x4), (5, xI x5), (6, xI x6)], [], M) (xQi R)) {x0 : Nat} {x1 : Int} {x2 : Int} {x3 : Int} {x4 : Int} {x5 : Int} {x6 : Int} {M : xj_M} {R : Int × xj_M} (hx1 : xin x1) (hx2 : xin x2) (hx3 : xin x3) (hx4 : xin x4) (hx5 : xin x5) (hx6 : xin x6) (h : f359_23b  r23 f x0 x1 x2 x3 x4 x5 x6 M = some R) : xW (d + 0) (none, d + 0, none) xr_359 (23, [(0, xR_ x0), (1, xI x1), (2, xI x2), (3, xI x3), (4, xI x4), (5, xI x5), (6, xI x6)], [], M) (xQi R) := by
  unfold f359_23b at h
  refine xe_ldn (ins := .iload 6) (len := 2) (by decide +kernel) rfl rfl rfl rfl ?_
  refine xe_bipush (n := 20) (by decide +kernel) (by decide) rfl ?_
  refine xe_icmpge (off := 90) (t := 117) (by decide +kernel) (by decide) rfl hx6 (show xin (20) by decide) (fun c112 => ?_) (fun c112 => ?_)
  · rw [if_pos c112] at h
    refine xe_iconst (n := 1) (by decide +kernel) rfl ?_
    cases h
    exact xe_ret_i (ty := .boolean) (by decide +kernel) rfl (by decide) ⟨rfl, rfl, (show xin (1) by decide)⟩
  · rw [if_neg c112] at h
    refine xe_ldn (ins := .iload 6) (len := 2) (by decide +kernel) rfl rfl rfl rfl ?_
    refine xe_iconst (n := 4) (by decide +kernel) rfl ?_
    refine xe_icmpge (off := 7) (t := 40) (by decide +kernel) (by decide) rfl hx6 (show xin (4) by decide) (fun c113 => ?_) (fun c113 => ?_)
    · rw [if_pos c113] at h
      refine xe_ldn (ins := .iload 6) (len := 2) (by decide +kernel) rfl rfl rfl rfl ?_
      refine xe_bipush (n := 8) (by decide +kernel) (by decide) rfl ?_
      refine xe_icmpge (off := 7) (t := 51) (by decide +kernel) (by decide) rfl hx6 (show xin (8) by decide) (fun c114 => ?_) (fun c114 => ?_)
      · rw [if_pos c114] at h
        refine xe_ldn (ins := .iload 6) (len := 2) (by decide +kernel) rfl rfl rfl rfl ?_
        refine xe_bipush (n := 12) (by decide +kernel) (by decide) rfl ?_
        refine xe_icmpge (off := 7) (t := 62) (by decide +kernel) (by decide) rfl hx6 (show xin (12) by decide) (fun c115 => ?_) (fun c115 => ?_)
        · rw [if_pos c115] at h
          refine xe_ldn (ins := .iload 6) (len := 2) (by decide +kernel) rfl rfl rfl rfl ?_
          refine xe_bipush (n := 16) (by decide +kernel) (by decide) rfl ?_
          refine xe_icmpge (off := 8) (t := 74) (by decide +kernel) (by decide) rfl hx6 (show xin (16) by decide) (fun c116 => ?_) (fun c116 => ?_)
          · rw [if_pos c116] at h
            refine xe_ldn (ins := .iload 5) (len := 2) (by decide +kernel) rfl rfl rfl rfl ?_
            refine xW_lv rfl (l := [(0, xR_ (x0)), (1, xI (x1)), (2, xI (x2)), (3, xI (x3)), (4, xI (x4)), (5, xI (x5)), (6, xI (x6))]) (xsb_of ⟨rfl, rfl, rfl, rfl, rfl, rfl, rfl, trivial⟩ (show [0, 1, 2, 3, 4, 5, 6].Nodup by decide)) ?_
            exact k359_76  hr23 hx1 hx2 hx3 hx4 hx5 hx6 hx5 h
          · rw [if_neg c116] at h
            refine xe_ldn (ins := .iload 4) (len := 2) (by decide +kernel) rfl rfl rfl rfl ?_
            refine xe_goto (off := 5) (nx := 76) (by decide +kernel) (by decide) ?_
            refine xW_lv rfl (l := [(0, xR_ (x0)), (1, xI (x1)), (2, xI (x2)), (3, xI (x3)), (4, xI (x4)), (5, xI (x5)), (6, xI (x6))]) (xsb_of ⟨rfl, rfl, rfl, rfl, rfl, rfl, rfl, trivial⟩ (show [0, 1, 2, 3, 4, 5, 6].Nodup by decide)) ?_
            exact k359_76  hr23 hx1 hx2 hx3 hx4 hx5 hx6 hx4 h
        · rw [if_neg c115] at h
          refine xe_ldn (ins := .iload_n 3) (len := 1) (by decide +kernel) rfl rfl rfl rfl ?_
          refine xe_goto (off := 17) (nx := 76) (by decide +kernel) (by decide) ?_
          refine xW_lv rfl (l := [(0, xR_ (x0)), (1, xI (x1)), (2, xI (x2)), (3, xI (x3)), (4, xI (x4)), (5, xI (x5)), (6, xI (x6))]) (xsb_of ⟨rfl, rfl, rfl, rfl, rfl, rfl, rfl, trivial⟩ (show [0, 1, 2, 3, 4, 5, 6].Nodup by decide)) ?_
          exact k359_76  hr23 hx1 hx2 hx3 hx4 hx5 hx6 hx3 h
      · rw [if_neg c114] at h
        refine xe_ldn (ins := .iload_n 2) (len := 1) (by decide +kernel) rfl rfl rfl rfl ?_
        refine xe_goto (off := 28) (nx := 76) (by decide +kernel) (by decide) ?_
        refine xW_lv rfl (l := [(0, xR_ (x0)), (1, xI (x1)), (2, xI (x2)), (3, xI (x3)), (4, xI (x4)), (5, xI (x5)), (6, xI (x6))]) (xsb_of ⟨rfl, rfl, rfl, rfl, rfl, rfl, rfl, trivial⟩ (show [0, 1, 2, 3, 4, 5, 6].Nodup by decide)) ?_
        exact k359_76  hr23 hx1 hx2 hx3 hx4 hx5 hx6 hx2 h
    · rw [if_neg c113] at h
      refine xe_ldn (ins := .iload_n 1) (len := 1) (by decide +kernel) rfl rfl rfl rfl ?_
      refine xe_goto (off := 39) (nx := 76) (by decide +kernel) (by decide) ?_
      refine xW_lv rfl (l := [(0, xR_ (x0)), (1, xI (x1)), (2, xI (x2)), (3, xI (x3)), (4, xI (x4)), (5, xI (x5)), (6, xI (x6))]) (xsb_of ⟨rfl, rfl, rfl, rfl, rfl, rfl, rfl, trivial⟩ (show [0, 1, 2, 3, 4, 5, 6].Nodup by decide)) ?_
      exact k359_76  hr23 hx1 hx2 hx3 hx4 hx5 hx6 hx1 h
def f359_23   (f : Nat) : Nat → Nat → Int → Int → Int → Int → Int → Int → xj_M → Option (Int × xj_M)
  | 0, _, _, _, _, _, _, _, _ => none
  | n + 1, x0, x1, x2, x3, x4, x5, x6, M => f359_23b   (f359_23   f n) f x0 x1 x2 x3 x4 x5 x6 M
theorem k359_23 {d f : Nat}     : ∀ {n : Nat} {x0 : Nat} {x1 : Int} {x2 : Int} {x3 : Int} {x4 : Int} {x5 : Int} {x6 : Int} {M : xj_M} {R : Int × xj_M}, xin x1 → xin x2 → xin x3 → xin x4 → xin x5 → xin x6 → f359_23   f n x0 x1 x2 x3 x4 x5 x6 M = some R → xW (d + 0) (none, d + 0, none) xr_359 (23, [(0, xR_ x0), (1, xI x1), (2, xI x2), (3, xI x3), (4, xI x4), (5, xI x5), (6, xI x6)], [], M) (xQi R) := by
  intro n
  induction n with
  | zero => intros; rename_i h; cases h
  | succ n ih => intros; rename_i h; exact k359_23b   ih (by assumption) (by assumption) (by assumption) (by assumption) (by assumption) (by assumption) h
def f359  (f : Nat) (a0 : Nat) (a1 : Int) (a2 : Int) (a3 : Int) (a4 : Int) (a5 : Int) (M : xj_M) : Option (Int × xj_M) := ((xq_pi 15 74 (a0) (0) M).bind fun M117 => ((xq_gi 15 73 (a0) M117).bind fun v119 => (if (xwr ((v119) + (20))) ≤ (3000) then f359_23   f f (a0) (a1) (a2) (a3) (a4) (a5) (0) M117 else (some (0, M117)))))
theorem k359 {d f : Nat}   {a0 : Nat} {a1 : Int} {a2 : Int} {a3 : Int} {a4 : Int} {a5 : Int} {M : xj_M} {R : Int × xj_M} (ha1 : xin a1) (ha2 : xin a2) (ha3 : xin a3) (ha4 : xin a4) (ha5 : xin a5) (h : f359  f a0 a1 a2 a3 a4 a5 M = some R) : xT (d + 1) 359 [xR_ a0, xI a1, xI a2, xI a3, xI a4, xI a5] M (xQi R) := by
  refine xT_m xr_359_e (X := (none, d + 0, none)) rfl (xa_1 (xR_cat _) (xa_1 (xI_cat _) (xa_1 (xI_cat _) (xa_1 (xI_cat _) (xa_1 (xI_cat _) (xa_1 (xI_cat _) xa_n)))))) (by decide) ?_
  unfold f359 at h
  refine xe_alr (ins := .aload_n 0) (len := 1) (i := 0) (by decide +kernel) rfl rfl rfl rfl rfl ?_
  refine xe_iconst (n := 0) (by decide +kernel) rfl ?_
  obtain ⟨M117, e118, h⟩ := xbnd h
  refine xs_p (i := 699) (c := 15) (k := 74) (by decide +kernel) (by decide +kernel) (by decide +kernel) e118 rfl ?_
  refine xe_alr (ins := .aload_n 0) (len := 1) (i := 0) (by decide +kernel) rfl rfl rfl rfl rfl ?_
  obtain ⟨v119, e120, h⟩ := xbnd h
  refine xs_gi (i := 1131) (c := 15) (k := 73) (by decide +kernel) (by decide) (by decide +kernel) e120 rfl ?_
  refine xe_bipush (n := 20) (by decide +kernel) (by decide) rfl ?_
  refine xe_iadd (by decide +kernel) rfl ?_
  refine xe_sipush (n := 3000) (by decide +kernel) (by decide) rfl ?_
  refine xe_icmple (off := 5) (t := 20) (by decide +kernel) (by decide) rfl (xin_wr _) (show xin (3000) by decide) (fun c121 => ?_) (fun c121 => ?_)
  · rw [if_pos c121] at h
    refine xe_iconst (n := 0) (by decide +kernel) rfl ?_
    refine xe_isr (ins := .istore 6) (len := 2) (i := 6) (by decide +kernel) rfl rfl rfl (by decide) (xk_k (show ¬ (0 : Nat) = 6 by decide) (Or.inl (show ¬ (0 + 1 : Nat) = 6 by decide)) (xk_k (show ¬ (1 : Nat) = 6 by decide) (Or.inl (show ¬ (1 + 1 : Nat) = 6 by decide)) (xk_k (show ¬ (2 : Nat) = 6 by decide) (Or.inl (show ¬ (2 + 1 : Nat) = 6 by decide)) (xk_k (show ¬ (3 : Nat) = 6 by decide) (Or.inl (show ¬ (3 + 1 : Nat) = 6 by decide)) (xk_k (show ¬ (4 : Nat) = 6 by decide) (Or.inl (show ¬ (4 + 1 : Nat) = 6 by decide)) (xk_k (show ¬ (5 : Nat) = 6 by decide) (Or.inr (xI_cat _)) xk_n)))))) rfl ?_
    refine xW_lv rfl (l := [(0, xR_ (a0)), (1, xI (a1)), (2, xI (a2)), (3, xI (a3)), (4, xI (a4)), (5, xI (a5)), (6, xI (0))]) (xsb_of ⟨rfl, rfl, rfl, rfl, rfl, rfl, rfl, trivial⟩ (show [6, 0, 1, 2, 3, 4, 5].Nodup by decide)) ?_
    exact k359_23   ha1 ha2 ha3 ha4 ha5 (show xin (0) by decide) h
  · rw [if_neg c121] at h
    refine xe_iconst (n := 0) (by decide +kernel) rfl ?_
    cases h
    exact xe_ret_i (ty := .boolean) (by decide +kernel) rfl (by decide) ⟨rfl, rfl, (show xin (0) by decide)⟩
-- ChangeHouseModel.end
def xr_360 : xj_mR := (15, yX15_end, cX15_end, 2, (Option.some Jvm.ClassFile.FieldType.boolean), 1, false, (14, 4), (1, 12))
set_option maxRecDepth 20000 in
theorem xr_360_e : xj_row 360 = some xr_360 := rfl
def f360_17   (f : Nat)  (M : xj_M) : Option (Int × xj_M) := (some (0, M))
theorem k360_17 {d f : Nat}      {M : xj_M} {R : Int × xj_M}  (h : f360_17   f  M = some R) : xW (d + 0) (none, d + 0, none) xr_360 (17, [], [], M) (xQi R) := by
  unfold f360_17 at h
  refine xe_iconst (n := 0) (by decide +kernel) rfl ?_
  cases h
  exact xe_ret_i (ty := .boolean) (by decide +kernel) rfl (by decide) ⟨rfl, rfl, (show xin (0) by decide)⟩
def f360  (f : Nat) (a0 : Nat) (a1 : Int) (M : xj_M) : Option (Int × xj_M) := ((xq_pi 15 74 (a0) (0) M).bind fun M101 => (if (a1) < 0 then f360_17   f  M101 else ((xq_gi 15 73 (a0) M101).bind fun v104 => (if (a1) ≤ (v104) then ((xq_pi 15 73 (a0) (a1) M101).bind fun M107 => (some (1, M107))) else f360_17   f  M101))))
theorem k360 {d f : Nat}   {a0 : Nat} {a1 : Int} {M : xj_M} {R : Int × xj_M} (ha1 : xin a1) (h : f360  f a0 a1 M = some R) : xT (d + 1) 360 [xR_ a0, xI a1] M (xQi R) := by
  refine xT_m xr_360_e (X := (none, d + 0, none)) rfl (xa_1 (xR_cat _) (xa_1 (xI_cat _) xa_n)) (by decide) ?_
  unfold f360 at h
  refine xe_alr (ins := .aload_n 0) (len := 1) (i := 0) (by decide +kernel) rfl rfl rfl rfl rfl ?_
  refine xe_iconst (n := 0) (by decide +kernel) rfl ?_
  obtain ⟨M101, e102, h⟩ := xbnd h
  refine xs_p (i := 699) (c := 15) (k := 74) (by decide +kernel) (by decide +kernel) (by decide +kernel) e102 rfl ?_
  refine xe_ldn (ins := .iload_n 1) (len := 1) (by decide +kernel) rfl rfl rfl rfl ?_
  refine xe_iflt (off := 11) (t := 17) (by decide +kernel) (by decide) rfl ha1 (fun c103 => ?_) (fun c103 => ?_)
  · rw [if_pos c103] at h
    refine xW_lv rfl (l := []) (xsb_of trivial (show [0, 1].Nodup by decide)) ?_
    exact k360_17    h
  · rw [if_neg c103] at h
    refine xe_ldn (ins := .iload_n 1) (len := 1) (by decide +kernel) rfl rfl rfl rfl ?_
    refine xe_alr (ins := .aload_n 0) (len := 1) (i := 0) (by decide +kernel) rfl rfl rfl rfl rfl ?_
    obtain ⟨v104, e105, h⟩ := xbnd h
    refine xs_gi (i := 1131) (c := 15) (k := 73) (by decide +kernel) (by decide) (by decide +kernel) e105 rfl ?_
    refine xe_icmple (off := 5) (t := 19) (by decide +kernel) (by decide) rfl ha1 (xq_gi_in e105) (fun c106 => ?_) (fun c106 => ?_)
    · rw [if_pos c106] at h
      refine xe_alr (ins := .aload_n 0) (len := 1) (i := 0) (by decide +kernel) rfl rfl rfl rfl rfl ?_
      refine xe_ldn (ins := .iload_n 1) (len := 1) (by decide +kernel) rfl rfl rfl rfl ?_
      obtain ⟨M107, e108, h⟩ := xbnd h
      refine xs_p (i := 1131) (c := 15) (k := 73) (by decide +kernel) (by decide +kernel) (by decide +kernel) e108 rfl ?_
      refine xe_iconst (n := 1) (by decide +kernel) rfl ?_
      cases h
      exact xe_ret_i (ty := .boolean) (by decide +kernel) rfl (by decide) ⟨rfl, rfl, (show xin (1) by decide)⟩
    · rw [if_neg c106] at h
      refine xW_lv rfl (l := []) (xsb_of trivial (show [0, 1].Nodup by decide)) ?_
      exact k360_17    h
-- ChangeHouseModel.take
def xr_361 : xj_mR := (15, yX15_take, cX15_take, 2, (Option.some Jvm.ClassFile.FieldType.int), 0, false, (11, 35), (1, 12))
set_option maxRecDepth 20000 in
theorem xr_361_e : xj_row 361 = some xr_361 := rfl
def f361  (f : Nat) (a0 : Nat) (M : xj_M) : Option (Int × xj_M) := ((xq_pi 15 74 (a0) (0) M).bind fun M101 => ((xq_gi 15 73 (a0) M101).bind fun v103 => ((xq_pi 15 73 (a0) (0) M101).bind fun M105 => (some (v103, M105)))))
theorem k361 {d f : Nat}   {a0 : Nat} {M : xj_M} {R : Int × xj_M}  (h : f361  f a0 M = some R) : xT (d + 1) 361 [xR_ a0] M (xQi R) := by
  refine xT_m xr_361_e (X := (none, d + 0, none)) rfl (xa_1 (xR_cat _) xa_n) (by decide) ?_
  unfold f361 at h
  refine xe_alr (ins := .aload_n 0) (len := 1) (i := 0) (by decide +kernel) rfl rfl rfl rfl rfl ?_
  refine xe_iconst (n := 0) (by decide +kernel) rfl ?_
  obtain ⟨M101, e102, h⟩ := xbnd h
  refine xs_p (i := 699) (c := 15) (k := 74) (by decide +kernel) (by decide +kernel) (by decide +kernel) e102 rfl ?_
  refine xe_alr (ins := .aload_n 0) (len := 1) (i := 0) (by decide +kernel) rfl rfl rfl rfl rfl ?_
  obtain ⟨v103, e104, h⟩ := xbnd h
  refine xs_gi (i := 1131) (c := 15) (k := 73) (by decide +kernel) (by decide) (by decide +kernel) e104 rfl ?_
  refine xe_isr (ins := .istore_n 1) (len := 1) (i := 1) (by decide +kernel) rfl rfl rfl (by decide) (xk_k (show ¬ (0 : Nat) = 1 by decide) (Or.inr (xR_cat _)) xk_n) rfl ?_
  refine xe_alr (ins := .aload_n 0) (len := 1) (i := 0) (by decide +kernel) rfl rfl rfl rfl rfl ?_
  refine xe_iconst (n := 0) (by decide +kernel) rfl ?_
  obtain ⟨M105, e106, h⟩ := xbnd h
  refine xs_p (i := 1131) (c := 15) (k := 73) (by decide +kernel) (by decide +kernel) (by decide +kernel) e106 rfl ?_
  refine xe_ldn (ins := .iload_n 1) (len := 1) (by decide +kernel) rfl rfl rfl rfl ?_
  cases h
  exact xe_ret_i (ty := .int) (by decide +kernel) rfl rfl ⟨rfl, rfl, (xq_gi_in e104)⟩
-- ChangeHouseModel.refused
def xr_362 : xj_mR := (15, yX15_refused, cX15_refused, 3, (Option.some Jvm.ClassFile.FieldType.int), 2, false, (14, 12), (1, 12))
set_option maxRecDepth 20000 in
theorem xr_362_e : xj_row 362 = some xr_362 := rfl
def f362  (f : Nat) (a0 : Nat) (a1 : Int) (a2 : Int) (M : xj_M) : Option (Int × xj_M) := ((xq_pi 15 75 (a0) (a2) M).bind fun M101 => (some (xwr ((-5000) - (a1)), M101)))
theorem k362 {d f : Nat}   {a0 : Nat} {a1 : Int} {a2 : Int} {M : xj_M} {R : Int × xj_M} (ha1 : xin a1) (ha2 : xin a2) (h : f362  f a0 a1 a2 M = some R) : xT (d + 1) 362 [xR_ a0, xI a1, xI a2] M (xQi R) := by
  refine xT_m xr_362_e (X := (none, d + 0, none)) rfl (xa_1 (xR_cat _) (xa_1 (xI_cat _) (xa_1 (xI_cat _) xa_n))) (by decide) ?_
  unfold f362 at h
  refine xe_alr (ins := .aload_n 0) (len := 1) (i := 0) (by decide +kernel) rfl rfl rfl rfl rfl ?_
  refine xe_ldn (ins := .iload_n 2) (len := 1) (by decide +kernel) rfl rfl rfl rfl ?_
  obtain ⟨M101, e102, h⟩ := xbnd h
  refine xs_p (i := 1112) (c := 15) (k := 75) (by decide +kernel) (by decide +kernel) (by decide +kernel) e102 rfl ?_
  refine xe_sipush (n := -5000) (by decide +kernel) (by decide) rfl ?_
  refine xe_ldn (ins := .iload_n 1) (len := 1) (by decide +kernel) rfl rfl rfl rfl ?_
  refine xe_isub (by decide +kernel) rfl ?_
  cases h
  exact xe_ret_i (ty := .int) (by decide +kernel) rfl rfl ⟨rfl, rfl, (xin_wr _)⟩
-- ChangeHouseModel.place
def xr_364 : xj_mR := (15, yX15_place, cX15_place, 1, (Option.some Jvm.ClassFile.FieldType.int), 0, false, (14, 16), (1, 12))
set_option maxRecDepth 20000 in
theorem xr_364_e : xj_row 364 = some xr_364 := rfl
def f364  (f : Nat) (a0 : Nat) (M : xj_M) : Option (Int × xj_M) := ((xq_pi 15 74 (a0) (0) M).bind fun M101 => ((xq_gi 15 75 (a0) M101).bind fun v103 => (some (v103, M101))))
theorem k364 {d f : Nat}   {a0 : Nat} {M : xj_M} {R : Int × xj_M}  (h : f364  f a0 M = some R) : xT (d + 1) 364 [xR_ a0] M (xQi R) := by
  refine xT_m xr_364_e (X := (none, d + 0, none)) rfl (xa_1 (xR_cat _) xa_n) (by decide) ?_
  unfold f364 at h
  refine xe_alr (ins := .aload_n 0) (len := 1) (i := 0) (by decide +kernel) rfl rfl rfl rfl rfl ?_
  refine xe_iconst (n := 0) (by decide +kernel) rfl ?_
  obtain ⟨M101, e102, h⟩ := xbnd h
  refine xs_p (i := 699) (c := 15) (k := 74) (by decide +kernel) (by decide +kernel) (by decide +kernel) e102 rfl ?_
  refine xe_alr (ins := .aload_n 0) (len := 1) (i := 0) (by decide +kernel) rfl rfl rfl rfl rfl ?_
  obtain ⟨v103, e104, h⟩ := xbnd h
  refine xs_gi (i := 1112) (c := 15) (k := 75) (by decide +kernel) (by decide) (by decide +kernel) e104 rfl ?_
  cases h
  exact xe_ret_i (ty := .int) (by decide +kernel) rfl rfl ⟨rfl, rfl, (xq_gi_in e104)⟩
-- ChangeHouseModel.forget
def xr_367 : xj_mR := (15, yX15_forget, cX15_forget, 2, (Option.some Jvm.ClassFile.FieldType.int), 0, false, (14, 28), (1, 12))
set_option maxRecDepth 20000 in
theorem xr_367_e : xj_row 367 = some xr_367 := rfl
def f367  (f : Nat) (a0 : Nat) (M : xj_M) : Option (Int × xj_M) := ((xq_pi 15 74 (a0) (0) M).bind fun M101 => ((xq_gr 15 61 (a0) M101).bind fun v103 => ((xq_gi 15 62 (a0) M101).bind fun v105 => ((xq_ar (v103) (v105) M101).bind fun v107 => ((xq_gi 13 33 (v107) M101).bind fun v109 => ((xq_gr 15 61 (a0) M101).bind fun v111 => ((xq_gi 15 62 (a0) M101).bind fun v113 => ((xq_ar (v111) (v113) M101).bind fun v115 => ((xq_is 13 (v115) M101).bind fun _ => ((f202  f (v115) M101).bind fun M119 => (some (v109, M119))))))))))))
theorem k367 {d f : Nat}   {a0 : Nat} {M : xj_M} {R : Int × xj_M}  (h : f367  f a0 M = some R) : xT (d + 2) 367 [xR_ a0] M (xQi R) := by
  refine xT_m xr_367_e (X := (none, d + 1, none)) rfl (xa_1 (xR_cat _) xa_n) (by decide) ?_
  unfold f367 at h
  refine xe_alr (ins := .aload_n 0) (len := 1) (i := 0) (by decide +kernel) rfl rfl rfl rfl rfl ?_
  refine xe_iconst (n := 0) (by decide +kernel) rfl ?_
  obtain ⟨M101, e102, h⟩ := xbnd h
  refine xs_p (i := 699) (c := 15) (k := 74) (by decide +kernel) (by decide +kernel) (by decide +kernel) e102 rfl ?_
  refine xe_alr (ins := .aload_n 0) (len := 1) (i := 0) (by decide +kernel) rfl rfl rfl rfl rfl ?_
  obtain ⟨v103, e104, h⟩ := xbnd h
  refine xs_gr (i := 667) (c := 15) (k := 61) (by decide +kernel) (by decide) (by decide +kernel) e104 rfl ?_
  refine xe_alr (ins := .aload_n 0) (len := 1) (i := 0) (by decide +kernel) rfl rfl rfl rfl rfl ?_
  obtain ⟨v105, e106, h⟩ := xbnd h
  refine xs_gi (i := 664) (c := 15) (k := 62) (by decide +kernel) (by decide) (by decide +kernel) e106 rfl ?_
  obtain ⟨v107, e108, h⟩ := xbnd h
  refine xs_aald (by decide +kernel) (xq_gi_in e106) e108 rfl ?_
  obtain ⟨v109, e110, h⟩ := xbnd h
  refine xs_gi (i := 715) (c := 13) (k := 33) (by decide +kernel) (by decide) (by decide +kernel) e110 rfl ?_
  refine xe_isr (ins := .istore_n 1) (len := 1) (i := 1) (by decide +kernel) rfl rfl rfl (by decide) (xk_k (show ¬ (0 : Nat) = 1 by decide) (Or.inr (xR_cat _)) xk_n) rfl ?_
  refine xe_alr (ins := .aload_n 0) (len := 1) (i := 0) (by decide +kernel) rfl rfl rfl rfl rfl ?_
  obtain ⟨v111, e112, h⟩ := xbnd h
  refine xs_gr (i := 667) (c := 15) (k := 61) (by decide +kernel) (by decide) (by decide +kernel) e112 rfl ?_
  refine xe_alr (ins := .aload_n 0) (len := 1) (i := 0) (by decide +kernel) rfl rfl rfl rfl rfl ?_
  obtain ⟨v113, e114, h⟩ := xbnd h
  refine xs_gi (i := 664) (c := 15) (k := 62) (by decide +kernel) (by decide) (by decide +kernel) e114 rfl ?_
  obtain ⟨v115, e116, h⟩ := xbnd h
  refine xs_aald (by decide +kernel) (xq_gi_in e114) e116 rfl ?_
  obtain ⟨_, e118, h⟩ := xbnd h
  obtain ⟨M119, e117, h⟩ := xbnd h
  refine xs_cv (i := 725) (j := 202) (ar := []) (rest := []) (r2 := xr_202) (by decide +kernel) (by decide +kernel) (by decide +kernel) xr_202_e rfl (by decide) (by decide) e118 ?_
  refine xc_v (k202 (d := d + 0)   e117) rfl ?_
  refine xe_ldn (ins := .iload_n 1) (len := 1) (by decide +kernel) rfl rfl rfl rfl ?_
  cases h
  exact xe_ret_i (ty := .int) (by decide +kernel) rfl rfl ⟨rfl, rfl, (xq_gi_in e110)⟩
-- ChangeHouseModel.answer
def xr_370 : xj_mR := (15, yX15_answer_, cX15_answer_, 3, (Option.some Jvm.ClassFile.FieldType.long), 2, false, (14, 40), (1, 12))
set_option maxRecDepth 20000 in
theorem xr_370_e : xj_row 370 = some xr_370 := rfl
def f370_48   (f : Nat) (y0 : Int) (M : xj_M) : Option (Int × xj_M) := (some (y0, M))
theorem k370_48 {d f : Nat}     {y0 : Int} {M : xj_M} {R : Int × xj_M} (hy0 : xiN y0) (h : f370_48   f y0 M = some R) : xW (d + 1) (none, d + 1, none) xr_370 (48, [], [xZ y0], M) (xQl R) := by
  unfold f370_48 at h
  cases h
  exact xe_ret_l (by decide +kernel) rfl ⟨rfl, rfl, hy0⟩
def f370_29   (f : Nat) (x0 : Nat) (M : xj_M) : Option (Int × xj_M) := ((xq_is 15 (x0) M).bind fun _ => ((f321  f (x0) M).bind fun R103 => f370_48   f (R103.1) R103.2))
theorem k370_29 {d f : Nat}     {x0 : Nat} {M : xj_M} {R : Int × xj_M}  (h : f370_29   f x0 M = some R) : xW (d + 1) (none, d + 1, none) xr_370 (29, [(0, xR_ x0)], [], M) (xQl R) := by
  unfold f370_29 at h
  refine xe_alr (ins := .aload_n 0) (len := 1) (i := 0) (by decide +kernel) rfl rfl rfl rfl rfl ?_
  obtain ⟨_, e102, h⟩ := xbnd h
  obtain ⟨R103, e101, h⟩ := xbnd h
  refine xs_cv (i := 903) (j := 321) (ar := []) (rest := []) (r2 := xr_321) (by decide +kernel) (by decide +kernel) (by decide +kernel) xr_321_e rfl (by decide) (by decide) e102 ?_
  refine xc_i (k321 (d := d + 0)   e101) rfl (fun hi104 => ?_)
  refine xe_i2l (by decide +kernel) rfl hi104 ?_
  refine xe_goto (off := 14) (nx := 48) (by decide +kernel) (by decide) ?_
  refine xW_lv rfl (l := []) (xsb_of trivial (show [0].Nodup by decide)) ?_
  exact k370_48   (xin_N hi104) h
def f370  (f : Nat) (a0 : Nat) (a1 : Int) (a2 : Int) (M : xj_M) : Option (Int × xj_M) := ((xq_pi 15 74 (a0) (0) M).bind fun M105 => (if (a1) < 0 then f370_29   f (a0) M105 else ((xq_gi 15 105 (a0) M105).bind fun v108 => (if (v108) ≤ (a1) then f370_29   f (a0) M105 else (if (a2) < 0 then f370_29   f (a0) M105 else ((xq_gi 15 106 (a0) M105).bind fun v112 => (if (a2) < (v112) then ((xq_gr 15 104 (a0) M105).bind fun v115 => ((xq_al (v115) (xwr ((xwr ((8) * (a1))) + (a2))) M105).bind fun v117 => f370_48   f (v117) M105)) else f370_29   f (a0) M105)))))))
theorem k370 {d f : Nat}   {a0 : Nat} {a1 : Int} {a2 : Int} {M : xj_M} {R : Int × xj_M} (ha1 : xin a1) (ha2 : xin a2) (h : f370  f a0 a1 a2 M = some R) : xT (d + 2) 370 [xR_ a0, xI a1, xI a2] M (xQl R) := by
  refine xT_m xr_370_e (X := (none, d + 1, none)) rfl (xa_1 (xR_cat _) (xa_1 (xI_cat _) (xa_1 (xI_cat _) xa_n))) (by decide) ?_
  unfold f370 at h
  refine xe_alr (ins := .aload_n 0) (len := 1) (i := 0) (by decide +kernel) rfl rfl rfl rfl rfl ?_
  refine xe_iconst (n := 0) (by decide +kernel) rfl ?_
  obtain ⟨M105, e106, h⟩ := xbnd h
  refine xs_p (i := 699) (c := 15) (k := 74) (by decide +kernel) (by decide +kernel) (by decide +kernel) e106 rfl ?_
  refine xe_ldn (ins := .iload_n 1) (len := 1) (by decide +kernel) rfl rfl rfl rfl ?_
  refine xe_iflt (off := 23) (t := 29) (by decide +kernel) (by decide) rfl ha1 (fun c107 => ?_) (fun c107 => ?_)
  · rw [if_pos c107] at h
    refine xW_lv rfl (l := [(0, xR_ (a0))]) (xsb_of ⟨rfl, trivial⟩ (show [0, 1, 2].Nodup by decide)) ?_
    exact k370_29    h
  · rw [if_neg c107] at h
    refine xe_ldn (ins := .iload_n 1) (len := 1) (by decide +kernel) rfl rfl rfl rfl ?_
    refine xe_alr (ins := .aload_n 0) (len := 1) (i := 0) (by decide +kernel) rfl rfl rfl rfl rfl ?_
    obtain ⟨v108, e109, h⟩ := xbnd h
    refine xs_gi (i := 1141) (c := 15) (k := 105) (by decide +kernel) (by decide) (by decide +kernel) e109 rfl ?_
    refine xe_icmpge (off := 15) (t := 29) (by decide +kernel) (by decide) rfl ha1 (xq_gi_in e109) (fun c110 => ?_) (fun c110 => ?_)
    · rw [if_pos c110] at h
      refine xW_lv rfl (l := [(0, xR_ (a0))]) (xsb_of ⟨rfl, trivial⟩ (show [0, 1, 2].Nodup by decide)) ?_
      exact k370_29    h
    · rw [if_neg c110] at h
      refine xe_ldn (ins := .iload_n 2) (len := 1) (by decide +kernel) rfl rfl rfl rfl ?_
      refine xe_iflt (off := 11) (t := 29) (by decide +kernel) (by decide) rfl ha2 (fun c111 => ?_) (fun c111 => ?_)
      · rw [if_pos c111] at h
        refine xW_lv rfl (l := [(0, xR_ (a0))]) (xsb_of ⟨rfl, trivial⟩ (show [0, 1, 2].Nodup by decide)) ?_
        exact k370_29    h
      · rw [if_neg c111] at h
        refine xe_ldn (ins := .iload_n 2) (len := 1) (by decide +kernel) rfl rfl rfl rfl ?_
        refine xe_alr (ins := .aload_n 0) (len := 1) (i := 0) (by decide +kernel) rfl rfl rfl rfl rfl ?_
        obtain ⟨v112, e113, h⟩ := xbnd h
        refine xs_gi (i := 1144) (c := 15) (k := 106) (by decide +kernel) (by decide) (by decide +kernel) e113 rfl ?_
        refine xe_icmplt (off := 11) (t := 37) (by decide +kernel) (by decide) rfl ha2 (xq_gi_in e113) (fun c114 => ?_) (fun c114 => ?_)
        · rw [if_pos c114] at h
          refine xe_alr (ins := .aload_n 0) (len := 1) (i := 0) (by decide +kernel) rfl rfl rfl rfl rfl ?_
          obtain ⟨v115, e116, h⟩ := xbnd h
          refine xs_gr (i := 1128) (c := 15) (k := 104) (by decide +kernel) (by decide) (by decide +kernel) e116 rfl ?_
          refine xe_bipush (n := 8) (by decide +kernel) (by decide) rfl ?_
          refine xe_ldn (ins := .iload_n 1) (len := 1) (by decide +kernel) rfl rfl rfl rfl ?_
          refine xe_imul (by decide +kernel) rfl ?_
          refine xe_ldn (ins := .iload_n 2) (len := 1) (by decide +kernel) rfl rfl rfl rfl ?_
          refine xe_iadd (by decide +kernel) rfl ?_
          obtain ⟨v117, e118, h⟩ := xbnd h
          refine xs_lald (by decide +kernel) (xin_wr _) e118 rfl ?_
          refine xW_lv rfl (l := []) (xsb_of trivial (show [0, 1, 2].Nodup by decide)) ?_
          exact k370_48   (xq_al_in e118) h
        · rw [if_neg c114] at h
          refine xW_lv rfl (l := [(0, xR_ (a0))]) (xsb_of ⟨rfl, trivial⟩ (show [0, 1, 2].Nodup by decide)) ?_
          exact k370_29    h
-- ChangeHouseModel.isRow
def xr_371 : xj_mR := (15, yX15_isRow, cX15_isRow, 3, (Option.some Jvm.ClassFile.FieldType.boolean), 2, false, (14, 48), (1, 12))
set_option maxRecDepth 20000 in
theorem xr_371_e : xj_row 371 = some xr_371 := rfl
def f371_34   (f : Nat) (y0 : Int) (M : xj_M) : Option (Int × xj_M) := (if (y0) = 0 ∨ (y0) = 1 then some (y0, M) else none)
theorem k371_34 {d f : Nat}     {y0 : Int} {M : xj_M} {R : Int × xj_M} (hy0 : xin y0) (h : f371_34   f y0 M = some R) : xW (d + 0) (none, d + 0, none) xr_371 (34, [], [xI y0], M) (xQi R) := by
  unfold f371_34 at h
  by_cases c101 : (y0) = 0 ∨ (y0) = 1
  · rw [if_pos c101] at h; cases h; exact xe_ret_i (ty := .boolean) (by decide +kernel) rfl (xbool c101) ⟨rfl, rfl, hy0⟩
  · rw [if_neg c101] at h; cases h
def f371_33   (f : Nat)  (M : xj_M) : Option (Int × xj_M) := f371_34   f (0) M
theorem k371_33 {d f : Nat}      {M : xj_M} {R : Int × xj_M}  (h : f371_33   f  M = some R) : xW (d + 0) (none, d + 0, none) xr_371 (33, [], [], M) (xQi R) := by
  unfold f371_33 at h
  refine xe_iconst (n := 0) (by decide +kernel) rfl ?_
  refine xW_lv rfl (l := []) (xsb_of trivial (show [].Nodup by decide)) ?_
  exact k371_34   (show xin (0) by decide) h
def f371  (f : Nat) (a0 : Nat) (a1 : Int) (a2 : Int) (M : xj_M) : Option (Int × xj_M) := (if (a1) < 0 then f371_33   f  M else ((xq_gr 15 29 (a0) M).bind fun v103 => ((xq_gi 14 8 (v103) M).bind fun v105 => (if (v105) ≤ (a1) then f371_33   f  M else (if (a2) < 0 then f371_33   f  M else ((xq_gr 15 33 (a0) M).bind fun v109 => ((xq_ai 3 (v109) (a1) M).bind fun v111 => (if (v111) ≤ (a2) then f371_33   f  M else f371_34   f (1) M))))))))
theorem k371 {d f : Nat}   {a0 : Nat} {a1 : Int} {a2 : Int} {M : xj_M} {R : Int × xj_M} (ha1 : xin a1) (ha2 : xin a2) (h : f371  f a0 a1 a2 M = some R) : xT (d + 1) 371 [xR_ a0, xI a1, xI a2] M (xQi R) := by
  refine xT_m xr_371_e (X := (none, d + 0, none)) rfl (xa_1 (xR_cat _) (xa_1 (xI_cat _) (xa_1 (xI_cat _) xa_n))) (by decide) ?_
  unfold f371 at h
  refine xe_ldn (ins := .iload_n 1) (len := 1) (by decide +kernel) rfl rfl rfl rfl ?_
  refine xe_iflt (off := 32) (t := 33) (by decide +kernel) (by decide) rfl ha1 (fun c102 => ?_) (fun c102 => ?_)
  · rw [if_pos c102] at h
    refine xW_lv rfl (l := []) (xsb_of trivial (show [0, 1, 2].Nodup by decide)) ?_
    exact k371_33    h
  · rw [if_neg c102] at h
    refine xe_ldn (ins := .iload_n 1) (len := 1) (by decide +kernel) rfl rfl rfl rfl ?_
    refine xe_alr (ins := .aload_n 0) (len := 1) (i := 0) (by decide +kernel) rfl rfl rfl rfl rfl ?_
    obtain ⟨v103, e104, h⟩ := xbnd h
    refine xs_gr (i := 439) (c := 15) (k := 29) (by decide +kernel) (by decide) (by decide +kernel) e104 rfl ?_
    obtain ⟨v105, e106, h⟩ := xbnd h
    refine xs_gi (i := 166) (c := 14) (k := 8) (by decide +kernel) (by decide) (by decide +kernel) e106 rfl ?_
    refine xe_icmpge (off := 21) (t := 33) (by decide +kernel) (by decide) rfl ha1 (xq_gi_in e106) (fun c107 => ?_) (fun c107 => ?_)
    · rw [if_pos c107] at h
      refine xW_lv rfl (l := []) (xsb_of trivial (show [0, 1, 2].Nodup by decide)) ?_
      exact k371_33    h
    · rw [if_neg c107] at h
      refine xe_ldn (ins := .iload_n 2) (len := 1) (by decide +kernel) rfl rfl rfl rfl ?_
      refine xe_iflt (off := 17) (t := 33) (by decide +kernel) (by decide) rfl ha2 (fun c108 => ?_) (fun c108 => ?_)
      · rw [if_pos c108] at h
        refine xW_lv rfl (l := []) (xsb_of trivial (show [0, 1, 2].Nodup by decide)) ?_
        exact k371_33    h
      · rw [if_neg c108] at h
        refine xe_ldn (ins := .iload_n 2) (len := 1) (by decide +kernel) rfl rfl rfl rfl ?_
        refine xe_alr (ins := .aload_n 0) (len := 1) (i := 0) (by decide +kernel) rfl rfl rfl rfl rfl ?_
        obtain ⟨v109, e110, h⟩ := xbnd h
        refine xs_gr (i := 430) (c := 15) (k := 33) (by decide +kernel) (by decide) (by decide +kernel) e110 rfl ?_
        refine xe_ldn (ins := .iload_n 1) (len := 1) (by decide +kernel) rfl rfl rfl rfl ?_
        obtain ⟨v111, e112, h⟩ := xbnd h
        refine xs_iald rfl (by decide +kernel) ha1 e112 rfl ?_
        refine xe_icmpge (off := 7) (t := 33) (by decide +kernel) (by decide) rfl ha2 (xq_ai_in e112) (fun c113 => ?_) (fun c113 => ?_)
        · rw [if_pos c113] at h
          refine xW_lv rfl (l := []) (xsb_of trivial (show [0, 1, 2].Nodup by decide)) ?_
          exact k371_33    h
        · rw [if_neg c113] at h
          refine xe_iconst (n := 1) (by decide +kernel) rfl ?_
          refine xe_goto (off := 4) (nx := 34) (by decide +kernel) (by decide) ?_
          refine xW_lv rfl (l := []) (xsb_of trivial (show [0, 1, 2].Nodup by decide)) ?_
          exact k371_34   (show xin (1) by decide) h
-- ChangeHouseModel.firstRow
def xr_376 : xj_mR := (15, yX15_firstRow, cX15_firstRow, 4, (Option.some Jvm.ClassFile.FieldType.int), 1, false, (14, 64), (1, 12))
set_option maxRecDepth 20000 in
theorem xr_376_e : xj_row 376 = some xr_376 := rfl
def f376_99  (r68 : Nat → Int → Int → Int → xj_M → Option (Int × xj_M)) (f : Nat) (x0 : Nat) (x1 : Int) (x2 : Int) (x3 : Int) (M : xj_M) : Option (Int × xj_M) := r68 (x0) (x1) (x2) (xwr ((x3) + (1))) M
theorem k376_99 {d f : Nat}  {r68 : Nat → Int → Int → Int → xj_M → Option (Int × xj_M)}  (hr68 : ∀ {x0 : Nat} {x1 : Int} {x2 : Int} {x3 : Int} {M : xj_M} {R : Int × xj_M}, xin x1 → xin x2 → xin x3 → r68 x0 x1 x2 x3 M = some R → xW (d + 2) (none, d + 2, none) xr_376 (68, [(0, xR_ x0), (1, xI x1), (2, xI x2), (3, xI x3)], [], M) (xQi R)) {x0 : Nat} {x1 : Int} {x2 : Int} {x3 : Int} {M : xj_M} {R : Int × xj_M} (hx1 : xin x1) (hx2 : xin x2) (hx3 : xin x3) (h : f376_99  r68 f x0 x1 x2 x3 M = some R) : xW (d + 2) (none, d + 2, none) xr_376 (99, [(0, xR_ x0), (1, xI x1), (2, xI x2), (3, xI x3)], [], M) (xQi R) := by
  unfold f376_99 at h
  refine xe_iincr (i := 3) (n := 1) (by decide +kernel) (by decide) rfl (xk_k (show ¬ (0 : Nat) = 3 by decide) (Or.inl (show ¬ (0 + 1 : Nat) = 3 by decide)) (xk_k (show ¬ (1 : Nat) = 3 by decide) (Or.inl (show ¬ (1 + 1 : Nat) = 3 by decide)) (xk_k (show ¬ (2 : Nat) = 3 by decide) (Or.inr (xI_cat _)) (xk_d rfl xk_n)))) rfl ?_
  refine xe_goto (off := -34) (nx := 68) (by decide +kernel) (by decide) ?_
  refine xW_lv rfl (l := [(0, xR_ (x0)), (1, xI (x1)), (2, xI (x2)), (3, xI (xwr ((x3) + (1))))]) (xsb_of ⟨rfl, rfl, rfl, rfl, trivial⟩ (show [3, 0, 1, 2].Nodup by decide)) ?_
  exact hr68 hx1 hx2 (xin_wr _) h
def f376_68b  (r68 : Nat → Int → Int → Int → xj_M → Option (Int × xj_M)) (f : Nat) (x0 : Nat) (x1 : Int) (x2 : Int) (x3 : Int) (M : xj_M) : Option (Int × xj_M) := ((xq_gr 15 33 (x0) M).bind fun v101 => ((xq_ai 3 (v101) (x2) M).bind fun v103 => (if (v103) ≤ (x3) then (some (-1, M)) else ((xq_is 15 (x0) M).bind fun _ => ((f271  f (x0) (x2) (x3) M).bind fun R108 => (if (R108.1) = 0 then f376_99  r68 f (x0) (x1) (x2) (x3) R108.2 else ((xq_is 15 (x0) R108.2).bind fun _ => ((f272  f (x0) (x1) (x2) (x3) R108.2).bind fun R113 => (if (R113.1) = 0 then f376_99  r68 f (x0) (x1) (x2) (x3) R113.2 else (some (x3, R113.2)))))))))))
theorem k376_68b {d f : Nat}  {r68 : Nat → Int → Int → Int → xj_M → Option (Int × xj_M)}  (hr68 : ∀ {x0 : Nat} {x1 : Int} {x2 : Int} {x3 : Int} {M : xj_M} {R : Int × xj_M}, xin x1 → xin x2 → xin x3 → r68 x0 x1 x2 x3 M = some R → xW (d + 2) (none, d + 2, none) xr_376 (68, [(0, xR_ x0), (1, xI x1), (2, xI x2), (3, xI x3)], [], M) (xQi R)) {x0 : Nat} {x1 : Int} {x2 : Int} {x3 : Int} {M : xj_M} {R : Int × xj_M} (hx1 : xin x1) (hx2 : xin x2) (hx3 : xin x3) (h : f376_68b  r68 f x0 x1 x2 x3 M = some R) : xW (d + 2) (none, d + 2, none) xr_376 (68, [(0, xR_ x0), (1, xI x1), (2, xI x2), (3, xI x3)], [], M) (xQi R) := by
  unfold f376_68b at h
  refine xe_ldn (ins := .iload_n 3) (len := 1) (by decide +kernel) rfl rfl rfl rfl ?_
  refine xe_alr (ins := .aload_n 0) (len := 1) (i := 0) (by decide +kernel) rfl rfl rfl rfl rfl ?_
  obtain ⟨v101, e102, h⟩ := xbnd h
  refine xs_gr (i := 430) (c := 15) (k := 33) (by decide +kernel) (by decide) (by decide +kernel) e102 rfl ?_
  refine xe_ldn (ins := .iload_n 2) (len := 1) (by decide +kernel) rfl rfl rfl rfl ?_
  obtain ⟨v103, e104, h⟩ := xbnd h
  refine xs_iald rfl (by decide +kernel) hx2 e104 rfl ?_
  refine xe_icmpge (off := 30) (t := 105) (by decide +kernel) (by decide) rfl hx3 (xq_ai_in e104) (fun c105 => ?_) (fun c105 => ?_)
  · rw [if_pos c105] at h
    refine xe_iconst (n := -1) (by decide +kernel) rfl ?_
    cases h
    exact xe_ret_i (ty := .int) (by decide +kernel) rfl rfl ⟨rfl, rfl, (show xin (-1) by decide)⟩
  · rw [if_neg c105] at h
    refine xe_alr (ins := .aload_n 0) (len := 1) (i := 0) (by decide +kernel) rfl rfl rfl rfl rfl ?_
    refine xe_ldn (ins := .iload_n 2) (len := 1) (by decide +kernel) rfl rfl rfl rfl ?_
    refine xe_ldn (ins := .iload_n 3) (len := 1) (by decide +kernel) rfl rfl rfl rfl ?_
    obtain ⟨_, e107, h⟩ := xbnd h
    obtain ⟨R108, e106, h⟩ := xbnd h
    refine xs_cv (i := 491) (j := 271) (ar := [xI (x3), xI (x2)]) (rest := []) (r2 := xr_271) (by decide +kernel) (by decide +kernel) (by decide +kernel) xr_271_e rfl (by decide) (by decide) e107 ?_
    refine xc_i (k271 (d := d + 1)  hx2 hx3 e106) rfl (fun hi109 => ?_)
    refine xe_ifeq (off := 15) (t := 99) (by decide +kernel) (by decide) rfl hi109 (fun c110 => ?_) (fun c110 => ?_)
    · rw [if_pos c110] at h
      refine xW_lv rfl (l := [(0, xR_ (x0)), (1, xI (x1)), (2, xI (x2)), (3, xI (x3))]) (xsb_of ⟨rfl, rfl, rfl, rfl, trivial⟩ (show [0, 1, 2, 3].Nodup by decide)) ?_
      exact k376_99  hr68 hx1 hx2 hx3 h
    · rw [if_neg c110] at h
      refine xe_alr (ins := .aload_n 0) (len := 1) (i := 0) (by decide +kernel) rfl rfl rfl rfl rfl ?_
      refine xe_ldn (ins := .iload_n 1) (len := 1) (by decide +kernel) rfl rfl rfl rfl ?_
      refine xe_ldn (ins := .iload_n 2) (len := 1) (by decide +kernel) rfl rfl rfl rfl ?_
      refine xe_ldn (ins := .iload_n 3) (len := 1) (by decide +kernel) rfl rfl rfl rfl ?_
      obtain ⟨_, e112, h⟩ := xbnd h
      obtain ⟨R113, e111, h⟩ := xbnd h
      refine xs_cv (i := 510) (j := 272) (ar := [xI (x3), xI (x2), xI (x1)]) (rest := []) (r2 := xr_272) (by decide +kernel) (by decide +kernel) (by decide +kernel) xr_272_e rfl (by decide) (by decide) e112 ?_
      refine xc_i (k272 (d := d + 0)  hx1 hx2 hx3 e111) rfl (fun hi114 => ?_)
      refine xe_ifeq (off := 5) (t := 99) (by decide +kernel) (by decide) rfl hi114 (fun c115 => ?_) (fun c115 => ?_)
      · rw [if_pos c115] at h
        refine xW_lv rfl (l := [(0, xR_ (x0)), (1, xI (x1)), (2, xI (x2)), (3, xI (x3))]) (xsb_of ⟨rfl, rfl, rfl, rfl, trivial⟩ (show [0, 1, 2, 3].Nodup by decide)) ?_
        exact k376_99  hr68 hx1 hx2 hx3 h
      · rw [if_neg c115] at h
        refine xe_ldn (ins := .iload_n 3) (len := 1) (by decide +kernel) rfl rfl rfl rfl ?_
        cases h
        exact xe_ret_i (ty := .int) (by decide +kernel) rfl rfl ⟨rfl, rfl, hx3⟩
def f376_68   (f : Nat) : Nat → Nat → Int → Int → Int → xj_M → Option (Int × xj_M)
  | 0, _, _, _, _, _ => none
  | n + 1, x0, x1, x2, x3, M => f376_68b   (f376_68   f n) f x0 x1 x2 x3 M
theorem k376_68 {d f : Nat}     : ∀ {n : Nat} {x0 : Nat} {x1 : Int} {x2 : Int} {x3 : Int} {M : xj_M} {R : Int × xj_M}, xin x1 → xin x2 → xin x3 → f376_68   f n x0 x1 x2 x3 M = some R → xW (d + 2) (none, d + 2, none) xr_376 (68, [(0, xR_ x0), (1, xI x1), (2, xI x2), (3, xI x3)], [], M) (xQi R) := by
  intro n
  induction n with
  | zero => intros; rename_i h; cases h
  | succ n ih => intros; rename_i h; exact k376_68b   ih (by assumption) (by assumption) (by assumption) h
def f376_2b  (r2 : Nat → Int → Int → xj_M → Option (Int × xj_M)) (f : Nat) (x0 : Nat) (x1 : Int) (x2 : Int) (M : xj_M) : Option (Int × xj_M) := ((xq_gr 15 29 (x0) M).bind fun v116 => ((xq_gr 14 22 (v116) M).bind fun v118 => ((xq_gi 15 39 (x0) M).bind fun v120 => ((xq_ai 3 (v118) (v120) M).bind fun v122 => (if (v122) ≤ (x2) then ((xq_gr 15 29 (x0) M).bind fun v125 => ((xq_gr 14 22 (v125) M).bind fun v127 => ((xq_gi 15 39 (x0) M).bind fun v129 => ((xq_ai 3 (v127) (v129) M).bind fun v131 => ((xq_pi 15 37 (x0) (xwr ((xshl (1) (v131)) - (1))) M).bind fun M133 => ((xq_gr 15 29 (x0) M133).bind fun v135 => ((xq_gr 14 28 (v135) M133).bind fun v137 => ((xq_ai 3 (v137) (x1) M133).bind fun v139 => f376_68   f f (x0) (x1) (v139) (0) M133)))))))) else ((xq_gr 15 35 (x0) M).bind fun v141 => ((xq_gr 15 50 (x0) M).bind fun v143 => ((xq_al (v143) (x2) M).bind fun v145 => ((xq_sl (v141) (x2) (v145) M).bind fun M147 => r2 (x0) (x1) (xwr ((x2) + (1))) M147)))))))))
theorem k376_2b {d f : Nat}  {r2 : Nat → Int → Int → xj_M → Option (Int × xj_M)}  (hr2 : ∀ {x0 : Nat} {x1 : Int} {x2 : Int} {M : xj_M} {R : Int × xj_M}, xin x1 → xin x2 → r2 x0 x1 x2 M = some R → xW (d + 2) (none, d + 2, none) xr_376 (2, [(0, xR_ x0), (1, xI x1), (2, xI x2)], [], M) (xQi R)) {x0 : Nat} {x1 : Int} {x2 : Int} {M : xj_M} {R : Int × xj_M} (hx1 : xin x1) (hx2 : xin x2) (h : f376_2b  r2 f x0 x1 x2 M = some R) : xW (d + 2) (none, d + 2, none) xr_376 (2, [(0, xR_ x0), (1, xI x1), (2, xI x2)], [], M) (xQi R) := by
  unfold f376_2b at h
  refine xe_ldn (ins := .iload_n 2) (len := 1) (by decide +kernel) rfl rfl rfl rfl ?_
  refine xe_alr (ins := .aload_n 0) (len := 1) (i := 0) (by decide +kernel) rfl rfl rfl rfl rfl ?_
  obtain ⟨v116, e117, h⟩ := xbnd h
  refine xs_gr (i := 439) (c := 15) (k := 29) (by decide +kernel) (by decide) (by decide +kernel) e117 rfl ?_
  obtain ⟨v118, e119, h⟩ := xbnd h
  refine xs_gr (i := 271) (c := 14) (k := 22) (by decide +kernel) (by decide) (by decide +kernel) e119 rfl ?_
  refine xe_alr (ins := .aload_n 0) (len := 1) (i := 0) (by decide +kernel) rfl rfl rfl rfl rfl ?_
  obtain ⟨v120, e121, h⟩ := xbnd h
  refine xs_gi (i := 501) (c := 15) (k := 39) (by decide +kernel) (by decide) (by decide +kernel) e121 rfl ?_
  obtain ⟨v122, e123, h⟩ := xbnd h
  refine xs_iald rfl (by decide +kernel) (xq_gi_in e121) e123 rfl ?_
  refine xe_icmpge (off := 21) (t := 36) (by decide +kernel) (by decide) rfl hx2 (xq_ai_in e123) (fun c124 => ?_) (fun c124 => ?_)
  · rw [if_pos c124] at h
    refine xe_alr (ins := .aload_n 0) (len := 1) (i := 0) (by decide +kernel) rfl rfl rfl rfl rfl ?_
    refine xe_iconst (n := 1) (by decide +kernel) rfl ?_
    refine xe_alr (ins := .aload_n 0) (len := 1) (i := 0) (by decide +kernel) rfl rfl rfl rfl rfl ?_
    obtain ⟨v125, e126, h⟩ := xbnd h
    refine xs_gr (i := 439) (c := 15) (k := 29) (by decide +kernel) (by decide) (by decide +kernel) e126 rfl ?_
    obtain ⟨v127, e128, h⟩ := xbnd h
    refine xs_gr (i := 271) (c := 14) (k := 22) (by decide +kernel) (by decide) (by decide +kernel) e128 rfl ?_
    refine xe_alr (ins := .aload_n 0) (len := 1) (i := 0) (by decide +kernel) rfl rfl rfl rfl rfl ?_
    obtain ⟨v129, e130, h⟩ := xbnd h
    refine xs_gi (i := 501) (c := 15) (k := 39) (by decide +kernel) (by decide) (by decide +kernel) e130 rfl ?_
    obtain ⟨v131, e132, h⟩ := xbnd h
    refine xs_iald rfl (by decide +kernel) (xq_gi_in e130) e132 rfl ?_
    refine xe_ishl (by decide +kernel) rfl ?_
    refine xe_iconst (n := 1) (by decide +kernel) rfl ?_
    refine xe_isub (by decide +kernel) rfl ?_
    obtain ⟨M133, e134, h⟩ := xbnd h
    refine xs_p (i := 479) (c := 15) (k := 37) (by decide +kernel) (by decide +kernel) (by decide +kernel) e134 rfl ?_
    refine xe_alr (ins := .aload_n 0) (len := 1) (i := 0) (by decide +kernel) rfl rfl rfl rfl rfl ?_
    obtain ⟨v135, e136, h⟩ := xbnd h
    refine xs_gr (i := 439) (c := 15) (k := 29) (by decide +kernel) (by decide) (by decide +kernel) e136 rfl ?_
    obtain ⟨v137, e138, h⟩ := xbnd h
    refine xs_gr (i := 363) (c := 14) (k := 28) (by decide +kernel) (by decide) (by decide +kernel) e138 rfl ?_
    refine xe_ldn (ins := .iload_n 1) (len := 1) (by decide +kernel) rfl rfl rfl rfl ?_
    obtain ⟨v139, e140, h⟩ := xbnd h
    refine xs_iald rfl (by decide +kernel) hx1 e140 rfl ?_
    refine xe_isr (ins := .istore_n 2) (len := 1) (i := 2) (by decide +kernel) rfl rfl rfl (by decide) (xk_k (show ¬ (0 : Nat) = 2 by decide) (Or.inl (show ¬ (0 + 1 : Nat) = 2 by decide)) (xk_k (show ¬ (1 : Nat) = 2 by decide) (Or.inr (xI_cat _)) (xk_d rfl xk_n))) rfl ?_
    refine xe_iconst (n := 0) (by decide +kernel) rfl ?_
    refine xe_isr (ins := .istore_n 3) (len := 1) (i := 3) (by decide +kernel) rfl rfl rfl (by decide) (xk_k (show ¬ (2 : Nat) = 3 by decide) (Or.inr (xI_cat _)) (xk_k (show ¬ (0 : Nat) = 3 by decide) (Or.inl (show ¬ (0 + 1 : Nat) = 3 by decide)) (xk_k (show ¬ (1 : Nat) = 3 by decide) (Or.inl (show ¬ (1 + 1 : Nat) = 3 by decide)) xk_n))) rfl ?_
    refine xW_lv rfl (l := [(0, xR_ (x0)), (1, xI (x1)), (2, xI (v139)), (3, xI (0))]) (xsb_of ⟨rfl, rfl, rfl, rfl, trivial⟩ (show [3, 2, 0, 1].Nodup by decide)) ?_
    exact k376_68   hx1 (xq_ai_in e140) (show xin (0) by decide) h
  · rw [if_neg c124] at h
    refine xe_alr (ins := .aload_n 0) (len := 1) (i := 0) (by decide +kernel) rfl rfl rfl rfl rfl ?_
    obtain ⟨v141, e142, h⟩ := xbnd h
    refine xs_gr (i := 459) (c := 15) (k := 35) (by decide +kernel) (by decide) (by decide +kernel) e142 rfl ?_
    refine xe_ldn (ins := .iload_n 2) (len := 1) (by decide +kernel) rfl rfl rfl rfl ?_
    refine xe_alr (ins := .aload_n 0) (len := 1) (i := 0) (by decide +kernel) rfl rfl rfl rfl rfl ?_
    obtain ⟨v143, e144, h⟩ := xbnd h
    refine xs_gr (i := 586) (c := 15) (k := 50) (by decide +kernel) (by decide) (by decide +kernel) e144 rfl ?_
    refine xe_ldn (ins := .iload_n 2) (len := 1) (by decide +kernel) rfl rfl rfl rfl ?_
    obtain ⟨v145, e146, h⟩ := xbnd h
    refine xs_lald (by decide +kernel) hx2 e146 rfl ?_
    obtain ⟨M147, e148, h⟩ := xbnd h
    refine xs_last (by decide +kernel) hx2 e148 rfl ?_
    refine xe_iincr (i := 2) (n := 1) (by decide +kernel) (by decide) rfl (xk_k (show ¬ (0 : Nat) = 2 by decide) (Or.inl (show ¬ (0 + 1 : Nat) = 2 by decide)) (xk_k (show ¬ (1 : Nat) = 2 by decide) (Or.inr (xI_cat _)) (xk_d rfl xk_n))) rfl ?_
    refine xe_goto (off := -31) (nx := 2) (by decide +kernel) (by decide) ?_
    refine xW_lv rfl (l := [(0, xR_ (x0)), (1, xI (x1)), (2, xI (xwr ((x2) + (1))))]) (xsb_of ⟨rfl, rfl, rfl, trivial⟩ (show [2, 0, 1].Nodup by decide)) ?_
    exact hr2 hx1 (xin_wr _) h
def f376_2   (f : Nat) : Nat → Nat → Int → Int → xj_M → Option (Int × xj_M)
  | 0, _, _, _, _ => none
  | n + 1, x0, x1, x2, M => f376_2b   (f376_2   f n) f x0 x1 x2 M
theorem k376_2 {d f : Nat}     : ∀ {n : Nat} {x0 : Nat} {x1 : Int} {x2 : Int} {M : xj_M} {R : Int × xj_M}, xin x1 → xin x2 → f376_2   f n x0 x1 x2 M = some R → xW (d + 2) (none, d + 2, none) xr_376 (2, [(0, xR_ x0), (1, xI x1), (2, xI x2)], [], M) (xQi R) := by
  intro n
  induction n with
  | zero => intros; rename_i h; cases h
  | succ n ih => intros; rename_i h; exact k376_2b   ih (by assumption) (by assumption) h
def f376  (f : Nat) (a0 : Nat) (a1 : Int) (M : xj_M) : Option (Int × xj_M) := f376_2   f f (a0) (a1) (0) M
theorem k376 {d f : Nat}   {a0 : Nat} {a1 : Int} {M : xj_M} {R : Int × xj_M} (ha1 : xin a1) (h : f376  f a0 a1 M = some R) : xT (d + 3) 376 [xR_ a0, xI a1] M (xQi R) := by
  refine xT_m xr_376_e (X := (none, d + 2, none)) rfl (xa_1 (xR_cat _) (xa_1 (xI_cat _) xa_n)) (by decide) ?_
  unfold f376 at h
  refine xe_iconst (n := 0) (by decide +kernel) rfl ?_
  refine xe_isr (ins := .istore_n 2) (len := 1) (i := 2) (by decide +kernel) rfl rfl rfl (by decide) (xk_k (show ¬ (0 : Nat) = 2 by decide) (Or.inl (show ¬ (0 + 1 : Nat) = 2 by decide)) (xk_k (show ¬ (1 : Nat) = 2 by decide) (Or.inr (xI_cat _)) xk_n)) rfl ?_
  refine xW_lv rfl (l := [(0, xR_ (a0)), (1, xI (a1)), (2, xI (0))]) (xsb_of ⟨rfl, rfl, rfl, trivial⟩ (show [2, 0, 1].Nodup by decide)) ?_
  exact k376_2   ha1 (show xin (0) by decide) h
