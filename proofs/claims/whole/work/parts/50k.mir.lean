/-! Mirrors (written by mk_mir.py) -/
-- ChangeHouseModel.workCells
def xr_354 : xj_mR := (15, yX15_workCells, cX15_workCells, 6, (Option.none : Option Jvm.ClassFile.FieldType), 2, false, (10, 77), (1, 12))
set_option maxRecDepth 20000 in
theorem xr_354_e : xj_row 354 = some xr_354 := rfl
def f354_125  (r2 : Nat → Nat → Int → Int → xj_M → Option (xj_M)) (f : Nat) (x0 : Nat) (x1 : Nat) (x2 : Int) (x3 : Int) (M : xj_M) : Option (xj_M) := r2 (x0) (x1) (x2) (xwr ((x3) + (1))) M
theorem k354_125 {d f : Nat}  {r2 : Nat → Nat → Int → Int → xj_M → Option (xj_M)}  (hr2 : ∀ {x0 : Nat} {x1 : Nat} {x2 : Int} {x3 : Int} {M : xj_M} {R : xj_M}, xin x2 → xin x3 → r2 x0 x1 x2 x3 M = some R → xW (d + 258) (none, d + 258, none) xr_354 (2, [(0, xR_ x0), (1, xR_ x1), (2, xI x2), (3, xI x3)], [], M) (xQv R)) {x0 : Nat} {x1 : Nat} {x2 : Int} {x3 : Int} {M : xj_M} {R : xj_M} (hx2 : xin x2) (hx3 : xin x3) (h : f354_125  r2 f x0 x1 x2 x3 M = some R) : xW (d + 258) (none, d + 258, none) xr_354 (125, [(0, xR_ x0), (1, xR_ x1), (2, xI x2), (3, xI x3)], [], M) (xQv R) := by
  unfold f354_125 at h
  refine xe_iincr (i := 3) (n := 1) (by decide +kernel) (by decide) rfl (xk_k (show ¬ (0 : Nat) = 3 by decide) (Or.inl (show ¬ (0 + 1 : Nat) = 3 by decide)) (xk_k (show ¬ (1 : Nat) = 3 by decide) (Or.inl (show ¬ (1 + 1 : Nat) = 3 by decide)) (xk_k (show ¬ (2 : Nat) = 3 by decide) (Or.inr (xI_cat _)) (xk_d rfl xk_n)))) rfl ?_
  refine xe_goto (off := -126) (nx := 2) (by decide +kernel) (by decide) ?_
  refine xW_lv rfl (l := [(0, xR_ (x0)), (1, xR_ (x1)), (2, xI (x2)), (3, xI (xwr ((x3) + (1))))]) (xsb_of ⟨rfl, rfl, rfl, rfl, trivial⟩ (show [3, 0, 1, 2].Nodup by decide)) ?_
  exact hr2 hx2 (xin_wr _) h
def f354_52  (r2 : Nat → Nat → Int → Int → xj_M → Option (xj_M)) (f : Nat) (x0 : Nat) (x1 : Nat) (x2 : Int) (x3 : Int) (y0 : Int) (y1 : Int) (y2 : Nat) (M : xj_M) : Option (xj_M) := ((xq_sb (y2) (y1) (y0) M).bind fun M101 => ((xq_gr 15 97 (x0) M101).bind fun v103 => ((xq_ab (v103) (x3) M101).bind fun v105 => (if ¬ (v105) = 0 then ((xq_gr 13 11 (x1) M101).bind fun v108 => ((xq_gi 13 16 (x1) M101).bind fun v110 => ((xq_gi 13 2 (x1) M101).bind fun v112 => ((xq_si (v108) (v110) (v112) M101).bind fun M114 => ((xq_gr 13 12 (x1) M114).bind fun v116 => ((xq_gi 13 16 (x1) M114).bind fun v118 => ((xq_si (v116) (v118) (x3) M114).bind fun M120 => ((xq_gr 13 13 (x1) M120).bind fun v122 => ((xq_gi 13 16 (x1) M120).bind fun v124 => ((xq_gr 13 18 (x1) M120).bind fun v126 => ((xq_ai 3 (v126) (x3) M120).bind fun v128 => ((xq_si (v122) (v124) (v128) M120).bind fun M130 => ((xq_gi 13 16 (x1) M130).bind fun v132 => ((xq_pi 13 16 (x1) (xwr ((v132) + (1))) M130).bind fun M134 => ((xq_gr 13 18 (x1) M134).bind fun v136 => ((xq_gr 13 30 (x1) M134).bind fun v138 => ((xq_ai 3 (v138) (x3) M134).bind fun v140 => ((xq_si (v136) (x3) (v140) M134).bind fun M142 => f354_125  r2 f (x0) (x1) (x2) (x3) M142)))))))))))))))))) else f354_125  r2 f (x0) (x1) (x2) (x3) M101))))
theorem k354_52 {d f : Nat}  {r2 : Nat → Nat → Int → Int → xj_M → Option (xj_M)}  (hr2 : ∀ {x0 : Nat} {x1 : Nat} {x2 : Int} {x3 : Int} {M : xj_M} {R : xj_M}, xin x2 → xin x3 → r2 x0 x1 x2 x3 M = some R → xW (d + 258) (none, d + 258, none) xr_354 (2, [(0, xR_ x0), (1, xR_ x1), (2, xI x2), (3, xI x3)], [], M) (xQv R)) {x0 : Nat} {x1 : Nat} {x2 : Int} {x3 : Int} {y0 : Int} {y1 : Int} {y2 : Nat} {M : xj_M} {R : xj_M} (hx2 : xin x2) (hx3 : xin x3) (hy0 : xin y0) (hy1 : xin y1) (h : f354_52  r2 f x0 x1 x2 x3 y0 y1 y2 M = some R) : xW (d + 258) (none, d + 258, none) xr_354 (52, [(0, xR_ x0), (1, xR_ x1), (2, xI x2), (3, xI x3)], [xI y0, xI y1, xR_ y2], M) (xQv R) := by
  unfold f354_52 at h
  obtain ⟨M101, e102, h⟩ := xbnd h
  refine xs_bast (by decide +kernel) hy1 e102 rfl ?_
  refine xe_alr (ins := .aload_n 0) (len := 1) (i := 0) (by decide +kernel) rfl rfl rfl rfl rfl ?_
  obtain ⟨v103, e104, h⟩ := xbnd h
  refine xs_gr (i := 1074) (c := 15) (k := 97) (by decide +kernel) (by decide) (by decide +kernel) e104 rfl ?_
  refine xe_ldn (ins := .iload_n 3) (len := 1) (by decide +kernel) rfl rfl rfl rfl ?_
  obtain ⟨v105, e106, h⟩ := xbnd h
  refine xs_bald (by decide +kernel) hx3 e106 rfl ?_
  refine xe_ifne (off := 6) (t := 65) (by decide +kernel) (by decide) rfl (xq_ab_in e106) (fun c107 => ?_) (fun c107 => ?_)
  · rw [if_pos c107] at h
    refine xe_alr (ins := .aload_n 1) (len := 1) (i := 1) (by decide +kernel) rfl rfl rfl rfl rfl ?_
    obtain ⟨v108, e109, h⟩ := xbnd h
    refine xs_gr (i := 844) (c := 13) (k := 11) (by decide +kernel) (by decide) (by decide +kernel) e109 rfl ?_
    refine xe_alr (ins := .aload_n 1) (len := 1) (i := 1) (by decide +kernel) rfl rfl rfl rfl rfl ?_
    obtain ⟨v110, e111, h⟩ := xbnd h
    refine xs_gi (i := 847) (c := 13) (k := 16) (by decide +kernel) (by decide) (by decide +kernel) e111 rfl ?_
    refine xe_alr (ins := .aload_n 1) (len := 1) (i := 1) (by decide +kernel) rfl rfl rfl rfl rfl ?_
    obtain ⟨v112, e113, h⟩ := xbnd h
    refine xs_gi (i := 740) (c := 13) (k := 2) (by decide +kernel) (by decide) (by decide +kernel) e113 rfl ?_
    obtain ⟨M114, e115, h⟩ := xbnd h
    refine xs_iast (by decide +kernel) (xq_gi_in e111) e115 rfl ?_
    refine xe_alr (ins := .aload_n 1) (len := 1) (i := 1) (by decide +kernel) rfl rfl rfl rfl rfl ?_
    obtain ⟨v116, e117, h⟩ := xbnd h
    refine xs_gr (i := 850) (c := 13) (k := 12) (by decide +kernel) (by decide) (by decide +kernel) e117 rfl ?_
    refine xe_alr (ins := .aload_n 1) (len := 1) (i := 1) (by decide +kernel) rfl rfl rfl rfl rfl ?_
    obtain ⟨v118, e119, h⟩ := xbnd h
    refine xs_gi (i := 847) (c := 13) (k := 16) (by decide +kernel) (by decide) (by decide +kernel) e119 rfl ?_
    refine xe_ldn (ins := .iload_n 3) (len := 1) (by decide +kernel) rfl rfl rfl rfl ?_
    obtain ⟨M120, e121, h⟩ := xbnd h
    refine xs_iast (by decide +kernel) (xq_gi_in e119) e121 rfl ?_
    refine xe_alr (ins := .aload_n 1) (len := 1) (i := 1) (by decide +kernel) rfl rfl rfl rfl rfl ?_
    obtain ⟨v122, e123, h⟩ := xbnd h
    refine xs_gr (i := 853) (c := 13) (k := 13) (by decide +kernel) (by decide) (by decide +kernel) e123 rfl ?_
    refine xe_alr (ins := .aload_n 1) (len := 1) (i := 1) (by decide +kernel) rfl rfl rfl rfl rfl ?_
    obtain ⟨v124, e125, h⟩ := xbnd h
    refine xs_gi (i := 847) (c := 13) (k := 16) (by decide +kernel) (by decide) (by decide +kernel) e125 rfl ?_
    refine xe_alr (ins := .aload_n 1) (len := 1) (i := 1) (by decide +kernel) rfl rfl rfl rfl rfl ?_
    obtain ⟨v126, e127, h⟩ := xbnd h
    refine xs_gr (i := 865) (c := 13) (k := 18) (by decide +kernel) (by decide) (by decide +kernel) e127 rfl ?_
    refine xe_ldn (ins := .iload_n 3) (len := 1) (by decide +kernel) rfl rfl rfl rfl ?_
    obtain ⟨v128, e129, h⟩ := xbnd h
    refine xs_iald rfl (by decide +kernel) hx3 e129 rfl ?_
    obtain ⟨M130, e131, h⟩ := xbnd h
    refine xs_iast (by decide +kernel) (xq_gi_in e125) e131 rfl ?_
    refine xe_alr (ins := .aload_n 1) (len := 1) (i := 1) (by decide +kernel) rfl rfl rfl rfl rfl ?_
    refine xe_dupr (by decide +kernel) rfl ?_
    obtain ⟨v132, e133, h⟩ := xbnd h
    refine xs_gi (i := 847) (c := 13) (k := 16) (by decide +kernel) (by decide) (by decide +kernel) e133 rfl ?_
    refine xe_iconst (n := 1) (by decide +kernel) rfl ?_
    refine xe_iadd (by decide +kernel) rfl ?_
    obtain ⟨M134, e135, h⟩ := xbnd h
    refine xs_p (i := 847) (c := 13) (k := 16) (by decide +kernel) (by decide +kernel) (by decide +kernel) e135 rfl ?_
    refine xe_alr (ins := .aload_n 1) (len := 1) (i := 1) (by decide +kernel) rfl rfl rfl rfl rfl ?_
    obtain ⟨v136, e137, h⟩ := xbnd h
    refine xs_gr (i := 865) (c := 13) (k := 18) (by decide +kernel) (by decide) (by decide +kernel) e137 rfl ?_
    refine xe_ldn (ins := .iload_n 3) (len := 1) (by decide +kernel) rfl rfl rfl rfl ?_
    refine xe_alr (ins := .aload_n 1) (len := 1) (i := 1) (by decide +kernel) rfl rfl rfl rfl rfl ?_
    obtain ⟨v138, e139, h⟩ := xbnd h
    refine xs_gr (i := 1077) (c := 13) (k := 30) (by decide +kernel) (by decide) (by decide +kernel) e139 rfl ?_
    refine xe_ldn (ins := .iload_n 3) (len := 1) (by decide +kernel) rfl rfl rfl rfl ?_
    obtain ⟨v140, e141, h⟩ := xbnd h
    refine xs_iald rfl (by decide +kernel) hx3 e141 rfl ?_
    obtain ⟨M142, e143, h⟩ := xbnd h
    refine xs_iast (by decide +kernel) hx3 e143 rfl ?_
    refine xW_lv rfl (l := [(0, xR_ (x0)), (1, xR_ (x1)), (2, xI (x2)), (3, xI (x3))]) (xsb_of ⟨rfl, rfl, rfl, rfl, trivial⟩ (show [0, 1, 2, 3].Nodup by decide)) ?_
    exact k354_125  hr2 hx2 hx3 h
  · rw [if_neg c107] at h
    refine xe_goto (off := 63) (nx := 125) (by decide +kernel) (by decide) ?_
    refine xW_lv rfl (l := [(0, xR_ (x0)), (1, xR_ (x1)), (2, xI (x2)), (3, xI (x3))]) (xsb_of ⟨rfl, rfl, rfl, rfl, trivial⟩ (show [0, 1, 2, 3].Nodup by decide)) ?_
    exact k354_125  hr2 hx2 hx3 h
def f354_346  (r138 : Nat → Nat → Int → Int → xj_M → Option (xj_M)) (f : Nat) (x0 : Nat) (x1 : Nat) (x2 : Int) (x3 : Int) (M : xj_M) : Option (xj_M) := r138 (x0) (x1) (x2) (xwr ((x3) + (1))) M
theorem k354_346 {d f : Nat}  {r138 : Nat → Nat → Int → Int → xj_M → Option (xj_M)}  (hr138 : ∀ {x0 : Nat} {x1 : Nat} {x2 : Int} {x3 : Int} {M : xj_M} {R : xj_M}, xin x2 → xin x3 → r138 x0 x1 x2 x3 M = some R → xW (d + 258) (none, d + 258, none) xr_354 (138, [(0, xR_ x0), (1, xR_ x1), (2, xI x2), (3, xI x3)], [], M) (xQv R)) {x0 : Nat} {x1 : Nat} {x2 : Int} {x3 : Int} {M : xj_M} {R : xj_M} (hx2 : xin x2) (hx3 : xin x3) (h : f354_346  r138 f x0 x1 x2 x3 M = some R) : xW (d + 258) (none, d + 258, none) xr_354 (346, [(0, xR_ x0), (1, xR_ x1), (2, xI x2), (3, xI x3)], [], M) (xQv R) := by
  unfold f354_346 at h
  refine xe_iincr (i := 3) (n := 1) (by decide +kernel) (by decide) rfl (xk_k (show ¬ (0 : Nat) = 3 by decide) (Or.inl (show ¬ (0 + 1 : Nat) = 3 by decide)) (xk_k (show ¬ (1 : Nat) = 3 by decide) (Or.inl (show ¬ (1 + 1 : Nat) = 3 by decide)) (xk_k (show ¬ (2 : Nat) = 3 by decide) (Or.inr (xI_cat _)) (xk_d rfl xk_n)))) rfl ?_
  refine xe_goto (off := -211) (nx := 138) (by decide +kernel) (by decide) ?_
  refine xW_lv rfl (l := [(0, xR_ (x0)), (1, xR_ (x1)), (2, xI (x2)), (3, xI (xwr ((x3) + (1))))]) (xsb_of ⟨rfl, rfl, rfl, rfl, trivial⟩ (show [3, 0, 1, 2].Nodup by decide)) ?_
  exact hr138 hx2 (xin_wr _) h
def f354_260  (r138 : Nat → Nat → Int → Int → xj_M → Option (xj_M)) (r188 : Nat → Nat → Int → Int → Int → Int → xj_M → Option (xj_M)) (f : Nat) (x0 : Nat) (x1 : Nat) (x2 : Int) (x3 : Int) (x5 : Int) (y0 : Int) (M : xj_M) : Option (xj_M) := r188 (x0) (x1) (x2) (x3) (y0) (xwr ((x5) + (1))) M
theorem k354_260 {d f : Nat}  {r138 : Nat → Nat → Int → Int → xj_M → Option (xj_M)} {r188 : Nat → Nat → Int → Int → Int → Int → xj_M → Option (xj_M)}  (hr138 : ∀ {x0 : Nat} {x1 : Nat} {x2 : Int} {x3 : Int} {M : xj_M} {R : xj_M}, xin x2 → xin x3 → r138 x0 x1 x2 x3 M = some R → xW (d + 258) (none, d + 258, none) xr_354 (138, [(0, xR_ x0), (1, xR_ x1), (2, xI x2), (3, xI x3)], [], M) (xQv R)) (hr188 : ∀ {x0 : Nat} {x1 : Nat} {x2 : Int} {x3 : Int} {x4 : Int} {x5 : Int} {M : xj_M} {R : xj_M}, xin x2 → xin x3 → xin x4 → xin x5 → r188 x0 x1 x2 x3 x4 x5 M = some R → xW (d + 258) (none, d + 258, none) xr_354 (188, [(0, xR_ x0), (1, xR_ x1), (2, xI x2), (3, xI x3), (4, xI x4), (5, xI x5)], [], M) (xQv R)) {x0 : Nat} {x1 : Nat} {x2 : Int} {x3 : Int} {x5 : Int} {y0 : Int} {M : xj_M} {R : xj_M} (hx2 : xin x2) (hx3 : xin x3) (hx5 : xin x5) (hy0 : xin y0) (h : f354_260  r138 r188 f x0 x1 x2 x3 x5 y0 M = some R) : xW (d + 258) (none, d + 258, none) xr_354 (260, [(0, xR_ x0), (1, xR_ x1), (2, xI x2), (3, xI x3), (5, xI x5)], [xI y0], M) (xQv R) := by
  unfold f354_260 at h
  refine xe_isr (ins := .istore 4) (len := 2) (i := 4) (by decide +kernel) rfl rfl rfl (by decide) (xk_k (show ¬ (0 : Nat) = 4 by decide) (Or.inl (show ¬ (0 + 1 : Nat) = 4 by decide)) (xk_k (show ¬ (1 : Nat) = 4 by decide) (Or.inl (show ¬ (1 + 1 : Nat) = 4 by decide)) (xk_k (show ¬ (2 : Nat) = 4 by decide) (Or.inl (show ¬ (2 + 1 : Nat) = 4 by decide)) (xk_k (show ¬ (3 : Nat) = 4 by decide) (Or.inr (xI_cat _)) (xk_k (show ¬ (5 : Nat) = 4 by decide) (Or.inl (show ¬ (5 + 1 : Nat) = 4 by decide)) xk_n))))) rfl ?_
  refine xe_iincr (i := 5) (n := 1) (by decide +kernel) (by decide) rfl (xk_k (show ¬ (4 : Nat) = 5 by decide) (Or.inr (xI_cat _)) (xk_k (show ¬ (0 : Nat) = 5 by decide) (Or.inl (show ¬ (0 + 1 : Nat) = 5 by decide)) (xk_k (show ¬ (1 : Nat) = 5 by decide) (Or.inl (show ¬ (1 + 1 : Nat) = 5 by decide)) (xk_k (show ¬ (2 : Nat) = 5 by decide) (Or.inl (show ¬ (2 + 1 : Nat) = 5 by decide)) (xk_k (show ¬ (3 : Nat) = 5 by decide) (Or.inl (show ¬ (3 + 1 : Nat) = 5 by decide)) (xk_d rfl xk_n)))))) rfl ?_
  refine xe_goto (off := -77) (nx := 188) (by decide +kernel) (by decide) ?_
  refine xW_lv rfl (l := [(0, xR_ (x0)), (1, xR_ (x1)), (2, xI (x2)), (3, xI (x3)), (4, xI (y0)), (5, xI (xwr ((x5) + (1))))]) (xsb_of ⟨rfl, rfl, rfl, rfl, rfl, rfl, trivial⟩ (show [5, 4, 0, 1, 2, 3].Nodup by decide)) ?_
  exact hr188 hx2 hx3 hy0 (xin_wr _) h
def f354_255  (r138 : Nat → Nat → Int → Int → xj_M → Option (xj_M)) (r188 : Nat → Nat → Int → Int → Int → Int → xj_M → Option (xj_M)) (f : Nat) (x0 : Nat) (x1 : Nat) (x2 : Int) (x3 : Int) (x5 : Int) (M : xj_M) : Option (xj_M) := f354_260  r138 r188 f (x0) (x1) (x2) (x3) (x5) (1) M
theorem k354_255 {d f : Nat}  {r138 : Nat → Nat → Int → Int → xj_M → Option (xj_M)} {r188 : Nat → Nat → Int → Int → Int → Int → xj_M → Option (xj_M)}  (hr138 : ∀ {x0 : Nat} {x1 : Nat} {x2 : Int} {x3 : Int} {M : xj_M} {R : xj_M}, xin x2 → xin x3 → r138 x0 x1 x2 x3 M = some R → xW (d + 258) (none, d + 258, none) xr_354 (138, [(0, xR_ x0), (1, xR_ x1), (2, xI x2), (3, xI x3)], [], M) (xQv R)) (hr188 : ∀ {x0 : Nat} {x1 : Nat} {x2 : Int} {x3 : Int} {x4 : Int} {x5 : Int} {M : xj_M} {R : xj_M}, xin x2 → xin x3 → xin x4 → xin x5 → r188 x0 x1 x2 x3 x4 x5 M = some R → xW (d + 258) (none, d + 258, none) xr_354 (188, [(0, xR_ x0), (1, xR_ x1), (2, xI x2), (3, xI x3), (4, xI x4), (5, xI x5)], [], M) (xQv R)) {x0 : Nat} {x1 : Nat} {x2 : Int} {x3 : Int} {x5 : Int} {M : xj_M} {R : xj_M} (hx2 : xin x2) (hx3 : xin x3) (hx5 : xin x5) (h : f354_255  r138 r188 f x0 x1 x2 x3 x5 M = some R) : xW (d + 258) (none, d + 258, none) xr_354 (255, [(0, xR_ x0), (1, xR_ x1), (2, xI x2), (3, xI x3), (5, xI x5)], [], M) (xQv R) := by
  unfold f354_255 at h
  refine xe_iconst (n := 1) (by decide +kernel) rfl ?_
  refine xe_goto (off := 4) (nx := 260) (by decide +kernel) (by decide) ?_
  refine xW_lv rfl (l := [(0, xR_ (x0)), (1, xR_ (x1)), (2, xI (x2)), (3, xI (x3)), (5, xI (x5))]) (xsb_of ⟨rfl, rfl, rfl, rfl, rfl, trivial⟩ (show [0, 1, 2, 3, 5].Nodup by decide)) ?_
  exact k354_260  hr138 hr188 hx2 hx3 hx5 (show xin (1) by decide) h
def f354_259  (r138 : Nat → Nat → Int → Int → xj_M → Option (xj_M)) (r188 : Nat → Nat → Int → Int → Int → Int → xj_M → Option (xj_M)) (f : Nat) (x0 : Nat) (x1 : Nat) (x2 : Int) (x3 : Int) (x5 : Int) (M : xj_M) : Option (xj_M) := f354_260  r138 r188 f (x0) (x1) (x2) (x3) (x5) (0) M
theorem k354_259 {d f : Nat}  {r138 : Nat → Nat → Int → Int → xj_M → Option (xj_M)} {r188 : Nat → Nat → Int → Int → Int → Int → xj_M → Option (xj_M)}  (hr138 : ∀ {x0 : Nat} {x1 : Nat} {x2 : Int} {x3 : Int} {M : xj_M} {R : xj_M}, xin x2 → xin x3 → r138 x0 x1 x2 x3 M = some R → xW (d + 258) (none, d + 258, none) xr_354 (138, [(0, xR_ x0), (1, xR_ x1), (2, xI x2), (3, xI x3)], [], M) (xQv R)) (hr188 : ∀ {x0 : Nat} {x1 : Nat} {x2 : Int} {x3 : Int} {x4 : Int} {x5 : Int} {M : xj_M} {R : xj_M}, xin x2 → xin x3 → xin x4 → xin x5 → r188 x0 x1 x2 x3 x4 x5 M = some R → xW (d + 258) (none, d + 258, none) xr_354 (188, [(0, xR_ x0), (1, xR_ x1), (2, xI x2), (3, xI x3), (4, xI x4), (5, xI x5)], [], M) (xQv R)) {x0 : Nat} {x1 : Nat} {x2 : Int} {x3 : Int} {x5 : Int} {M : xj_M} {R : xj_M} (hx2 : xin x2) (hx3 : xin x3) (hx5 : xin x5) (h : f354_259  r138 r188 f x0 x1 x2 x3 x5 M = some R) : xW (d + 258) (none, d + 258, none) xr_354 (259, [(0, xR_ x0), (1, xR_ x1), (2, xI x2), (3, xI x3), (5, xI x5)], [], M) (xQv R) := by
  unfold f354_259 at h
  refine xe_iconst (n := 0) (by decide +kernel) rfl ?_
  refine xW_lv rfl (l := [(0, xR_ (x0)), (1, xR_ (x1)), (2, xI (x2)), (3, xI (x3)), (5, xI (x5))]) (xsb_of ⟨rfl, rfl, rfl, rfl, rfl, trivial⟩ (show [0, 1, 2, 3, 5].Nodup by decide)) ?_
  exact k354_260  hr138 hr188 hx2 hx3 hx5 (show xin (0) by decide) h
def f354_319  (r138 : Nat → Nat → Int → Int → xj_M → Option (xj_M)) (r271 : Nat → Nat → Int → Int → Int → Int → xj_M → Option (xj_M)) (f : Nat) (x0 : Nat) (x1 : Nat) (x2 : Int) (x3 : Int) (x5 : Int) (y0 : Int) (M : xj_M) : Option (xj_M) := r271 (x0) (x1) (x2) (x3) (y0) (xwr ((x5) + (1))) M
theorem k354_319 {d f : Nat}  {r138 : Nat → Nat → Int → Int → xj_M → Option (xj_M)} {r271 : Nat → Nat → Int → Int → Int → Int → xj_M → Option (xj_M)}  (hr138 : ∀ {x0 : Nat} {x1 : Nat} {x2 : Int} {x3 : Int} {M : xj_M} {R : xj_M}, xin x2 → xin x3 → r138 x0 x1 x2 x3 M = some R → xW (d + 258) (none, d + 258, none) xr_354 (138, [(0, xR_ x0), (1, xR_ x1), (2, xI x2), (3, xI x3)], [], M) (xQv R)) (hr271 : ∀ {x0 : Nat} {x1 : Nat} {x2 : Int} {x3 : Int} {x4 : Int} {x5 : Int} {M : xj_M} {R : xj_M}, xin x2 → xin x3 → xin x4 → xin x5 → r271 x0 x1 x2 x3 x4 x5 M = some R → xW (d + 258) (none, d + 258, none) xr_354 (271, [(0, xR_ x0), (1, xR_ x1), (2, xI x2), (3, xI x3), (4, xI x4), (5, xI x5)], [], M) (xQv R)) {x0 : Nat} {x1 : Nat} {x2 : Int} {x3 : Int} {x5 : Int} {y0 : Int} {M : xj_M} {R : xj_M} (hx2 : xin x2) (hx3 : xin x3) (hx5 : xin x5) (hy0 : xin y0) (h : f354_319  r138 r271 f x0 x1 x2 x3 x5 y0 M = some R) : xW (d + 258) (none, d + 258, none) xr_354 (319, [(0, xR_ x0), (1, xR_ x1), (2, xI x2), (3, xI x3), (5, xI x5)], [xI y0], M) (xQv R) := by
  unfold f354_319 at h
  refine xe_isr (ins := .istore 4) (len := 2) (i := 4) (by decide +kernel) rfl rfl rfl (by decide) (xk_k (show ¬ (0 : Nat) = 4 by decide) (Or.inl (show ¬ (0 + 1 : Nat) = 4 by decide)) (xk_k (show ¬ (1 : Nat) = 4 by decide) (Or.inl (show ¬ (1 + 1 : Nat) = 4 by decide)) (xk_k (show ¬ (2 : Nat) = 4 by decide) (Or.inl (show ¬ (2 + 1 : Nat) = 4 by decide)) (xk_k (show ¬ (3 : Nat) = 4 by decide) (Or.inr (xI_cat _)) (xk_k (show ¬ (5 : Nat) = 4 by decide) (Or.inl (show ¬ (5 + 1 : Nat) = 4 by decide)) xk_n))))) rfl ?_
  refine xe_iincr (i := 5) (n := 1) (by decide +kernel) (by decide) rfl (xk_k (show ¬ (4 : Nat) = 5 by decide) (Or.inr (xI_cat _)) (xk_k (show ¬ (0 : Nat) = 5 by decide) (Or.inl (show ¬ (0 + 1 : Nat) = 5 by decide)) (xk_k (show ¬ (1 : Nat) = 5 by decide) (Or.inl (show ¬ (1 + 1 : Nat) = 5 by decide)) (xk_k (show ¬ (2 : Nat) = 5 by decide) (Or.inl (show ¬ (2 + 1 : Nat) = 5 by decide)) (xk_k (show ¬ (3 : Nat) = 5 by decide) (Or.inl (show ¬ (3 + 1 : Nat) = 5 by decide)) (xk_d rfl xk_n)))))) rfl ?_
  refine xe_goto (off := -53) (nx := 271) (by decide +kernel) (by decide) ?_
  refine xW_lv rfl (l := [(0, xR_ (x0)), (1, xR_ (x1)), (2, xI (x2)), (3, xI (x3)), (4, xI (y0)), (5, xI (xwr ((x5) + (1))))]) (xsb_of ⟨rfl, rfl, rfl, rfl, rfl, rfl, trivial⟩ (show [5, 4, 0, 1, 2, 3].Nodup by decide)) ?_
  exact hr271 hx2 hx3 hy0 (xin_wr _) h
def f354_314  (r138 : Nat → Nat → Int → Int → xj_M → Option (xj_M)) (r271 : Nat → Nat → Int → Int → Int → Int → xj_M → Option (xj_M)) (f : Nat) (x0 : Nat) (x1 : Nat) (x2 : Int) (x3 : Int) (x5 : Int) (M : xj_M) : Option (xj_M) := f354_319  r138 r271 f (x0) (x1) (x2) (x3) (x5) (1) M
theorem k354_314 {d f : Nat}  {r138 : Nat → Nat → Int → Int → xj_M → Option (xj_M)} {r271 : Nat → Nat → Int → Int → Int → Int → xj_M → Option (xj_M)}  (hr138 : ∀ {x0 : Nat} {x1 : Nat} {x2 : Int} {x3 : Int} {M : xj_M} {R : xj_M}, xin x2 → xin x3 → r138 x0 x1 x2 x3 M = some R → xW (d + 258) (none, d + 258, none) xr_354 (138, [(0, xR_ x0), (1, xR_ x1), (2, xI x2), (3, xI x3)], [], M) (xQv R)) (hr271 : ∀ {x0 : Nat} {x1 : Nat} {x2 : Int} {x3 : Int} {x4 : Int} {x5 : Int} {M : xj_M} {R : xj_M}, xin x2 → xin x3 → xin x4 → xin x5 → r271 x0 x1 x2 x3 x4 x5 M = some R → xW (d + 258) (none, d + 258, none) xr_354 (271, [(0, xR_ x0), (1, xR_ x1), (2, xI x2), (3, xI x3), (4, xI x4), (5, xI x5)], [], M) (xQv R)) {x0 : Nat} {x1 : Nat} {x2 : Int} {x3 : Int} {x5 : Int} {M : xj_M} {R : xj_M} (hx2 : xin x2) (hx3 : xin x3) (hx5 : xin x5) (h : f354_314  r138 r271 f x0 x1 x2 x3 x5 M = some R) : xW (d + 258) (none, d + 258, none) xr_354 (314, [(0, xR_ x0), (1, xR_ x1), (2, xI x2), (3, xI x3), (5, xI x5)], [], M) (xQv R) := by
  unfold f354_314 at h
  refine xe_iconst (n := 1) (by decide +kernel) rfl ?_
  refine xe_goto (off := 4) (nx := 319) (by decide +kernel) (by decide) ?_
  refine xW_lv rfl (l := [(0, xR_ (x0)), (1, xR_ (x1)), (2, xI (x2)), (3, xI (x3)), (5, xI (x5))]) (xsb_of ⟨rfl, rfl, rfl, rfl, rfl, trivial⟩ (show [0, 1, 2, 3, 5].Nodup by decide)) ?_
  exact k354_319  hr138 hr271 hx2 hx3 hx5 (show xin (1) by decide) h
def f354_318  (r138 : Nat → Nat → Int → Int → xj_M → Option (xj_M)) (r271 : Nat → Nat → Int → Int → Int → Int → xj_M → Option (xj_M)) (f : Nat) (x0 : Nat) (x1 : Nat) (x2 : Int) (x3 : Int) (x5 : Int) (M : xj_M) : Option (xj_M) := f354_319  r138 r271 f (x0) (x1) (x2) (x3) (x5) (0) M
theorem k354_318 {d f : Nat}  {r138 : Nat → Nat → Int → Int → xj_M → Option (xj_M)} {r271 : Nat → Nat → Int → Int → Int → Int → xj_M → Option (xj_M)}  (hr138 : ∀ {x0 : Nat} {x1 : Nat} {x2 : Int} {x3 : Int} {M : xj_M} {R : xj_M}, xin x2 → xin x3 → r138 x0 x1 x2 x3 M = some R → xW (d + 258) (none, d + 258, none) xr_354 (138, [(0, xR_ x0), (1, xR_ x1), (2, xI x2), (3, xI x3)], [], M) (xQv R)) (hr271 : ∀ {x0 : Nat} {x1 : Nat} {x2 : Int} {x3 : Int} {x4 : Int} {x5 : Int} {M : xj_M} {R : xj_M}, xin x2 → xin x3 → xin x4 → xin x5 → r271 x0 x1 x2 x3 x4 x5 M = some R → xW (d + 258) (none, d + 258, none) xr_354 (271, [(0, xR_ x0), (1, xR_ x1), (2, xI x2), (3, xI x3), (4, xI x4), (5, xI x5)], [], M) (xQv R)) {x0 : Nat} {x1 : Nat} {x2 : Int} {x3 : Int} {x5 : Int} {M : xj_M} {R : xj_M} (hx2 : xin x2) (hx3 : xin x3) (hx5 : xin x5) (h : f354_318  r138 r271 f x0 x1 x2 x3 x5 M = some R) : xW (d + 258) (none, d + 258, none) xr_354 (318, [(0, xR_ x0), (1, xR_ x1), (2, xI x2), (3, xI x3), (5, xI x5)], [], M) (xQv R) := by
  unfold f354_318 at h
  refine xe_iconst (n := 0) (by decide +kernel) rfl ?_
  refine xW_lv rfl (l := [(0, xR_ (x0)), (1, xR_ (x1)), (2, xI (x2)), (3, xI (x3)), (5, xI (x5))]) (xsb_of ⟨rfl, rfl, rfl, rfl, rfl, trivial⟩ (show [0, 1, 2, 3, 5].Nodup by decide)) ?_
  exact k354_319  hr138 hr271 hx2 hx3 hx5 (show xin (0) by decide) h
def f354_344  (r138 : Nat → Nat → Int → Int → xj_M → Option (xj_M)) (f : Nat) (x0 : Nat) (x1 : Nat) (x2 : Int) (x3 : Int) (y0 : Int) (y1 : Int) (y2 : Int) (y3 : Nat) (M : xj_M) : Option (xj_M) := ((xq_si (y3) (y2) (xwr ((y1) + (y0))) M).bind fun M144 => f354_346  r138 f (x0) (x1) (x2) (x3) M144)
theorem k354_344 {d f : Nat}  {r138 : Nat → Nat → Int → Int → xj_M → Option (xj_M)}  (hr138 : ∀ {x0 : Nat} {x1 : Nat} {x2 : Int} {x3 : Int} {M : xj_M} {R : xj_M}, xin x2 → xin x3 → r138 x0 x1 x2 x3 M = some R → xW (d + 258) (none, d + 258, none) xr_354 (138, [(0, xR_ x0), (1, xR_ x1), (2, xI x2), (3, xI x3)], [], M) (xQv R)) {x0 : Nat} {x1 : Nat} {x2 : Int} {x3 : Int} {y0 : Int} {y1 : Int} {y2 : Int} {y3 : Nat} {M : xj_M} {R : xj_M} (hx2 : xin x2) (hx3 : xin x3) (hy0 : xin y0) (hy1 : xin y1) (hy2 : xin y2) (h : f354_344  r138 f x0 x1 x2 x3 y0 y1 y2 y3 M = some R) : xW (d + 258) (none, d + 258, none) xr_354 (344, [(0, xR_ x0), (1, xR_ x1), (2, xI x2), (3, xI x3)], [xI y0, xI y1, xI y2, xR_ y3], M) (xQv R) := by
  unfold f354_344 at h
  refine xe_iadd (by decide +kernel) rfl ?_
  obtain ⟨M144, e145, h⟩ := xbnd h
  refine xs_iast (by decide +kernel) hy2 e145 rfl ?_
  refine xW_lv rfl (l := [(0, xR_ (x0)), (1, xR_ (x1)), (2, xI (x2)), (3, xI (x3))]) (xsb_of ⟨rfl, rfl, rfl, rfl, trivial⟩ (show [0, 1, 2, 3].Nodup by decide)) ?_
  exact k354_346  hr138 hx2 hx3 h
def f354_271b  (r138 : Nat → Nat → Int → Int → xj_M → Option (xj_M)) (r271 : Nat → Nat → Int → Int → Int → Int → xj_M → Option (xj_M)) (f : Nat) (x0 : Nat) (x1 : Nat) (x2 : Int) (x3 : Int) (x4 : Int) (x5 : Int) (M : xj_M) : Option (xj_M) := ((xq_gr 15 29 (x0) M).bind fun v146 => ((xq_gi 14 8 (v146) M).bind fun v148 => (if (v148) ≤ (x5) then ((xq_gr 13 19 (x1) M).bind fun v151 => ((xq_ai 3 (v151) (x3) M).bind fun v153 => (if (x4) = 0 then f354_344  r138 f (x0) (x1) (x2) (x3) (0) (v153) (x3) (v151) M else f354_344  r138 f (x0) (x1) (x2) (x3) (1) (v153) (x3) (v151) M))) else (if ¬ (x4) = 0 then f354_314  r138 r271 f (x0) (x1) (x2) (x3) (x5) M else ((xq_gr 15 94 (x0) M).bind fun v157 => ((xq_ai 3 (v157) (x3) M).bind fun v159 => (if ¬ (xand (xshr (v159) (x5)) (1)) = (1) then f354_318  r138 r271 f (x0) (x1) (x2) (x3) (x5) M else ((xq_gr 13 22 (x1) M).bind fun v162 => ((xq_ai 3 (v162) (x5) M).bind fun v164 => (if ¬ (v164) = (1) then f354_318  r138 r271 f (x0) (x1) (x2) (x3) (x5) M else f354_314  r138 r271 f (x0) (x1) (x2) (x3) (x5) M))))))))))
theorem k354_271b {d f : Nat}  {r138 : Nat → Nat → Int → Int → xj_M → Option (xj_M)} {r271 : Nat → Nat → Int → Int → Int → Int → xj_M → Option (xj_M)}  (hr138 : ∀ {x0 : Nat} {x1 : Nat} {x2 : Int} {x3 : Int} {M : xj_M} {R : xj_M}, xin x2 → xin x3 → r138 x0 x1 x2 x3 M = some R → xW (d + 258) (none, d + 258, none) xr_354 (138, [(0, xR_ x0), (1, xR_ x1), (2, xI x2), (3, xI x3)], [], M) (xQv R)) (hr271 : ∀ {x0 : Nat} {x1 : Nat} {x2 : Int} {x3 : Int} {x4 : Int} {x5 : Int} {M : xj_M} {R : xj_M}, xin x2 → xin x3 → xin x4 → xin x5 → r271 x0 x1 x2 x3 x4 x5 M = some R → xW (d + 258) (none, d + 258, none) xr_354 (271, [(0, xR_ x0), (1, xR_ x1), (2, xI x2), (3, xI x3), (4, xI x4), (5, xI x5)], [], M) (xQv R)) {x0 : Nat} {x1 : Nat} {x2 : Int} {x3 : Int} {x4 : Int} {x5 : Int} {M : xj_M} {R : xj_M} (hx2 : xin x2) (hx3 : xin x3) (hx4 : xin x4) (hx5 : xin x5) (h : f354_271b  r138 r271 f x0 x1 x2 x3 x4 x5 M = some R) : xW (d + 258) (none, d + 258, none) xr_354 (271, [(0, xR_ x0), (1, xR_ x1), (2, xI x2), (3, xI x3), (4, xI x4), (5, xI x5)], [], M) (xQv R) := by
  unfold f354_271b at h
  refine xe_ldn (ins := .iload 5) (len := 2) (by decide +kernel) rfl rfl rfl rfl ?_
  refine xe_alr (ins := .aload_n 0) (len := 1) (i := 0) (by decide +kernel) rfl rfl rfl rfl rfl ?_
  obtain ⟨v146, e147, h⟩ := xbnd h
  refine xs_gr (i := 439) (c := 15) (k := 29) (by decide +kernel) (by decide) (by decide +kernel) e147 rfl ?_
  obtain ⟨v148, e149, h⟩ := xbnd h
  refine xs_gi (i := 166) (c := 14) (k := 8) (by decide +kernel) (by decide) (by decide +kernel) e149 rfl ?_
  refine xe_icmpge (off := 47) (t := 327) (by decide +kernel) (by decide) rfl hx5 (xq_gi_in e149) (fun c150 => ?_) (fun c150 => ?_)
  · rw [if_pos c150] at h
    refine xe_alr (ins := .aload_n 1) (len := 1) (i := 1) (by decide +kernel) rfl rfl rfl rfl rfl ?_
    obtain ⟨v151, e152, h⟩ := xbnd h
    refine xs_gr (i := 894) (c := 13) (k := 19) (by decide +kernel) (by decide) (by decide +kernel) e152 rfl ?_
    refine xe_ldn (ins := .iload_n 3) (len := 1) (by decide +kernel) rfl rfl rfl rfl ?_
    refine xe_dup2r (xI_cat _) (xR_cat _) (by decide +kernel) rfl ?_
    obtain ⟨v153, e154, h⟩ := xbnd h
    refine xs_iald rfl (by decide +kernel) hx3 e154 rfl ?_
    refine xe_ldn (ins := .iload 4) (len := 2) (by decide +kernel) rfl rfl rfl rfl ?_
    refine xe_ifeq (off := 7) (t := 343) (by decide +kernel) (by decide) rfl hx4 (fun c155 => ?_) (fun c155 => ?_)
    · rw [if_pos c155] at h
      refine xe_iconst (n := 0) (by decide +kernel) rfl ?_
      refine xW_lv rfl (l := [(0, xR_ (x0)), (1, xR_ (x1)), (2, xI (x2)), (3, xI (x3))]) (xsb_of ⟨rfl, rfl, rfl, rfl, trivial⟩ (show [0, 1, 2, 3, 4, 5].Nodup by decide)) ?_
      exact k354_344  hr138 hx2 hx3 (show xin (0) by decide) (xq_ai_in e154) hx3 h
    · rw [if_neg c155] at h
      refine xe_iconst (n := 1) (by decide +kernel) rfl ?_
      refine xe_goto (off := 4) (nx := 344) (by decide +kernel) (by decide) ?_
      refine xW_lv rfl (l := [(0, xR_ (x0)), (1, xR_ (x1)), (2, xI (x2)), (3, xI (x3))]) (xsb_of ⟨rfl, rfl, rfl, rfl, trivial⟩ (show [0, 1, 2, 3, 4, 5].Nodup by decide)) ?_
      exact k354_344  hr138 hx2 hx3 (show xin (1) by decide) (xq_ai_in e154) hx3 h
  · rw [if_neg c150] at h
    refine xe_ldn (ins := .iload 4) (len := 2) (by decide +kernel) rfl rfl rfl rfl ?_
    refine xe_ifne (off := 29) (t := 314) (by decide +kernel) (by decide) rfl hx4 (fun c156 => ?_) (fun c156 => ?_)
    · rw [if_pos c156] at h
      refine xW_lv rfl (l := [(0, xR_ (x0)), (1, xR_ (x1)), (2, xI (x2)), (3, xI (x3)), (5, xI (x5))]) (xsb_of ⟨rfl, rfl, rfl, rfl, rfl, trivial⟩ (show [0, 1, 2, 3, 4, 5].Nodup by decide)) ?_
      exact k354_314  hr138 hr271 hx2 hx3 hx5 h
    · rw [if_neg c156] at h
      refine xe_alr (ins := .aload_n 0) (len := 1) (i := 0) (by decide +kernel) rfl rfl rfl rfl rfl ?_
      obtain ⟨v157, e158, h⟩ := xbnd h
      refine xs_gr (i := 1005) (c := 15) (k := 94) (by decide +kernel) (by decide) (by decide +kernel) e158 rfl ?_
      refine xe_ldn (ins := .iload_n 3) (len := 1) (by decide +kernel) rfl rfl rfl rfl ?_
      obtain ⟨v159, e160, h⟩ := xbnd h
      refine xs_iald rfl (by decide +kernel) hx3 e160 rfl ?_
      refine xe_ldn (ins := .iload 5) (len := 2) (by decide +kernel) rfl rfl rfl rfl ?_
      refine xe_ishr (by decide +kernel) rfl ?_
      refine xe_iconst (n := 1) (by decide +kernel) rfl ?_
      refine xe_iand (by decide +kernel) rfl ?_
      refine xe_iconst (n := 1) (by decide +kernel) rfl ?_
      refine xe_icmpne (off := 18) (t := 318) (by decide +kernel) (by decide) rfl (xin_of _) (show xin (1) by decide) (fun c161 => ?_) (fun c161 => ?_)
      · rw [if_pos c161] at h
        refine xW_lv rfl (l := [(0, xR_ (x0)), (1, xR_ (x1)), (2, xI (x2)), (3, xI (x3)), (5, xI (x5))]) (xsb_of ⟨rfl, rfl, rfl, rfl, rfl, trivial⟩ (show [0, 1, 2, 3, 4, 5].Nodup by decide)) ?_
        exact k354_318  hr138 hr271 hx2 hx3 hx5 h
      · rw [if_neg c161] at h
        refine xe_alr (ins := .aload_n 1) (len := 1) (i := 1) (by decide +kernel) rfl rfl rfl rfl rfl ?_
        obtain ⟨v162, e163, h⟩ := xbnd h
        refine xs_gr (i := 806) (c := 13) (k := 22) (by decide +kernel) (by decide) (by decide +kernel) e163 rfl ?_
        refine xe_ldn (ins := .iload 5) (len := 2) (by decide +kernel) rfl rfl rfl rfl ?_
        obtain ⟨v164, e165, h⟩ := xbnd h
        refine xs_iald rfl (by decide +kernel) hx5 e165 rfl ?_
        refine xe_iconst (n := 1) (by decide +kernel) rfl ?_
        refine xe_icmpne (off := 7) (t := 318) (by decide +kernel) (by decide) rfl (xq_ai_in e165) (show xin (1) by decide) (fun c166 => ?_) (fun c166 => ?_)
        · rw [if_pos c166] at h
          refine xW_lv rfl (l := [(0, xR_ (x0)), (1, xR_ (x1)), (2, xI (x2)), (3, xI (x3)), (5, xI (x5))]) (xsb_of ⟨rfl, rfl, rfl, rfl, rfl, trivial⟩ (show [0, 1, 2, 3, 4, 5].Nodup by decide)) ?_
          exact k354_318  hr138 hr271 hx2 hx3 hx5 h
        · rw [if_neg c166] at h
          refine xW_lv rfl (l := [(0, xR_ (x0)), (1, xR_ (x1)), (2, xI (x2)), (3, xI (x3)), (5, xI (x5))]) (xsb_of ⟨rfl, rfl, rfl, rfl, rfl, trivial⟩ (show [0, 1, 2, 3, 4, 5].Nodup by decide)) ?_
          exact k354_314  hr138 hr271 hx2 hx3 hx5 h
def f354_271  (r138 : Nat → Nat → Int → Int → xj_M → Option (xj_M)) (f : Nat) : Nat → Nat → Nat → Int → Int → Int → Int → xj_M → Option (xj_M)
  | 0, _, _, _, _, _, _, _ => none
  | n + 1, x0, x1, x2, x3, x4, x5, M => f354_271b  r138 (f354_271  r138 f n) f x0 x1 x2 x3 x4 x5 M
theorem k354_271 {d f : Nat}  {r138 : Nat → Nat → Int → Int → xj_M → Option (xj_M)}  (hr138 : ∀ {x0 : Nat} {x1 : Nat} {x2 : Int} {x3 : Int} {M : xj_M} {R : xj_M}, xin x2 → xin x3 → r138 x0 x1 x2 x3 M = some R → xW (d + 258) (none, d + 258, none) xr_354 (138, [(0, xR_ x0), (1, xR_ x1), (2, xI x2), (3, xI x3)], [], M) (xQv R)) : ∀ {n : Nat} {x0 : Nat} {x1 : Nat} {x2 : Int} {x3 : Int} {x4 : Int} {x5 : Int} {M : xj_M} {R : xj_M}, xin x2 → xin x3 → xin x4 → xin x5 → f354_271  r138 f n x0 x1 x2 x3 x4 x5 M = some R → xW (d + 258) (none, d + 258, none) xr_354 (271, [(0, xR_ x0), (1, xR_ x1), (2, xI x2), (3, xI x3), (4, xI x4), (5, xI x5)], [], M) (xQv R) := by
  intro n
  induction n with
  | zero => intros; rename_i h; cases h
  | succ n ih => intros; rename_i h; exact k354_271b  hr138 ih (by assumption) (by assumption) (by assumption) (by assumption) h
def f354_188b  (r138 : Nat → Nat → Int → Int → xj_M → Option (xj_M)) (r188 : Nat → Nat → Int → Int → Int → Int → xj_M → Option (xj_M)) (f : Nat) (x0 : Nat) (x1 : Nat) (x2 : Int) (x3 : Int) (x4 : Int) (x5 : Int) (M : xj_M) : Option (xj_M) := (if (72) ≤ (x5) then f354_271  r138 f f (x0) (x1) (x2) (x3) (x4) (0) M else (if ¬ (x4) = 0 then f354_255  r138 r188 f (x0) (x1) (x2) (x3) (x5) M else ((xq_gr 15 92 (x0) M).bind fun v169 => ((xq_al (v169) (x3) M).bind fun v171 => ((xq_gr 15 93 (x0) M).bind fun v173 => ((xq_al (v173) (x3) M).bind fun v175 => ((f343  f (v171) (v175) (x5) M).bind fun R178 => (if (R178.1) = 0 then f354_259  r138 r188 f (x0) (x1) (x2) (x3) (x5) R178.2 else ((xq_gr 13 20 (x1) R178.2).bind fun v181 => ((xq_ai 3 (v181) (x5) R178.2).bind fun v183 => ((xq_gr 15 78 (x0) R178.2).bind fun v185 => ((xq_ai 3 (v185) (x5) R178.2).bind fun v187 => (if ¬ (v183) = (v187) then f354_255  r138 r188 f (x0) (x1) (x2) (x3) (x5) R178.2 else ((xq_gr 13 23 (x1) R178.2).bind fun v190 => ((xq_al (v190) (x5) R178.2).bind fun v192 => ((xq_gr 15 79 (x0) R178.2).bind fun v194 => ((xq_al (v194) (x5) R178.2).bind fun v196 => (if (v192) = (v196) then f354_259  r138 r188 f (x0) (x1) (x2) (x3) (x5) R178.2 else f354_255  r138 r188 f (x0) (x1) (x2) (x3) (x5) R178.2))))))))))))))))))
theorem k354_188b {d f : Nat}  {r138 : Nat → Nat → Int → Int → xj_M → Option (xj_M)} {r188 : Nat → Nat → Int → Int → Int → Int → xj_M → Option (xj_M)}  (hr138 : ∀ {x0 : Nat} {x1 : Nat} {x2 : Int} {x3 : Int} {M : xj_M} {R : xj_M}, xin x2 → xin x3 → r138 x0 x1 x2 x3 M = some R → xW (d + 258) (none, d + 258, none) xr_354 (138, [(0, xR_ x0), (1, xR_ x1), (2, xI x2), (3, xI x3)], [], M) (xQv R)) (hr188 : ∀ {x0 : Nat} {x1 : Nat} {x2 : Int} {x3 : Int} {x4 : Int} {x5 : Int} {M : xj_M} {R : xj_M}, xin x2 → xin x3 → xin x4 → xin x5 → r188 x0 x1 x2 x3 x4 x5 M = some R → xW (d + 258) (none, d + 258, none) xr_354 (188, [(0, xR_ x0), (1, xR_ x1), (2, xI x2), (3, xI x3), (4, xI x4), (5, xI x5)], [], M) (xQv R)) {x0 : Nat} {x1 : Nat} {x2 : Int} {x3 : Int} {x4 : Int} {x5 : Int} {M : xj_M} {R : xj_M} (hx2 : xin x2) (hx3 : xin x3) (hx4 : xin x4) (hx5 : xin x5) (h : f354_188b  r138 r188 f x0 x1 x2 x3 x4 x5 M = some R) : xW (d + 258) (none, d + 258, none) xr_354 (188, [(0, xR_ x0), (1, xR_ x1), (2, xI x2), (3, xI x3), (4, xI x4), (5, xI x5)], [], M) (xQv R) := by
  unfold f354_188b at h
  refine xe_ldn (ins := .iload 5) (len := 2) (by decide +kernel) rfl rfl rfl rfl ?_
  refine xe_bipush (n := 72) (by decide +kernel) (by decide) rfl ?_
  refine xe_icmpge (off := 76) (t := 268) (by decide +kernel) (by decide) rfl hx5 (show xin (72) by decide) (fun c167 => ?_) (fun c167 => ?_)
  · rw [if_pos c167] at h
    refine xe_iconst (n := 0) (by decide +kernel) rfl ?_
    refine xe_isr (ins := .istore 5) (len := 2) (i := 5) (by decide +kernel) rfl rfl rfl (by decide) (xk_k (show ¬ (0 : Nat) = 5 by decide) (Or.inl (show ¬ (0 + 1 : Nat) = 5 by decide)) (xk_k (show ¬ (1 : Nat) = 5 by decide) (Or.inl (show ¬ (1 + 1 : Nat) = 5 by decide)) (xk_k (show ¬ (2 : Nat) = 5 by decide) (Or.inl (show ¬ (2 + 1 : Nat) = 5 by decide)) (xk_k (show ¬ (3 : Nat) = 5 by decide) (Or.inl (show ¬ (3 + 1 : Nat) = 5 by decide)) (xk_k (show ¬ (4 : Nat) = 5 by decide) (Or.inr (xI_cat _)) (xk_d rfl xk_n)))))) rfl ?_
    refine xW_lv rfl (l := [(0, xR_ (x0)), (1, xR_ (x1)), (2, xI (x2)), (3, xI (x3)), (4, xI (x4)), (5, xI (0))]) (xsb_of ⟨rfl, rfl, rfl, rfl, rfl, rfl, trivial⟩ (show [5, 0, 1, 2, 3, 4].Nodup by decide)) ?_
    exact k354_271  hr138 hx2 hx3 hx4 (show xin (0) by decide) h
  · rw [if_neg c167] at h
    refine xe_ldn (ins := .iload 4) (len := 2) (by decide +kernel) rfl rfl rfl rfl ?_
    refine xe_ifne (off := 58) (t := 255) (by decide +kernel) (by decide) rfl hx4 (fun c168 => ?_) (fun c168 => ?_)
    · rw [if_pos c168] at h
      refine xW_lv rfl (l := [(0, xR_ (x0)), (1, xR_ (x1)), (2, xI (x2)), (3, xI (x3)), (5, xI (x5))]) (xsb_of ⟨rfl, rfl, rfl, rfl, rfl, trivial⟩ (show [0, 1, 2, 3, 4, 5].Nodup by decide)) ?_
      exact k354_255  hr138 hr188 hx2 hx3 hx5 h
    · rw [if_neg c168] at h
      refine xe_alr (ins := .aload_n 0) (len := 1) (i := 0) (by decide +kernel) rfl rfl rfl rfl rfl ?_
      obtain ⟨v169, e170, h⟩ := xbnd h
      refine xs_gr (i := 999) (c := 15) (k := 92) (by decide +kernel) (by decide) (by decide +kernel) e170 rfl ?_
      refine xe_ldn (ins := .iload_n 3) (len := 1) (by decide +kernel) rfl rfl rfl rfl ?_
      obtain ⟨v171, e172, h⟩ := xbnd h
      refine xs_lald (by decide +kernel) hx3 e172 rfl ?_
      refine xe_alr (ins := .aload_n 0) (len := 1) (i := 0) (by decide +kernel) rfl rfl rfl rfl rfl ?_
      obtain ⟨v173, e174, h⟩ := xbnd h
      refine xs_gr (i := 1002) (c := 15) (k := 93) (by decide +kernel) (by decide) (by decide +kernel) e174 rfl ?_
      refine xe_ldn (ins := .iload_n 3) (len := 1) (by decide +kernel) rfl rfl rfl rfl ?_
      obtain ⟨v175, e176, h⟩ := xbnd h
      refine xs_lald (by decide +kernel) hx3 e176 rfl ?_
      refine xe_ldn (ins := .iload 5) (len := 2) (by decide +kernel) rfl rfl rfl rfl ?_
      obtain ⟨R178, e177, h⟩ := xbnd h
      refine xs_cs (kd := 2) (by decide) (i := 1036) (j := 343) (ar := [xI (x5), xZ (v175), xZ (v171)]) (rest := []) (r2 := xr_343) (by decide +kernel) (by decide +kernel) (by decide +kernel) xr_343_e rfl (by decide) ?_
      refine xc_i (k343 (d := d + 257)  (xq_al_in e172) (xq_al_in e176) hx5 e177) rfl (fun hi179 => ?_)
      refine xe_ifeq (off := 42) (t := 259) (by decide +kernel) (by decide) rfl hi179 (fun c180 => ?_) (fun c180 => ?_)
      · rw [if_pos c180] at h
        refine xW_lv rfl (l := [(0, xR_ (x0)), (1, xR_ (x1)), (2, xI (x2)), (3, xI (x3)), (5, xI (x5))]) (xsb_of ⟨rfl, rfl, rfl, rfl, rfl, trivial⟩ (show [0, 1, 2, 3, 4, 5].Nodup by decide)) ?_
        exact k354_259  hr138 hr188 hx2 hx3 hx5 h
      · rw [if_neg c180] at h
        refine xe_alr (ins := .aload_n 1) (len := 1) (i := 1) (by decide +kernel) rfl rfl rfl rfl rfl ?_
        obtain ⟨v181, e182, h⟩ := xbnd h
        refine xs_gr (i := 1045) (c := 13) (k := 20) (by decide +kernel) (by decide) (by decide +kernel) e182 rfl ?_
        refine xe_ldn (ins := .iload 5) (len := 2) (by decide +kernel) rfl rfl rfl rfl ?_
        obtain ⟨v183, e184, h⟩ := xbnd h
        refine xs_iald rfl (by decide +kernel) hx5 e184 rfl ?_
        refine xe_alr (ins := .aload_n 0) (len := 1) (i := 0) (by decide +kernel) rfl rfl rfl rfl rfl ?_
        obtain ⟨v185, e186, h⟩ := xbnd h
        refine xs_gr (i := 1068) (c := 15) (k := 78) (by decide +kernel) (by decide) (by decide +kernel) e186 rfl ?_
        refine xe_ldn (ins := .iload 5) (len := 2) (by decide +kernel) rfl rfl rfl rfl ?_
        obtain ⟨v187, e188, h⟩ := xbnd h
        refine xs_iald rfl (by decide +kernel) hx5 e188 rfl ?_
        refine xe_icmpne (off := 21) (t := 255) (by decide +kernel) (by decide) rfl (xq_ai_in e184) (xq_ai_in e188) (fun c189 => ?_) (fun c189 => ?_)
        · rw [if_pos c189] at h
          refine xW_lv rfl (l := [(0, xR_ (x0)), (1, xR_ (x1)), (2, xI (x2)), (3, xI (x3)), (5, xI (x5))]) (xsb_of ⟨rfl, rfl, rfl, rfl, rfl, trivial⟩ (show [0, 1, 2, 3, 4, 5].Nodup by decide)) ?_
          exact k354_255  hr138 hr188 hx2 hx3 hx5 h
        · rw [if_neg c189] at h
          refine xe_alr (ins := .aload_n 1) (len := 1) (i := 1) (by decide +kernel) rfl rfl rfl rfl rfl ?_
          obtain ⟨v190, e191, h⟩ := xbnd h
          refine xs_gr (i := 1048) (c := 13) (k := 23) (by decide +kernel) (by decide) (by decide +kernel) e191 rfl ?_
          refine xe_ldn (ins := .iload 5) (len := 2) (by decide +kernel) rfl rfl rfl rfl ?_
          obtain ⟨v192, e193, h⟩ := xbnd h
          refine xs_lald (by decide +kernel) hx5 e193 rfl ?_
          refine xe_alr (ins := .aload_n 0) (len := 1) (i := 0) (by decide +kernel) rfl rfl rfl rfl rfl ?_
          obtain ⟨v194, e195, h⟩ := xbnd h
          refine xs_gr (i := 1071) (c := 15) (k := 79) (by decide +kernel) (by decide) (by decide +kernel) e195 rfl ?_
          refine xe_ldn (ins := .iload 5) (len := 2) (by decide +kernel) rfl rfl rfl rfl ?_
          obtain ⟨v196, e197, h⟩ := xbnd h
          refine xs_lald (by decide +kernel) hx5 e197 rfl ?_
          refine xe_lcmp (by decide +kernel) rfl (xq_al_in e193) (xq_al_in e197) ?_
          refine xe_ifeq (off := 7) (t := 259) (by decide +kernel) (by decide) rfl (xin_cmp8 _ _) (fun c198 => ?_) (fun c198 => ?_)
          · have c198 := xcmp8_eq.mp c198; rw [if_pos c198] at h
            refine xW_lv rfl (l := [(0, xR_ (x0)), (1, xR_ (x1)), (2, xI (x2)), (3, xI (x3)), (5, xI (x5))]) (xsb_of ⟨rfl, rfl, rfl, rfl, rfl, trivial⟩ (show [0, 1, 2, 3, 4, 5].Nodup by decide)) ?_
            exact k354_259  hr138 hr188 hx2 hx3 hx5 h
          · have c198 := (not_congr xcmp8_eq).mp c198; rw [if_neg c198] at h
            refine xW_lv rfl (l := [(0, xR_ (x0)), (1, xR_ (x1)), (2, xI (x2)), (3, xI (x3)), (5, xI (x5))]) (xsb_of ⟨rfl, rfl, rfl, rfl, rfl, trivial⟩ (show [0, 1, 2, 3, 4, 5].Nodup by decide)) ?_
            exact k354_255  hr138 hr188 hx2 hx3 hx5 h
def f354_188  (r138 : Nat → Nat → Int → Int → xj_M → Option (xj_M)) (f : Nat) : Nat → Nat → Nat → Int → Int → Int → Int → xj_M → Option (xj_M)
  | 0, _, _, _, _, _, _, _ => none
  | n + 1, x0, x1, x2, x3, x4, x5, M => f354_188b  r138 (f354_188  r138 f n) f x0 x1 x2 x3 x4 x5 M
theorem k354_188 {d f : Nat}  {r138 : Nat → Nat → Int → Int → xj_M → Option (xj_M)}  (hr138 : ∀ {x0 : Nat} {x1 : Nat} {x2 : Int} {x3 : Int} {M : xj_M} {R : xj_M}, xin x2 → xin x3 → r138 x0 x1 x2 x3 M = some R → xW (d + 258) (none, d + 258, none) xr_354 (138, [(0, xR_ x0), (1, xR_ x1), (2, xI x2), (3, xI x3)], [], M) (xQv R)) : ∀ {n : Nat} {x0 : Nat} {x1 : Nat} {x2 : Int} {x3 : Int} {x4 : Int} {x5 : Int} {M : xj_M} {R : xj_M}, xin x2 → xin x3 → xin x4 → xin x5 → f354_188  r138 f n x0 x1 x2 x3 x4 x5 M = some R → xW (d + 258) (none, d + 258, none) xr_354 (188, [(0, xR_ x0), (1, xR_ x1), (2, xI x2), (3, xI x3), (4, xI x4), (5, xI x5)], [], M) (xQv R) := by
  intro n
  induction n with
  | zero => intros; rename_i h; cases h
  | succ n ih => intros; rename_i h; exact k354_188b  hr138 ih (by assumption) (by assumption) (by assumption) (by assumption) h
def f354_183  (r138 : Nat → Nat → Int → Int → xj_M → Option (xj_M)) (f : Nat) (x0 : Nat) (x1 : Nat) (x2 : Int) (x3 : Int) (y0 : Int) (M : xj_M) : Option (xj_M) := f354_188  r138 f f (x0) (x1) (x2) (x3) (y0) (0) M
theorem k354_183 {d f : Nat}  {r138 : Nat → Nat → Int → Int → xj_M → Option (xj_M)}  (hr138 : ∀ {x0 : Nat} {x1 : Nat} {x2 : Int} {x3 : Int} {M : xj_M} {R : xj_M}, xin x2 → xin x3 → r138 x0 x1 x2 x3 M = some R → xW (d + 258) (none, d + 258, none) xr_354 (138, [(0, xR_ x0), (1, xR_ x1), (2, xI x2), (3, xI x3)], [], M) (xQv R)) {x0 : Nat} {x1 : Nat} {x2 : Int} {x3 : Int} {y0 : Int} {M : xj_M} {R : xj_M} (hx2 : xin x2) (hx3 : xin x3) (hy0 : xin y0) (h : f354_183  r138 f x0 x1 x2 x3 y0 M = some R) : xW (d + 258) (none, d + 258, none) xr_354 (183, [(0, xR_ x0), (1, xR_ x1), (2, xI x2), (3, xI x3)], [xI y0], M) (xQv R) := by
  unfold f354_183 at h
  refine xe_isr (ins := .istore 4) (len := 2) (i := 4) (by decide +kernel) rfl rfl rfl (by decide) (xk_k (show ¬ (0 : Nat) = 4 by decide) (Or.inl (show ¬ (0 + 1 : Nat) = 4 by decide)) (xk_k (show ¬ (1 : Nat) = 4 by decide) (Or.inl (show ¬ (1 + 1 : Nat) = 4 by decide)) (xk_k (show ¬ (2 : Nat) = 4 by decide) (Or.inl (show ¬ (2 + 1 : Nat) = 4 by decide)) (xk_k (show ¬ (3 : Nat) = 4 by decide) (Or.inr (xI_cat _)) xk_n)))) rfl ?_
  refine xe_iconst (n := 0) (by decide +kernel) rfl ?_
  refine xe_isr (ins := .istore 5) (len := 2) (i := 5) (by decide +kernel) rfl rfl rfl (by decide) (xk_k (show ¬ (4 : Nat) = 5 by decide) (Or.inr (xI_cat _)) (xk_k (show ¬ (0 : Nat) = 5 by decide) (Or.inl (show ¬ (0 + 1 : Nat) = 5 by decide)) (xk_k (show ¬ (1 : Nat) = 5 by decide) (Or.inl (show ¬ (1 + 1 : Nat) = 5 by decide)) (xk_k (show ¬ (2 : Nat) = 5 by decide) (Or.inl (show ¬ (2 + 1 : Nat) = 5 by decide)) (xk_k (show ¬ (3 : Nat) = 5 by decide) (Or.inl (show ¬ (3 + 1 : Nat) = 5 by decide)) xk_n))))) rfl ?_
  refine xW_lv rfl (l := [(0, xR_ (x0)), (1, xR_ (x1)), (2, xI (x2)), (3, xI (x3)), (4, xI (y0)), (5, xI (0))]) (xsb_of ⟨rfl, rfl, rfl, rfl, rfl, rfl, trivial⟩ (show [5, 4, 0, 1, 2, 3].Nodup by decide)) ?_
  exact k354_188  hr138 hx2 hx3 hy0 (show xin (0) by decide) h
def f354_178  (r138 : Nat → Nat → Int → Int → xj_M → Option (xj_M)) (f : Nat) (x0 : Nat) (x1 : Nat) (x2 : Int) (x3 : Int) (M : xj_M) : Option (xj_M) := f354_183  r138 f (x0) (x1) (x2) (x3) (1) M
theorem k354_178 {d f : Nat}  {r138 : Nat → Nat → Int → Int → xj_M → Option (xj_M)}  (hr138 : ∀ {x0 : Nat} {x1 : Nat} {x2 : Int} {x3 : Int} {M : xj_M} {R : xj_M}, xin x2 → xin x3 → r138 x0 x1 x2 x3 M = some R → xW (d + 258) (none, d + 258, none) xr_354 (138, [(0, xR_ x0), (1, xR_ x1), (2, xI x2), (3, xI x3)], [], M) (xQv R)) {x0 : Nat} {x1 : Nat} {x2 : Int} {x3 : Int} {M : xj_M} {R : xj_M} (hx2 : xin x2) (hx3 : xin x3) (h : f354_178  r138 f x0 x1 x2 x3 M = some R) : xW (d + 258) (none, d + 258, none) xr_354 (178, [(0, xR_ x0), (1, xR_ x1), (2, xI x2), (3, xI x3)], [], M) (xQv R) := by
  unfold f354_178 at h
  refine xe_iconst (n := 1) (by decide +kernel) rfl ?_
  refine xe_goto (off := 4) (nx := 183) (by decide +kernel) (by decide) ?_
  refine xW_lv rfl (l := [(0, xR_ (x0)), (1, xR_ (x1)), (2, xI (x2)), (3, xI (x3))]) (xsb_of ⟨rfl, rfl, rfl, rfl, trivial⟩ (show [0, 1, 2, 3].Nodup by decide)) ?_
  exact k354_183  hr138 hx2 hx3 (show xin (1) by decide) h
def f354_182  (r138 : Nat → Nat → Int → Int → xj_M → Option (xj_M)) (f : Nat) (x0 : Nat) (x1 : Nat) (x2 : Int) (x3 : Int) (M : xj_M) : Option (xj_M) := f354_183  r138 f (x0) (x1) (x2) (x3) (0) M
theorem k354_182 {d f : Nat}  {r138 : Nat → Nat → Int → Int → xj_M → Option (xj_M)}  (hr138 : ∀ {x0 : Nat} {x1 : Nat} {x2 : Int} {x3 : Int} {M : xj_M} {R : xj_M}, xin x2 → xin x3 → r138 x0 x1 x2 x3 M = some R → xW (d + 258) (none, d + 258, none) xr_354 (138, [(0, xR_ x0), (1, xR_ x1), (2, xI x2), (3, xI x3)], [], M) (xQv R)) {x0 : Nat} {x1 : Nat} {x2 : Int} {x3 : Int} {M : xj_M} {R : xj_M} (hx2 : xin x2) (hx3 : xin x3) (h : f354_182  r138 f x0 x1 x2 x3 M = some R) : xW (d + 258) (none, d + 258, none) xr_354 (182, [(0, xR_ x0), (1, xR_ x1), (2, xI x2), (3, xI x3)], [], M) (xQv R) := by
  unfold f354_182 at h
  refine xe_iconst (n := 0) (by decide +kernel) rfl ?_
  refine xW_lv rfl (l := [(0, xR_ (x0)), (1, xR_ (x1)), (2, xI (x2)), (3, xI (x3))]) (xsb_of ⟨rfl, rfl, rfl, rfl, trivial⟩ (show [0, 1, 2, 3].Nodup by decide)) ?_
  exact k354_183  hr138 hx2 hx3 (show xin (0) by decide) h
def f354_138b  (r138 : Nat → Nat → Int → Int → xj_M → Option (xj_M)) (f : Nat) (x0 : Nat) (x1 : Nat) (x2 : Int) (x3 : Int) (M : xj_M) : Option (xj_M) := (if (72) ≤ (x3) then (some M) else ((xq_gr 13 18 (x1) M).bind fun v200 => ((xq_ai 3 (v200) (x3) M).bind fun v202 => (if ¬ (v202) = 0 then ((xq_gr 15 97 (x0) M).bind fun v205 => ((xq_ab (v205) (x3) M).bind fun v207 => (if ¬ (v207) = 0 then f354_178  r138 f (x0) (x1) (x2) (x3) M else (if (x2) = 0 then f354_182  r138 f (x0) (x1) (x2) (x3) M else ((xq_gr 15 95 (x0) M).bind fun v211 => ((xq_ab (v211) (x3) M).bind fun v213 => (if (v213) = 0 then f354_182  r138 f (x0) (x1) (x2) (x3) M else f354_178  r138 f (x0) (x1) (x2) (x3) M))))))) else f354_346  r138 f (x0) (x1) (x2) (x3) M))))
theorem k354_138b {d f : Nat}  {r138 : Nat → Nat → Int → Int → xj_M → Option (xj_M)}  (hr138 : ∀ {x0 : Nat} {x1 : Nat} {x2 : Int} {x3 : Int} {M : xj_M} {R : xj_M}, xin x2 → xin x3 → r138 x0 x1 x2 x3 M = some R → xW (d + 258) (none, d + 258, none) xr_354 (138, [(0, xR_ x0), (1, xR_ x1), (2, xI x2), (3, xI x3)], [], M) (xQv R)) {x0 : Nat} {x1 : Nat} {x2 : Int} {x3 : Int} {M : xj_M} {R : xj_M} (hx2 : xin x2) (hx3 : xin x3) (h : f354_138b  r138 f x0 x1 x2 x3 M = some R) : xW (d + 258) (none, d + 258, none) xr_354 (138, [(0, xR_ x0), (1, xR_ x1), (2, xI x2), (3, xI x3)], [], M) (xQv R) := by
  unfold f354_138b at h
  refine xe_ldn (ins := .iload_n 3) (len := 1) (by decide +kernel) rfl rfl rfl rfl ?_
  refine xe_bipush (n := 72) (by decide +kernel) (by decide) rfl ?_
  refine xe_icmpge (off := 211) (t := 352) (by decide +kernel) (by decide) rfl hx3 (show xin (72) by decide) (fun c199 => ?_) (fun c199 => ?_)
  · rw [if_pos c199] at h
    cases h
    exact xe_ret_v (by decide +kernel) rfl ⟨rfl, rfl⟩
  · rw [if_neg c199] at h
    refine xe_alr (ins := .aload_n 1) (len := 1) (i := 1) (by decide +kernel) rfl rfl rfl rfl rfl ?_
    obtain ⟨v200, e201, h⟩ := xbnd h
    refine xs_gr (i := 865) (c := 13) (k := 18) (by decide +kernel) (by decide) (by decide +kernel) e201 rfl ?_
    refine xe_ldn (ins := .iload_n 3) (len := 1) (by decide +kernel) rfl rfl rfl rfl ?_
    obtain ⟨v202, e203, h⟩ := xbnd h
    refine xs_iald rfl (by decide +kernel) hx3 e203 rfl ?_
    refine xe_ifne (off := 6) (t := 156) (by decide +kernel) (by decide) rfl (xq_ai_in e203) (fun c204 => ?_) (fun c204 => ?_)
    · rw [if_pos c204] at h
      refine xe_alr (ins := .aload_n 0) (len := 1) (i := 0) (by decide +kernel) rfl rfl rfl rfl rfl ?_
      obtain ⟨v205, e206, h⟩ := xbnd h
      refine xs_gr (i := 1074) (c := 15) (k := 97) (by decide +kernel) (by decide) (by decide +kernel) e206 rfl ?_
      refine xe_ldn (ins := .iload_n 3) (len := 1) (by decide +kernel) rfl rfl rfl rfl ?_
      obtain ⟨v207, e208, h⟩ := xbnd h
      refine xs_bald (by decide +kernel) hx3 e208 rfl ?_
      refine xe_ifne (off := 16) (t := 178) (by decide +kernel) (by decide) rfl (xq_ab_in e208) (fun c209 => ?_) (fun c209 => ?_)
      · rw [if_pos c209] at h
        refine xW_lv rfl (l := [(0, xR_ (x0)), (1, xR_ (x1)), (2, xI (x2)), (3, xI (x3))]) (xsb_of ⟨rfl, rfl, rfl, rfl, trivial⟩ (show [0, 1, 2, 3].Nodup by decide)) ?_
        exact k354_178  hr138 hx2 hx3 h
      · rw [if_neg c209] at h
        refine xe_ldn (ins := .iload_n 2) (len := 1) (by decide +kernel) rfl rfl rfl rfl ?_
        refine xe_ifeq (off := 16) (t := 182) (by decide +kernel) (by decide) rfl hx2 (fun c210 => ?_) (fun c210 => ?_)
        · rw [if_pos c210] at h
          refine xW_lv rfl (l := [(0, xR_ (x0)), (1, xR_ (x1)), (2, xI (x2)), (3, xI (x3))]) (xsb_of ⟨rfl, rfl, rfl, rfl, trivial⟩ (show [0, 1, 2, 3].Nodup by decide)) ?_
          exact k354_182  hr138 hx2 hx3 h
        · rw [if_neg c210] at h
          refine xe_alr (ins := .aload_n 0) (len := 1) (i := 0) (by decide +kernel) rfl rfl rfl rfl rfl ?_
          obtain ⟨v211, e212, h⟩ := xbnd h
          refine xs_gr (i := 1007) (c := 15) (k := 95) (by decide +kernel) (by decide) (by decide +kernel) e212 rfl ?_
          refine xe_ldn (ins := .iload_n 3) (len := 1) (by decide +kernel) rfl rfl rfl rfl ?_
          obtain ⟨v213, e214, h⟩ := xbnd h
          refine xs_bald (by decide +kernel) hx3 e214 rfl ?_
          refine xe_ifeq (off := 7) (t := 182) (by decide +kernel) (by decide) rfl (xq_ab_in e214) (fun c215 => ?_) (fun c215 => ?_)
          · rw [if_pos c215] at h
            refine xW_lv rfl (l := [(0, xR_ (x0)), (1, xR_ (x1)), (2, xI (x2)), (3, xI (x3))]) (xsb_of ⟨rfl, rfl, rfl, rfl, trivial⟩ (show [0, 1, 2, 3].Nodup by decide)) ?_
            exact k354_182  hr138 hx2 hx3 h
          · rw [if_neg c215] at h
            refine xW_lv rfl (l := [(0, xR_ (x0)), (1, xR_ (x1)), (2, xI (x2)), (3, xI (x3))]) (xsb_of ⟨rfl, rfl, rfl, rfl, trivial⟩ (show [0, 1, 2, 3].Nodup by decide)) ?_
            exact k354_178  hr138 hx2 hx3 h
    · rw [if_neg c204] at h
      refine xe_goto (off := 193) (nx := 346) (by decide +kernel) (by decide) ?_
      refine xW_lv rfl (l := [(0, xR_ (x0)), (1, xR_ (x1)), (2, xI (x2)), (3, xI (x3))]) (xsb_of ⟨rfl, rfl, rfl, rfl, trivial⟩ (show [0, 1, 2, 3].Nodup by decide)) ?_
      exact k354_346  hr138 hx2 hx3 h
def f354_138   (f : Nat) : Nat → Nat → Nat → Int → Int → xj_M → Option (xj_M)
  | 0, _, _, _, _, _ => none
  | n + 1, x0, x1, x2, x3, M => f354_138b   (f354_138   f n) f x0 x1 x2 x3 M
theorem k354_138 {d f : Nat}     : ∀ {n : Nat} {x0 : Nat} {x1 : Nat} {x2 : Int} {x3 : Int} {M : xj_M} {R : xj_M}, xin x2 → xin x3 → f354_138   f n x0 x1 x2 x3 M = some R → xW (d + 258) (none, d + 258, none) xr_354 (138, [(0, xR_ x0), (1, xR_ x1), (2, xI x2), (3, xI x3)], [], M) (xQv R) := by
  intro n
  induction n with
  | zero => intros; rename_i h; cases h
  | succ n ih => intros; rename_i h; exact k354_138b   ih (by assumption) (by assumption) h
def f354_2b  (r2 : Nat → Nat → Int → Int → xj_M → Option (xj_M)) (f : Nat) (x0 : Nat) (x1 : Nat) (x2 : Int) (x3 : Int) (M : xj_M) : Option (xj_M) := (if (72) ≤ (x3) then ((xq_is 15 (x0) M).bind fun _ => ((f346  f (x0) (x1) M).bind fun M219 => f354_138   f f (x0) (x1) (x2) (0) M219)) else ((xq_gr 15 78 (x0) M).bind fun v221 => ((xq_gr 13 20 (x1) M).bind fun v223 => ((xq_ai 3 (v223) (x3) M).bind fun v225 => ((xq_si (v221) (x3) (v225) M).bind fun M227 => ((xq_gr 15 79 (x0) M227).bind fun v229 => ((xq_gr 13 23 (x1) M227).bind fun v231 => ((xq_al (v231) (x3) M227).bind fun v233 => ((xq_sl (v229) (x3) (v233) M227).bind fun M235 => ((xq_gr 15 97 (x0) M235).bind fun v237 => ((xq_gr 13 30 (x1) M235).bind fun v239 => ((xq_ai 3 (v239) (x3) M235).bind fun v241 => (if (v241) = (-1) then f354_52  r2 f (x0) (x1) (x2) (x3) (0) (x3) (v237) M235 else f354_52  r2 f (x0) (x1) (x2) (x3) (1) (x3) (v237) M235)))))))))))))
theorem k354_2b {d f : Nat}  {r2 : Nat → Nat → Int → Int → xj_M → Option (xj_M)}  (hr2 : ∀ {x0 : Nat} {x1 : Nat} {x2 : Int} {x3 : Int} {M : xj_M} {R : xj_M}, xin x2 → xin x3 → r2 x0 x1 x2 x3 M = some R → xW (d + 258) (none, d + 258, none) xr_354 (2, [(0, xR_ x0), (1, xR_ x1), (2, xI x2), (3, xI x3)], [], M) (xQv R)) {x0 : Nat} {x1 : Nat} {x2 : Int} {x3 : Int} {M : xj_M} {R : xj_M} (hx2 : xin x2) (hx3 : xin x3) (h : f354_2b  r2 f x0 x1 x2 x3 M = some R) : xW (d + 258) (none, d + 258, none) xr_354 (2, [(0, xR_ x0), (1, xR_ x1), (2, xI x2), (3, xI x3)], [], M) (xQv R) := by
  unfold f354_2b at h
  refine xe_ldn (ins := .iload_n 3) (len := 1) (by decide +kernel) rfl rfl rfl rfl ?_
  refine xe_bipush (n := 72) (by decide +kernel) (by decide) rfl ?_
  refine xe_icmpge (off := 126) (t := 131) (by decide +kernel) (by decide) rfl hx3 (show xin (72) by decide) (fun c216 => ?_) (fun c216 => ?_)
  · rw [if_pos c216] at h
    refine xe_alr (ins := .aload_n 0) (len := 1) (i := 0) (by decide +kernel) rfl rfl rfl rfl rfl ?_
    refine xe_alr (ins := .aload_n 1) (len := 1) (i := 1) (by decide +kernel) rfl rfl rfl rfl rfl ?_
    obtain ⟨_, e218, h⟩ := xbnd h
    obtain ⟨M219, e217, h⟩ := xbnd h
    refine xs_cv (i := 887) (j := 346) (ar := [xR_ (x1)]) (rest := []) (r2 := xr_346) (by decide +kernel) (by decide +kernel) (by decide +kernel) xr_346_e rfl (by decide) (by decide) e218 ?_
    refine xc_v (k346 (d := d + 0)   e217) rfl ?_
    refine xe_iconst (n := 0) (by decide +kernel) rfl ?_
    refine xe_isr (ins := .istore_n 3) (len := 1) (i := 3) (by decide +kernel) rfl rfl rfl (by decide) (xk_k (show ¬ (0 : Nat) = 3 by decide) (Or.inl (show ¬ (0 + 1 : Nat) = 3 by decide)) (xk_k (show ¬ (1 : Nat) = 3 by decide) (Or.inl (show ¬ (1 + 1 : Nat) = 3 by decide)) (xk_k (show ¬ (2 : Nat) = 3 by decide) (Or.inr (xI_cat _)) (xk_d rfl xk_n)))) rfl ?_
    refine xW_lv rfl (l := [(0, xR_ (x0)), (1, xR_ (x1)), (2, xI (x2)), (3, xI (0))]) (xsb_of ⟨rfl, rfl, rfl, rfl, trivial⟩ (show [3, 0, 1, 2].Nodup by decide)) ?_
    exact k354_138   hx2 (show xin (0) by decide) h
  · rw [if_neg c216] at h
    refine xe_alr (ins := .aload_n 0) (len := 1) (i := 0) (by decide +kernel) rfl rfl rfl rfl rfl ?_
    obtain ⟨v221, e222, h⟩ := xbnd h
    refine xs_gr (i := 1068) (c := 15) (k := 78) (by decide +kernel) (by decide) (by decide +kernel) e222 rfl ?_
    refine xe_ldn (ins := .iload_n 3) (len := 1) (by decide +kernel) rfl rfl rfl rfl ?_
    refine xe_alr (ins := .aload_n 1) (len := 1) (i := 1) (by decide +kernel) rfl rfl rfl rfl rfl ?_
    obtain ⟨v223, e224, h⟩ := xbnd h
    refine xs_gr (i := 1045) (c := 13) (k := 20) (by decide +kernel) (by decide) (by decide +kernel) e224 rfl ?_
    refine xe_ldn (ins := .iload_n 3) (len := 1) (by decide +kernel) rfl rfl rfl rfl ?_
    obtain ⟨v225, e226, h⟩ := xbnd h
    refine xs_iald rfl (by decide +kernel) hx3 e226 rfl ?_
    obtain ⟨M227, e228, h⟩ := xbnd h
    refine xs_iast (by decide +kernel) hx3 e228 rfl ?_
    refine xe_alr (ins := .aload_n 0) (len := 1) (i := 0) (by decide +kernel) rfl rfl rfl rfl rfl ?_
    obtain ⟨v229, e230, h⟩ := xbnd h
    refine xs_gr (i := 1071) (c := 15) (k := 79) (by decide +kernel) (by decide) (by decide +kernel) e230 rfl ?_
    refine xe_ldn (ins := .iload_n 3) (len := 1) (by decide +kernel) rfl rfl rfl rfl ?_
    refine xe_alr (ins := .aload_n 1) (len := 1) (i := 1) (by decide +kernel) rfl rfl rfl rfl rfl ?_
    obtain ⟨v231, e232, h⟩ := xbnd h
    refine xs_gr (i := 1048) (c := 13) (k := 23) (by decide +kernel) (by decide) (by decide +kernel) e232 rfl ?_
    refine xe_ldn (ins := .iload_n 3) (len := 1) (by decide +kernel) rfl rfl rfl rfl ?_
    obtain ⟨v233, e234, h⟩ := xbnd h
    refine xs_lald (by decide +kernel) hx3 e234 rfl ?_
    obtain ⟨M235, e236, h⟩ := xbnd h
    refine xs_last (by decide +kernel) hx3 e236 rfl ?_
    refine xe_alr (ins := .aload_n 0) (len := 1) (i := 0) (by decide +kernel) rfl rfl rfl rfl rfl ?_
    obtain ⟨v237, e238, h⟩ := xbnd h
    refine xs_gr (i := 1074) (c := 15) (k := 97) (by decide +kernel) (by decide) (by decide +kernel) e238 rfl ?_
    refine xe_ldn (ins := .iload_n 3) (len := 1) (by decide +kernel) rfl rfl rfl rfl ?_
    refine xe_alr (ins := .aload_n 1) (len := 1) (i := 1) (by decide +kernel) rfl rfl rfl rfl rfl ?_
    obtain ⟨v239, e240, h⟩ := xbnd h
    refine xs_gr (i := 1077) (c := 13) (k := 30) (by decide +kernel) (by decide) (by decide +kernel) e240 rfl ?_
    refine xe_ldn (ins := .iload_n 3) (len := 1) (by decide +kernel) rfl rfl rfl rfl ?_
    obtain ⟨v241, e242, h⟩ := xbnd h
    refine xs_iald rfl (by decide +kernel) hx3 e242 rfl ?_
    refine xe_iconst (n := -1) (by decide +kernel) rfl ?_
    refine xe_icmpeq (off := 7) (t := 51) (by decide +kernel) (by decide) rfl (xq_ai_in e242) (show xin (-1) by decide) (fun c243 => ?_) (fun c243 => ?_)
    · rw [if_pos c243] at h
      refine xe_iconst (n := 0) (by decide +kernel) rfl ?_
      refine xW_lv rfl (l := [(0, xR_ (x0)), (1, xR_ (x1)), (2, xI (x2)), (3, xI (x3))]) (xsb_of ⟨rfl, rfl, rfl, rfl, trivial⟩ (show [0, 1, 2, 3].Nodup by decide)) ?_
      exact k354_52  hr2 hx2 hx3 (show xin (0) by decide) hx3 h
    · rw [if_neg c243] at h
      refine xe_iconst (n := 1) (by decide +kernel) rfl ?_
      refine xe_goto (off := 4) (nx := 52) (by decide +kernel) (by decide) ?_
      refine xW_lv rfl (l := [(0, xR_ (x0)), (1, xR_ (x1)), (2, xI (x2)), (3, xI (x3))]) (xsb_of ⟨rfl, rfl, rfl, rfl, trivial⟩ (show [0, 1, 2, 3].Nodup by decide)) ?_
      exact k354_52  hr2 hx2 hx3 (show xin (1) by decide) hx3 h
def f354_2   (f : Nat) : Nat → Nat → Nat → Int → Int → xj_M → Option (xj_M)
  | 0, _, _, _, _, _ => none
  | n + 1, x0, x1, x2, x3, M => f354_2b   (f354_2   f n) f x0 x1 x2 x3 M
theorem k354_2 {d f : Nat}     : ∀ {n : Nat} {x0 : Nat} {x1 : Nat} {x2 : Int} {x3 : Int} {M : xj_M} {R : xj_M}, xin x2 → xin x3 → f354_2   f n x0 x1 x2 x3 M = some R → xW (d + 258) (none, d + 258, none) xr_354 (2, [(0, xR_ x0), (1, xR_ x1), (2, xI x2), (3, xI x3)], [], M) (xQv R) := by
  intro n
  induction n with
  | zero => intros; rename_i h; cases h
  | succ n ih => intros; rename_i h; exact k354_2b   ih (by assumption) (by assumption) h
def f354  (f : Nat) (a0 : Nat) (a1 : Nat) (a2 : Int) (M : xj_M) : Option (xj_M) := f354_2   f f (a0) (a1) (a2) (0) M
theorem k354 {d f : Nat}   {a0 : Nat} {a1 : Nat} {a2 : Int} {M : xj_M} {R : xj_M} (ha2 : xin a2) (h : f354  f a0 a1 a2 M = some R) : xT (d + 259) 354 [xR_ a0, xR_ a1, xI a2] M (xQv R) := by
  refine xT_m xr_354_e (X := (none, d + 258, none)) rfl (xa_1 (xR_cat _) (xa_1 (xR_cat _) (xa_1 (xI_cat _) xa_n))) (by decide) ?_
  unfold f354 at h
  refine xe_iconst (n := 0) (by decide +kernel) rfl ?_
  refine xe_isr (ins := .istore_n 3) (len := 1) (i := 3) (by decide +kernel) rfl rfl rfl (by decide) (xk_k (show ¬ (0 : Nat) = 3 by decide) (Or.inl (show ¬ (0 + 1 : Nat) = 3 by decide)) (xk_k (show ¬ (1 : Nat) = 3 by decide) (Or.inl (show ¬ (1 + 1 : Nat) = 3 by decide)) (xk_k (show ¬ (2 : Nat) = 3 by decide) (Or.inr (xI_cat _)) xk_n))) rfl ?_
  refine xW_lv rfl (l := [(0, xR_ (a0)), (1, xR_ (a1)), (2, xI (a2)), (3, xI (0))]) (xsb_of ⟨rfl, rfl, rfl, rfl, trivial⟩ (show [3, 0, 1, 2].Nodup by decide)) ?_
  exact k354_2   ha2 (show xin (0) by decide) h
-- ChangeHouseModel.readProgram
def xr_231 : xj_mR := (15, yX15_readProgram, cX15_readProgram, 5, (Option.none : Option Jvm.ClassFile.FieldType), 4, false, (8, 129), (1, 12))
set_option maxRecDepth 20000 in
theorem xr_231_e : xj_row 231 = some xr_231 := rfl
def f231_88   (f : Nat)  (M : xj_M) : Option (xj_M) := (some M)
theorem k231_88 {d f : Nat}      {M : xj_M} {R : xj_M}  (h : f231_88   f  M = some R) : xW (d + 110) (none, d + 110, none) xr_231 (88, [], [], M) (xQv R) := by
  unfold f231_88 at h
  cases h
  exact xe_ret_v (by decide +kernel) rfl ⟨rfl, rfl⟩
def f231_13b  (r13 : Nat → xj_M → Option (xj_M)) (f : Nat) (x0 : Nat) (M : xj_M) : Option (xj_M) := ((xq_is 15 (x0) M).bind fun _ => ((f211  f (x0) M).bind fun R103 => (if ¬ (R103.1) = 0 then f231_88   f  R103.2 else ((xq_gi 15 2 (x0) R103.2).bind fun v106 => (if (v106) = 0 then f231_88   f  R103.2 else ((xq_gl 15 12 (x0) R103.2).bind fun v109 => ((xq_is 15 (x0) R103.2).bind fun _ => ((f225  f (x0) (v109) R103.2).bind fun R113 => (if (R113.1) = 0 then ((xq_gl 15 13 (x0) R113.2).bind fun v116 => ((xq_is 15 (x0) R113.2).bind fun _ => ((f225  f (x0) (v116) R113.2).bind fun R120 => (if (R120.1) = 0 then ((xq_is 15 (x0) R120.2).bind fun _ => ((f226  f (x0) R120.2).bind fun R125 => (if (R125.1) = 0 then ((xq_gi 15 4 (x0) R125.2).bind fun v128 => ((xq_is 15 (x0) R125.2).bind fun _ => ((f210  f (x0) (v128) R125.2).bind fun M132 => r13 (x0) M132))) else ((xq_is 15 (x0) R125.2).bind fun _ => ((f237  f (x0) R125.2).bind fun M136 => r13 (x0) M136))))) else ((xq_is 15 (x0) R120.2).bind fun _ => ((f235  f (x0) R120.2).bind fun M140 => r13 (x0) M140)))))) else ((xq_is 15 (x0) R113.2).bind fun _ => ((f234  f (x0) R113.2).bind fun M144 => r13 (x0) M144)))))))))))
theorem k231_13b {d f : Nat}  {r13 : Nat → xj_M → Option (xj_M)}  (hr13 : ∀ {x0 : Nat} {M : xj_M} {R : xj_M}, r13 x0 M = some R → xW (d + 110) (none, d + 110, none) xr_231 (13, [(0, xR_ x0)], [], M) (xQv R)) {x0 : Nat} {M : xj_M} {R : xj_M}  (h : f231_13b  r13 f x0 M = some R) : xW (d + 110) (none, d + 110, none) xr_231 (13, [(0, xR_ x0)], [], M) (xQv R) := by
  unfold f231_13b at h
  refine xe_alr (ins := .aload_n 0) (len := 1) (i := 0) (by decide +kernel) rfl rfl rfl rfl rfl ?_
  obtain ⟨_, e102, h⟩ := xbnd h
  obtain ⟨R103, e101, h⟩ := xbnd h
  refine xs_cv (i := 28) (j := 211) (ar := []) (rest := []) (r2 := xr_211) (by decide +kernel) (by decide +kernel) (by decide +kernel) xr_211_e rfl (by decide) (by decide) e102 ?_
  refine xc_i (k211 (d := d + 109)   e101) rfl (fun hi104 => ?_)
  refine xe_ifne (off := 71) (t := 88) (by decide +kernel) (by decide) rfl hi104 (fun c105 => ?_) (fun c105 => ?_)
  · rw [if_pos c105] at h
    refine xW_lv rfl (l := []) (xsb_of trivial (show [0].Nodup by decide)) ?_
    exact k231_88    h
  · rw [if_neg c105] at h
    refine xe_alr (ins := .aload_n 0) (len := 1) (i := 0) (by decide +kernel) rfl rfl rfl rfl rfl ?_
    obtain ⟨v106, e107, h⟩ := xbnd h
    refine xs_gi (i := 46) (c := 15) (k := 2) (by decide +kernel) (by decide) (by decide +kernel) e107 rfl ?_
    refine xe_ifeq (off := 64) (t := 88) (by decide +kernel) (by decide) rfl (xq_gi_in e107) (fun c108 => ?_) (fun c108 => ?_)
    · rw [if_pos c108] at h
      refine xW_lv rfl (l := []) (xsb_of trivial (show [0].Nodup by decide)) ?_
      exact k231_88    h
    · rw [if_neg c108] at h
      refine xe_alr (ins := .aload_n 0) (len := 1) (i := 0) (by decide +kernel) rfl rfl rfl rfl rfl ?_
      refine xe_alr (ins := .aload_n 0) (len := 1) (i := 0) (by decide +kernel) rfl rfl rfl rfl rfl ?_
      obtain ⟨v109, e110, h⟩ := xbnd h
      refine xs_gl (i := 129) (c := 15) (k := 12) (by decide +kernel) (by decide) (by decide +kernel) e110 rfl ?_
      obtain ⟨_, e112, h⟩ := xbnd h
      obtain ⟨R113, e111, h⟩ := xbnd h
      refine xs_cv (i := 229) (j := 225) (ar := [xZ (v109)]) (rest := []) (r2 := xr_225) (by decide +kernel) (by decide +kernel) (by decide +kernel) xr_225_e rfl (by decide) (by decide) e112 ?_
      refine xc_i (k225 (d := d + 107)  (xq_gl_in e110) e111) rfl (fun hi114 => ?_)
      refine xe_ifeq (off := 10) (t := 45) (by decide +kernel) (by decide) rfl hi114 (fun c115 => ?_) (fun c115 => ?_)
      · rw [if_pos c115] at h
        refine xe_alr (ins := .aload_n 0) (len := 1) (i := 0) (by decide +kernel) rfl rfl rfl rfl rfl ?_
        refine xe_alr (ins := .aload_n 0) (len := 1) (i := 0) (by decide +kernel) rfl rfl rfl rfl rfl ?_
        obtain ⟨v116, e117, h⟩ := xbnd h
        refine xs_gl (i := 132) (c := 15) (k := 13) (by decide +kernel) (by decide) (by decide +kernel) e117 rfl ?_
        obtain ⟨_, e119, h⟩ := xbnd h
        obtain ⟨R120, e118, h⟩ := xbnd h
        refine xs_cv (i := 229) (j := 225) (ar := [xZ (v116)]) (rest := []) (r2 := xr_225) (by decide +kernel) (by decide +kernel) (by decide +kernel) xr_225_e rfl (by decide) (by decide) e119 ?_
        refine xc_i (k225 (d := d + 107)  (xq_gl_in e117) e118) rfl (fun hi121 => ?_)
        refine xe_ifeq (off := 10) (t := 63) (by decide +kernel) (by decide) rfl hi121 (fun c122 => ?_) (fun c122 => ?_)
        · rw [if_pos c122] at h
          refine xe_alr (ins := .aload_n 0) (len := 1) (i := 0) (by decide +kernel) rfl rfl rfl rfl rfl ?_
          obtain ⟨_, e124, h⟩ := xbnd h
          obtain ⟨R125, e123, h⟩ := xbnd h
          refine xs_cv (i := 163) (j := 226) (ar := []) (rest := []) (r2 := xr_226) (by decide +kernel) (by decide +kernel) (by decide +kernel) xr_226_e rfl (by decide) (by decide) e124 ?_
          refine xc_i (k226 (d := d + 107)   e123) rfl (fun hi126 => ?_)
          refine xe_ifeq (off := 10) (t := 77) (by decide +kernel) (by decide) rfl hi126 (fun c127 => ?_) (fun c127 => ?_)
          · rw [if_pos c127] at h
            refine xe_alr (ins := .aload_n 0) (len := 1) (i := 0) (by decide +kernel) rfl rfl rfl rfl rfl ?_
            refine xe_alr (ins := .aload_n 0) (len := 1) (i := 0) (by decide +kernel) rfl rfl rfl rfl rfl ?_
            obtain ⟨v128, e129, h⟩ := xbnd h
            refine xs_gi (i := 43) (c := 15) (k := 4) (by decide +kernel) (by decide) (by decide +kernel) e129 rfl ?_
            obtain ⟨_, e131, h⟩ := xbnd h
            obtain ⟨M132, e130, h⟩ := xbnd h
            refine xs_cv (i := 35) (j := 210) (ar := [xI (v128)]) (rest := []) (r2 := xr_210) (by decide +kernel) (by decide +kernel) (by decide +kernel) xr_210_e rfl (by decide) (by decide) e131 ?_
            refine xc_v (k210 (d := d + 109)  (xq_gi_in e129) e130) rfl ?_
            refine xe_goto (off := -72) (nx := 13) (by decide +kernel) (by decide) ?_
            refine xW_lv rfl (l := [(0, xR_ (x0))]) (xsb_of ⟨rfl, trivial⟩ (show [0].Nodup by decide)) ?_
            exact hr13  h
          · rw [if_neg c127] at h
            refine xe_alr (ins := .aload_n 0) (len := 1) (i := 0) (by decide +kernel) rfl rfl rfl rfl rfl ?_
            obtain ⟨_, e135, h⟩ := xbnd h
            obtain ⟨M136, e134, h⟩ := xbnd h
            refine xs_cv (i := 238) (j := 237) (ar := []) (rest := []) (r2 := xr_237) (by decide +kernel) (by decide +kernel) (by decide +kernel) xr_237_e rfl (by decide) (by decide) e135 ?_
            refine xc_v (k237 (d := d + 0)   e134) rfl ?_
            refine xe_goto (off := -61) (nx := 13) (by decide +kernel) (by decide) ?_
            refine xW_lv rfl (l := [(0, xR_ (x0))]) (xsb_of ⟨rfl, trivial⟩ (show [0].Nodup by decide)) ?_
            exact hr13  h
        · rw [if_neg c122] at h
          refine xe_alr (ins := .aload_n 0) (len := 1) (i := 0) (by decide +kernel) rfl rfl rfl rfl rfl ?_
          obtain ⟨_, e139, h⟩ := xbnd h
          obtain ⟨M140, e138, h⟩ := xbnd h
          refine xs_cv (i := 235) (j := 235) (ar := []) (rest := []) (r2 := xr_235) (by decide +kernel) (by decide +kernel) (by decide +kernel) xr_235_e rfl (by decide) (by decide) e139 ?_
          refine xc_v (k235 (d := d + 101)   e138) rfl ?_
          refine xe_goto (off := -47) (nx := 13) (by decide +kernel) (by decide) ?_
          refine xW_lv rfl (l := [(0, xR_ (x0))]) (xsb_of ⟨rfl, trivial⟩ (show [0].Nodup by decide)) ?_
          exact hr13  h
      · rw [if_neg c115] at h
        refine xe_alr (ins := .aload_n 0) (len := 1) (i := 0) (by decide +kernel) rfl rfl rfl rfl rfl ?_
        obtain ⟨_, e143, h⟩ := xbnd h
        obtain ⟨M144, e142, h⟩ := xbnd h
        refine xs_cv (i := 232) (j := 234) (ar := []) (rest := []) (r2 := xr_234) (by decide +kernel) (by decide +kernel) (by decide +kernel) xr_234_e rfl (by decide) (by decide) e143 ?_
        refine xc_v (k234 (d := d + 101)   e142) rfl ?_
        refine xe_goto (off := -29) (nx := 13) (by decide +kernel) (by decide) ?_
        refine xW_lv rfl (l := [(0, xR_ (x0))]) (xsb_of ⟨rfl, trivial⟩ (show [0].Nodup by decide)) ?_
        exact hr13  h
def f231_13   (f : Nat) : Nat → Nat → xj_M → Option (xj_M)
  | 0, _, _ => none
  | n + 1, x0, M => f231_13b   (f231_13   f n) f x0 M
theorem k231_13 {d f : Nat}     : ∀ {n : Nat} {x0 : Nat} {M : xj_M} {R : xj_M}, f231_13   f n x0 M = some R → xW (d + 110) (none, d + 110, none) xr_231 (13, [(0, xR_ x0)], [], M) (xQv R) := by
  intro n
  induction n with
  | zero => intros; rename_i h; cases h
  | succ n ih => intros; rename_i h; exact k231_13b   ih  h
def f231  (f : Nat) (a0 : Nat) (a1 : Nat) (a2 : Nat) (a3 : Int) (a4 : Int) (M : xj_M) : Option (xj_M) := ((xq_is 15 (a0) M).bind fun _ => ((f228  f (a0) (a1) M).bind fun M148 => ((xq_is 15 (a0) M148).bind fun _ => ((f212  f (a0) (a2) (a3) (a4) M148).bind fun M152 => f231_13   f f (a0) M152))))
theorem k231 {d f : Nat}   {a0 : Nat} {a1 : Nat} {a2 : Nat} {a3 : Int} {a4 : Int} {M : xj_M} {R : xj_M} (ha3 : xin a3) (ha4 : xin a4) (h : f231  f a0 a1 a2 a3 a4 M = some R) : xT (d + 111) 231 [xR_ a0, xR_ a1, xR_ a2, xI a3, xI a4] M (xQv R) := by
  refine xT_m xr_231_e (X := (none, d + 110, none)) rfl (xa_1 (xR_cat _) (xa_1 (xR_cat _) (xa_1 (xR_cat _) (xa_1 (xI_cat _) (xa_1 (xI_cat _) xa_n))))) (by decide) ?_
  unfold f231 at h
  refine xe_alr (ins := .aload_n 0) (len := 1) (i := 0) (by decide +kernel) rfl rfl rfl rfl rfl ?_
  refine xe_alr (ins := .aload_n 1) (len := 1) (i := 1) (by decide +kernel) rfl rfl rfl rfl rfl ?_
  obtain ⟨_, e147, h⟩ := xbnd h
  obtain ⟨M148, e146, h⟩ := xbnd h
  refine xs_cv (i := 221) (j := 228) (ar := [xR_ (a1)]) (rest := []) (r2 := xr_228) (by decide +kernel) (by decide +kernel) (by decide +kernel) xr_228_e rfl (by decide) (by decide) e147 ?_
  refine xc_v (k228 (d := d + 109)   e146) rfl ?_
  refine xe_alr (ins := .aload_n 0) (len := 1) (i := 0) (by decide +kernel) rfl rfl rfl rfl rfl ?_
  refine xe_alr (ins := .aload_n 2) (len := 1) (i := 2) (by decide +kernel) rfl rfl rfl rfl rfl ?_
  refine xe_ldn (ins := .iload_n 3) (len := 1) (by decide +kernel) rfl rfl rfl rfl ?_
  refine xe_ldn (ins := .iload 4) (len := 2) (by decide +kernel) rfl rfl rfl rfl ?_
  obtain ⟨_, e151, h⟩ := xbnd h
  obtain ⟨M152, e150, h⟩ := xbnd h
  refine xs_cv (i := 225) (j := 212) (ar := [xI (a4), xI (a3), xR_ (a2)]) (rest := []) (r2 := xr_212) (by decide +kernel) (by decide +kernel) (by decide +kernel) xr_212_e rfl (by decide) (by decide) e151 ?_
  refine xc_v (k212 (d := d + 103)  ha3 ha4 e150) rfl ?_
  refine xW_lv rfl (l := [(0, xR_ (a0))]) (xsb_of ⟨rfl, trivial⟩ (show [0, 1, 2, 3, 4].Nodup by decide)) ?_
  exact k231_13    h
-- ChangeHouseModel.readText
def xr_295 : xj_mR := (15, yX15_readText, cX15_readText, 3, (Option.none : Option Jvm.ClassFile.FieldType), 2, false, (8, 125), (1, 12))
set_option maxRecDepth 20000 in
theorem xr_295_e : xj_row 295 = some xr_295 := rfl
def f295  (f : Nat) (a0 : Nat) (a1 : Nat) (a2 : Int) (M : xj_M) : Option (xj_M) := ((xq_gr 15 67 (a0) M).bind fun v101 => ((xq_gr 15 69 (a0) M).bind fun v103 => ((xq_ai 3 (v103) (a2) M).bind fun v105 => ((xq_gr 15 69 (a0) M).bind fun v107 => ((xq_ai 3 (v107) (a2) M).bind fun v109 => ((xq_gr 15 70 (a0) M).bind fun v111 => ((xq_ai 3 (v111) (a2) M).bind fun v113 => ((xq_is 15 (a0) M).bind fun _ => ((f231  f (a0) (a1) (v101) (v105) (xwr ((v109) + (v113))) M).bind fun M117 => ((xq_is 15 (a0) M117).bind fun _ => ((f252  f (a0) (a1) M117).bind fun M121 => (some M121))))))))))))
theorem k295 {d f : Nat}   {a0 : Nat} {a1 : Nat} {a2 : Int} {M : xj_M} {R : xj_M} (ha2 : xin a2) (h : f295  f a0 a1 a2 M = some R) : xT (d + 112) 295 [xR_ a0, xR_ a1, xI a2] M (xQv R) := by
  refine xT_m xr_295_e (X := (none, d + 111, none)) rfl (xa_1 (xR_cat _) (xa_1 (xR_cat _) (xa_1 (xI_cat _) xa_n))) (by decide) ?_
  unfold f295 at h
  refine xe_alr (ins := .aload_n 0) (len := 1) (i := 0) (by decide +kernel) rfl rfl rfl rfl rfl ?_
  refine xe_alr (ins := .aload_n 1) (len := 1) (i := 1) (by decide +kernel) rfl rfl rfl rfl rfl ?_
  refine xe_alr (ins := .aload_n 0) (len := 1) (i := 0) (by decide +kernel) rfl rfl rfl rfl rfl ?_
  obtain ⟨v101, e102, h⟩ := xbnd h
  refine xs_gr (i := 642) (c := 15) (k := 67) (by decide +kernel) (by decide) (by decide +kernel) e102 rfl ?_
  refine xe_alr (ins := .aload_n 0) (len := 1) (i := 0) (by decide +kernel) rfl rfl rfl rfl rfl ?_
  obtain ⟨v103, e104, h⟩ := xbnd h
  refine xs_gr (i := 630) (c := 15) (k := 69) (by decide +kernel) (by decide) (by decide +kernel) e104 rfl ?_
  refine xe_ldn (ins := .iload_n 2) (len := 1) (by decide +kernel) rfl rfl rfl rfl ?_
  obtain ⟨v105, e106, h⟩ := xbnd h
  refine xs_iald rfl (by decide +kernel) ha2 e106 rfl ?_
  refine xe_alr (ins := .aload_n 0) (len := 1) (i := 0) (by decide +kernel) rfl rfl rfl rfl rfl ?_
  obtain ⟨v107, e108, h⟩ := xbnd h
  refine xs_gr (i := 630) (c := 15) (k := 69) (by decide +kernel) (by decide) (by decide +kernel) e108 rfl ?_
  refine xe_ldn (ins := .iload_n 2) (len := 1) (by decide +kernel) rfl rfl rfl rfl ?_
  obtain ⟨v109, e110, h⟩ := xbnd h
  refine xs_iald rfl (by decide +kernel) ha2 e110 rfl ?_
  refine xe_alr (ins := .aload_n 0) (len := 1) (i := 0) (by decide +kernel) rfl rfl rfl rfl rfl ?_
  obtain ⟨v111, e112, h⟩ := xbnd h
  refine xs_gr (i := 639) (c := 15) (k := 70) (by decide +kernel) (by decide) (by decide +kernel) e112 rfl ?_
  refine xe_ldn (ins := .iload_n 2) (len := 1) (by decide +kernel) rfl rfl rfl rfl ?_
  obtain ⟨v113, e114, h⟩ := xbnd h
  refine xs_iald rfl (by decide +kernel) ha2 e114 rfl ?_
  refine xe_iadd (by decide +kernel) rfl ?_
  obtain ⟨_, e116, h⟩ := xbnd h
  obtain ⟨M117, e115, h⟩ := xbnd h
  refine xs_cv (i := 648) (j := 231) (ar := [xI (xwr ((v109) + (v113))), xI (v105), xR_ (v101), xR_ (a1)]) (rest := []) (r2 := xr_231) (by decide +kernel) (by decide +kernel) (by decide +kernel) xr_231_e rfl (by decide) (by decide) e116 ?_
  refine xc_v (k231 (d := d + 0)  (xq_ai_in e106) (xin_wr _) e115) rfl ?_
  refine xe_alr (ins := .aload_n 0) (len := 1) (i := 0) (by decide +kernel) rfl rfl rfl rfl rfl ?_
  refine xe_alr (ins := .aload_n 1) (len := 1) (i := 1) (by decide +kernel) rfl rfl rfl rfl rfl ?_
  obtain ⟨_, e120, h⟩ := xbnd h
  obtain ⟨M121, e119, h⟩ := xbnd h
  refine xs_cv (i := 652) (j := 252) (ar := [xR_ (a1)]) (rest := []) (r2 := xr_252) (by decide +kernel) (by decide +kernel) (by decide +kernel) xr_252_e rfl (by decide) (by decide) e120 ?_
  refine xc_v (k252 (d := d + 107)   e119) rfl ?_
  cases h
  exact xe_ret_v (by decide +kernel) rfl ⟨rfl, rfl⟩
-- ChangeHouseModel.load
def xr_296 : xj_mR := (15, yX15_load, cX15_load, 3, (Option.none : Option Jvm.ClassFile.FieldType), 0, false, (10, 201), (1, 12))
set_option maxRecDepth 20000 in
theorem xr_296_e : xj_row 296 = some xr_296 := rfl
def f296_23   (f : Nat) (x0 : Nat) (M : xj_M) : Option (xj_M) := ((xq_gr 15 61 (x0) M).bind fun v101 => ((xq_gi 15 62 (x0) M).bind fun v103 => ((xq_ar (v101) (v103) M).bind fun v105 => ((xq_gr 15 29 (x0) M).bind fun v107 => ((xq_gi 13 1 (v105) M).bind fun v109 => ((xq_is 15 (x0) M).bind fun _ => ((f295  f (x0) (v107) (v109) M).bind fun M113 => ((xq_gr 13 0 (v105) M113).bind fun v115 => ((xq_is 15 (x0) M113).bind fun _ => ((f297  f (x0) (v115) M113).bind fun M119 => ((xq_is 15 (x0) M119).bind fun _ => ((f290  f (x0) M119).bind fun R123 => ((xq_gi 15 64 (x0) R123.2).bind fun v125 => ((xq_pi 15 65 (x0) (v125) R123.2).bind fun M127 => ((xq_gi 15 62 (x0) M127).bind fun v129 => ((xq_pi 15 66 (x0) (v129) M127).bind fun M131 => (some M131)))))))))))))))))
theorem k296_23 {d f : Nat}     {x0 : Nat} {M : xj_M} {R : xj_M}  (h : f296_23   f x0 M = some R) : xW (d + 112) (none, d + 112, none) xr_296 (23, [(0, xR_ x0)], [], M) (xQv R) := by
  unfold f296_23 at h
  refine xe_alr (ins := .aload_n 0) (len := 1) (i := 0) (by decide +kernel) rfl rfl rfl rfl rfl ?_
  obtain ⟨v101, e102, h⟩ := xbnd h
  refine xs_gr (i := 667) (c := 15) (k := 61) (by decide +kernel) (by decide) (by decide +kernel) e102 rfl ?_
  refine xe_alr (ins := .aload_n 0) (len := 1) (i := 0) (by decide +kernel) rfl rfl rfl rfl rfl ?_
  obtain ⟨v103, e104, h⟩ := xbnd h
  refine xs_gi (i := 664) (c := 15) (k := 62) (by decide +kernel) (by decide) (by decide +kernel) e104 rfl ?_
  obtain ⟨v105, e106, h⟩ := xbnd h
  refine xs_aald (by decide +kernel) (xq_gi_in e104) e106 rfl ?_
  refine xe_asr (ins := .astore_n 1) (len := 1) (i := 1) (by decide +kernel) rfl rfl rfl (by decide) (xk_k (show ¬ (0 : Nat) = 1 by decide) (Or.inr (xR_cat _)) xk_n) rfl ?_
  refine xe_alr (ins := .aload_n 0) (len := 1) (i := 0) (by decide +kernel) rfl rfl rfl rfl rfl ?_
  refine xe_alr (ins := .aload_n 0) (len := 1) (i := 0) (by decide +kernel) rfl rfl rfl rfl rfl ?_
  obtain ⟨v107, e108, h⟩ := xbnd h
  refine xs_gr (i := 439) (c := 15) (k := 29) (by decide +kernel) (by decide) (by decide +kernel) e108 rfl ?_
  refine xe_alr (ins := .aload_n 1) (len := 1) (i := 1) (by decide +kernel) rfl rfl rfl rfl rfl ?_
  obtain ⟨v109, e110, h⟩ := xbnd h
  refine xs_gi (i := 671) (c := 13) (k := 1) (by decide +kernel) (by decide) (by decide +kernel) e110 rfl ?_
  obtain ⟨_, e112, h⟩ := xbnd h
  obtain ⟨M113, e111, h⟩ := xbnd h
  refine xs_cv (i := 676) (j := 295) (ar := [xI (v109), xR_ (v107)]) (rest := []) (r2 := xr_295) (by decide +kernel) (by decide +kernel) (by decide +kernel) xr_295_e rfl (by decide) (by decide) e112 ?_
  refine xc_v (k295 (d := d + 0)  (xq_gi_in e110) e111) rfl ?_
  refine xe_alr (ins := .aload_n 0) (len := 1) (i := 0) (by decide +kernel) rfl rfl rfl rfl rfl ?_
  refine xe_alr (ins := .aload_n 1) (len := 1) (i := 1) (by decide +kernel) rfl rfl rfl rfl rfl ?_
  obtain ⟨v115, e116, h⟩ := xbnd h
  refine xs_gr (i := 679) (c := 13) (k := 0) (by decide +kernel) (by decide) (by decide +kernel) e116 rfl ?_
  obtain ⟨_, e118, h⟩ := xbnd h
  obtain ⟨M119, e117, h⟩ := xbnd h
  refine xs_cv (i := 683) (j := 297) (ar := [xR_ (v115)]) (rest := []) (r2 := xr_297) (by decide +kernel) (by decide +kernel) (by decide +kernel) xr_297_e rfl (by decide) (by decide) e118 ?_
  refine xc_v (k297 (d := d + 108)   e117) rfl ?_
  refine xe_alr (ins := .aload_n 0) (len := 1) (i := 0) (by decide +kernel) rfl rfl rfl rfl rfl ?_
  obtain ⟨_, e122, h⟩ := xbnd h
  obtain ⟨R123, e121, h⟩ := xbnd h
  refine xs_cv (i := 687) (j := 290) (ar := []) (rest := []) (r2 := xr_290) (by decide +kernel) (by decide +kernel) (by decide +kernel) xr_290_e rfl (by decide) (by decide) e122 ?_
  refine xc_i (k290 (d := d + 25)   e121) rfl (fun hi124 => ?_)
  refine xe_isr (ins := .istore_n 2) (len := 1) (i := 2) (by decide +kernel) rfl rfl rfl (by decide) (xk_k (show ¬ (1 : Nat) = 2 by decide) (Or.inr (xR_cat _)) (xk_k (show ¬ (0 : Nat) = 2 by decide) (Or.inl (show ¬ (0 + 1 : Nat) = 2 by decide)) xk_n)) rfl ?_
  refine xe_alr (ins := .aload_n 0) (len := 1) (i := 0) (by decide +kernel) rfl rfl rfl rfl rfl ?_
  refine xe_alr (ins := .aload_n 0) (len := 1) (i := 0) (by decide +kernel) rfl rfl rfl rfl rfl ?_
  obtain ⟨v125, e126, h⟩ := xbnd h
  refine xs_gi (i := 658) (c := 15) (k := 64) (by decide +kernel) (by decide) (by decide +kernel) e126 rfl ?_
  obtain ⟨M127, e128, h⟩ := xbnd h
  refine xs_p (i := 655) (c := 15) (k := 65) (by decide +kernel) (by decide +kernel) (by decide +kernel) e128 rfl ?_
  refine xe_alr (ins := .aload_n 0) (len := 1) (i := 0) (by decide +kernel) rfl rfl rfl rfl rfl ?_
  refine xe_alr (ins := .aload_n 0) (len := 1) (i := 0) (by decide +kernel) rfl rfl rfl rfl rfl ?_
  obtain ⟨v129, e130, h⟩ := xbnd h
  refine xs_gi (i := 664) (c := 15) (k := 62) (by decide +kernel) (by decide) (by decide +kernel) e130 rfl ?_
  obtain ⟨M131, e132, h⟩ := xbnd h
  refine xs_p (i := 661) (c := 15) (k := 66) (by decide +kernel) (by decide +kernel) (by decide +kernel) e132 rfl ?_
  cases h
  exact xe_ret_v (by decide +kernel) rfl ⟨rfl, rfl⟩
def f296  (f : Nat) (a0 : Nat) (M : xj_M) : Option (xj_M) := ((xq_gi 15 65 (a0) M).bind fun v133 => ((xq_gi 15 64 (a0) M).bind fun v135 => (if ¬ (v133) = (v135) then f296_23   f (a0) M else ((xq_gi 15 66 (a0) M).bind fun v138 => ((xq_gi 15 62 (a0) M).bind fun v140 => (if ¬ (v138) = (v140) then f296_23   f (a0) M else (some M)))))))
theorem k296 {d f : Nat}   {a0 : Nat} {M : xj_M} {R : xj_M}  (h : f296  f a0 M = some R) : xT (d + 113) 296 [xR_ a0] M (xQv R) := by
  refine xT_m xr_296_e (X := (none, d + 112, none)) rfl (xa_1 (xR_cat _) xa_n) (by decide) ?_
  unfold f296 at h
  refine xe_alr (ins := .aload_n 0) (len := 1) (i := 0) (by decide +kernel) rfl rfl rfl rfl rfl ?_
  obtain ⟨v133, e134, h⟩ := xbnd h
  refine xs_gi (i := 655) (c := 15) (k := 65) (by decide +kernel) (by decide) (by decide +kernel) e134 rfl ?_
  refine xe_alr (ins := .aload_n 0) (len := 1) (i := 0) (by decide +kernel) rfl rfl rfl rfl rfl ?_
  obtain ⟨v135, e136, h⟩ := xbnd h
  refine xs_gi (i := 658) (c := 15) (k := 64) (by decide +kernel) (by decide) (by decide +kernel) e136 rfl ?_
  refine xe_icmpne (off := 15) (t := 23) (by decide +kernel) (by decide) rfl (xq_gi_in e134) (xq_gi_in e136) (fun c137 => ?_) (fun c137 => ?_)
  · rw [if_pos c137] at h
    refine xW_lv rfl (l := [(0, xR_ (a0))]) (xsb_of ⟨rfl, trivial⟩ (show [0].Nodup by decide)) ?_
    exact k296_23    h
  · rw [if_neg c137] at h
    refine xe_alr (ins := .aload_n 0) (len := 1) (i := 0) (by decide +kernel) rfl rfl rfl rfl rfl ?_
    obtain ⟨v138, e139, h⟩ := xbnd h
    refine xs_gi (i := 661) (c := 15) (k := 66) (by decide +kernel) (by decide) (by decide +kernel) e139 rfl ?_
    refine xe_alr (ins := .aload_n 0) (len := 1) (i := 0) (by decide +kernel) rfl rfl rfl rfl rfl ?_
    obtain ⟨v140, e141, h⟩ := xbnd h
    refine xs_gi (i := 664) (c := 15) (k := 62) (by decide +kernel) (by decide) (by decide +kernel) e141 rfl ?_
    refine xe_icmpne (off := 4) (t := 23) (by decide +kernel) (by decide) rfl (xq_gi_in e139) (xq_gi_in e141) (fun c142 => ?_) (fun c142 => ?_)
    · rw [if_pos c142] at h
      refine xW_lv rfl (l := [(0, xR_ (a0))]) (xsb_of ⟨rfl, trivial⟩ (show [0].Nodup by decide)) ?_
      exact k296_23    h
    · rw [if_neg c142] at h
      cases h
      exact xe_ret_v (by decide +kernel) rfl ⟨rfl, rfl⟩
-- ChangeHouseModel.readOld
def xr_300 : xj_mR := (15, yX15_readOld, cX15_readOld, 2, (Option.none : Option Jvm.ClassFile.FieldType), 1, false, (9, 120), (1, 12))
set_option maxRecDepth 20000 in
theorem xr_300_e : xj_row 300 = some xr_300 := rfl
def f300  (f : Nat) (a0 : Nat) (a1 : Int) (M : xj_M) : Option (xj_M) := ((xq_gr 15 30 (a0) M).bind fun v101 => ((xq_gr 15 67 (a0) M).bind fun v103 => ((xq_gr 15 69 (a0) M).bind fun v105 => ((xq_ai 3 (v105) (a1) M).bind fun v107 => ((xq_gr 15 69 (a0) M).bind fun v109 => ((xq_ai 3 (v109) (a1) M).bind fun v111 => ((xq_gr 15 70 (a0) M).bind fun v113 => ((xq_ai 3 (v113) (a1) M).bind fun v115 => ((xq_is 15 (a0) M).bind fun _ => ((f231  f (a0) (v101) (v103) (v107) (xwr ((v111) + (v115))) M).bind fun M119 => ((xq_gr 15 30 (a0) M119).bind fun v121 => ((xq_is 15 (a0) M119).bind fun _ => ((f254  f (a0) (v121) M119).bind fun M125 => (some M125))))))))))))))
theorem k300 {d f : Nat}   {a0 : Nat} {a1 : Int} {M : xj_M} {R : xj_M} (ha1 : xin a1) (h : f300  f a0 a1 M = some R) : xT (d + 112) 300 [xR_ a0, xI a1] M (xQv R) := by
  refine xT_m xr_300_e (X := (none, d + 111, none)) rfl (xa_1 (xR_cat _) (xa_1 (xI_cat _) xa_n)) (by decide) ?_
  unfold f300 at h
  refine xe_alr (ins := .aload_n 0) (len := 1) (i := 0) (by decide +kernel) rfl rfl rfl rfl rfl ?_
  refine xe_alr (ins := .aload_n 0) (len := 1) (i := 0) (by decide +kernel) rfl rfl rfl rfl rfl ?_
  obtain ⟨v101, e102, h⟩ := xbnd h
  refine xs_gr (i := 774) (c := 15) (k := 30) (by decide +kernel) (by decide) (by decide +kernel) e102 rfl ?_
  refine xe_alr (ins := .aload_n 0) (len := 1) (i := 0) (by decide +kernel) rfl rfl rfl rfl rfl ?_
  obtain ⟨v103, e104, h⟩ := xbnd h
  refine xs_gr (i := 642) (c := 15) (k := 67) (by decide +kernel) (by decide) (by decide +kernel) e104 rfl ?_
  refine xe_alr (ins := .aload_n 0) (len := 1) (i := 0) (by decide +kernel) rfl rfl rfl rfl rfl ?_
  obtain ⟨v105, e106, h⟩ := xbnd h
  refine xs_gr (i := 630) (c := 15) (k := 69) (by decide +kernel) (by decide) (by decide +kernel) e106 rfl ?_
  refine xe_ldn (ins := .iload_n 1) (len := 1) (by decide +kernel) rfl rfl rfl rfl ?_
  obtain ⟨v107, e108, h⟩ := xbnd h
  refine xs_iald rfl (by decide +kernel) ha1 e108 rfl ?_
  refine xe_alr (ins := .aload_n 0) (len := 1) (i := 0) (by decide +kernel) rfl rfl rfl rfl rfl ?_
  obtain ⟨v109, e110, h⟩ := xbnd h
  refine xs_gr (i := 630) (c := 15) (k := 69) (by decide +kernel) (by decide) (by decide +kernel) e110 rfl ?_
  refine xe_ldn (ins := .iload_n 1) (len := 1) (by decide +kernel) rfl rfl rfl rfl ?_
  obtain ⟨v111, e112, h⟩ := xbnd h
  refine xs_iald rfl (by decide +kernel) ha1 e112 rfl ?_
  refine xe_alr (ins := .aload_n 0) (len := 1) (i := 0) (by decide +kernel) rfl rfl rfl rfl rfl ?_
  obtain ⟨v113, e114, h⟩ := xbnd h
  refine xs_gr (i := 639) (c := 15) (k := 70) (by decide +kernel) (by decide) (by decide +kernel) e114 rfl ?_
  refine xe_ldn (ins := .iload_n 1) (len := 1) (by decide +kernel) rfl rfl rfl rfl ?_
  obtain ⟨v115, e116, h⟩ := xbnd h
  refine xs_iald rfl (by decide +kernel) ha1 e116 rfl ?_
  refine xe_iadd (by decide +kernel) rfl ?_
  obtain ⟨_, e118, h⟩ := xbnd h
  obtain ⟨M119, e117, h⟩ := xbnd h
  refine xs_cv (i := 648) (j := 231) (ar := [xI (xwr ((v111) + (v115))), xI (v107), xR_ (v103), xR_ (v101)]) (rest := []) (r2 := xr_231) (by decide +kernel) (by decide +kernel) (by decide +kernel) xr_231_e rfl (by decide) (by decide) e118 ?_
  refine xc_v (k231 (d := d + 0)  (xq_ai_in e108) (xin_wr _) e117) rfl ?_
  refine xe_alr (ins := .aload_n 0) (len := 1) (i := 0) (by decide +kernel) rfl rfl rfl rfl rfl ?_
  refine xe_alr (ins := .aload_n 0) (len := 1) (i := 0) (by decide +kernel) rfl rfl rfl rfl rfl ?_
  obtain ⟨v121, e122, h⟩ := xbnd h
  refine xs_gr (i := 774) (c := 15) (k := 30) (by decide +kernel) (by decide) (by decide +kernel) e122 rfl ?_
  obtain ⟨_, e124, h⟩ := xbnd h
  obtain ⟨M125, e123, h⟩ := xbnd h
  refine xs_cv (i := 395) (j := 254) (ar := [xR_ (v121)]) (rest := []) (r2 := xr_254) (by decide +kernel) (by decide +kernel) (by decide +kernel) xr_254_e rfl (by decide) (by decide) e124 ?_
  refine xc_v (k254 (d := d + 109)   e123) rfl ?_
  cases h
  exact xe_ret_v (by decide +kernel) rfl ⟨rfl, rfl⟩
-- ChangeHouseModel.back
def xr_314 : xj_mR := (15, yX15_back, cX15_back, 4, (Option.some Jvm.ClassFile.FieldType.int), 1, false, (10, 177), (1, 12))
set_option maxRecDepth 20000 in
theorem xr_314_e : xj_row 314 = some xr_314 := rfl
def f314_69   (f : Nat) (x0 : Nat) (x2 : Nat) (x3 : Int) (M : xj_M) : Option (Int × xj_M) := ((xq_gi 15 64 (x0) M).bind fun v101 => ((xq_pi 15 64 (x0) (xwr ((v101) + (1))) M).bind fun M103 => ((xq_is 15 (x0) M103).bind fun _ => ((f296  f (x0) M103).bind fun M107 => ((xq_is 15 (x0) M107).bind fun _ => ((f346  f (x0) (x2) M107).bind fun M111 => (some (x3, M111))))))))
theorem k314_69 {d f : Nat}     {x0 : Nat} {x2 : Nat} {x3 : Int} {M : xj_M} {R : Int × xj_M} (hx3 : xin x3) (h : f314_69   f x0 x2 x3 M = some R) : xW (d + 258) (none, d + 258, none) xr_314 (69, [(0, xR_ x0), (2, xR_ x2), (3, xI x3)], [], M) (xQi R) := by
  unfold f314_69 at h
  refine xe_alr (ins := .aload_n 0) (len := 1) (i := 0) (by decide +kernel) rfl rfl rfl rfl rfl ?_
  refine xe_dupr (by decide +kernel) rfl ?_
  obtain ⟨v101, e102, h⟩ := xbnd h
  refine xs_gi (i := 658) (c := 15) (k := 64) (by decide +kernel) (by decide) (by decide +kernel) e102 rfl ?_
  refine xe_iconst (n := 1) (by decide +kernel) rfl ?_
  refine xe_iadd (by decide +kernel) rfl ?_
  obtain ⟨M103, e104, h⟩ := xbnd h
  refine xs_p (i := 658) (c := 15) (k := 64) (by decide +kernel) (by decide +kernel) (by decide +kernel) e104 rfl ?_
  refine xe_alr (ins := .aload_n 0) (len := 1) (i := 0) (by decide +kernel) rfl rfl rfl rfl rfl ?_
  obtain ⟨_, e106, h⟩ := xbnd h
  obtain ⟨M107, e105, h⟩ := xbnd h
  refine xs_cv (i := 884) (j := 296) (ar := []) (rest := []) (r2 := xr_296) (by decide +kernel) (by decide +kernel) (by decide +kernel) xr_296_e rfl (by decide) (by decide) e106 ?_
  refine xc_v (k296 (d := d + 145)   e105) rfl ?_
  refine xe_alr (ins := .aload_n 0) (len := 1) (i := 0) (by decide +kernel) rfl rfl rfl rfl rfl ?_
  refine xe_alr (ins := .aload_n 2) (len := 1) (i := 2) (by decide +kernel) rfl rfl rfl rfl rfl ?_
  obtain ⟨_, e110, h⟩ := xbnd h
  obtain ⟨M111, e109, h⟩ := xbnd h
  refine xs_cv (i := 887) (j := 346) (ar := [xR_ (x2)]) (rest := []) (r2 := xr_346) (by decide +kernel) (by decide +kernel) (by decide +kernel) xr_346_e rfl (by decide) (by decide) e110 ?_
  refine xc_v (k346 (d := d + 0)   e109) rfl ?_
  refine xe_ldn (ins := .iload_n 3) (len := 1) (by decide +kernel) rfl rfl rfl rfl ?_
  cases h
  exact xe_ret_i (ty := .int) (by decide +kernel) rfl rfl ⟨rfl, rfl, hx3⟩
def f314  (f : Nat) (a0 : Nat) (a1 : Int) (M : xj_M) : Option (Int × xj_M) := ((xq_pi 15 74 (a0) (0) M).bind fun M113 => ((xq_gr 15 61 (a0) M113).bind fun v115 => ((xq_gi 15 62 (a0) M113).bind fun v117 => ((xq_ar (v115) (v117) M113).bind fun v119 => ((xq_is 15 (a0) M113).bind fun _ => ((f310  f (a0) (v119) (a1) M113).bind fun R123 => (if ¬ (R123.1) = 0 then ((xq_gi 13 2 (v119) R123.2).bind fun v126 => ((xq_is 15 (a0) R123.2).bind fun _ => ((f312  f (a0) (v119) (a1) R123.2).bind fun M130 => ((xq_gi 15 62 (a0) M130).bind fun v132 => ((xq_is 15 (a0) M130).bind fun _ => ((f313  f (a0) (v132) (a1) M130).bind fun M136 => ((xq_gi 13 35 (v119) M136).bind fun v138 => (if (v138) = (-1) then f314_69   f (a0) (v119) (xwr ((v126) - (a1))) M136 else ((xq_gi 13 36 (v119) M136).bind fun v141 => (if (v141) ≤ (a1) then f314_69   f (a0) (v119) (xwr ((v126) - (a1))) M136 else ((xq_pi 13 35 (v119) (-1) M136).bind fun M144 => f314_69   f (a0) (v119) (xwr ((v126) - (a1))) M144))))))))))) else (some (-1, R123.2)))))))))
theorem k314 {d f : Nat}   {a0 : Nat} {a1 : Int} {M : xj_M} {R : Int × xj_M} (ha1 : xin a1) (h : f314  f a0 a1 M = some R) : xT (d + 259) 314 [xR_ a0, xI a1] M (xQi R) := by
  refine xT_m xr_314_e (X := (none, d + 258, none)) rfl (xa_1 (xR_cat _) (xa_1 (xI_cat _) xa_n)) (by decide) ?_
  unfold f314 at h
  refine xe_alr (ins := .aload_n 0) (len := 1) (i := 0) (by decide +kernel) rfl rfl rfl rfl rfl ?_
  refine xe_iconst (n := 0) (by decide +kernel) rfl ?_
  obtain ⟨M113, e114, h⟩ := xbnd h
  refine xs_p (i := 699) (c := 15) (k := 74) (by decide +kernel) (by decide +kernel) (by decide +kernel) e114 rfl ?_
  refine xe_alr (ins := .aload_n 0) (len := 1) (i := 0) (by decide +kernel) rfl rfl rfl rfl rfl ?_
  obtain ⟨v115, e116, h⟩ := xbnd h
  refine xs_gr (i := 667) (c := 15) (k := 61) (by decide +kernel) (by decide) (by decide +kernel) e116 rfl ?_
  refine xe_alr (ins := .aload_n 0) (len := 1) (i := 0) (by decide +kernel) rfl rfl rfl rfl rfl ?_
  obtain ⟨v117, e118, h⟩ := xbnd h
  refine xs_gi (i := 664) (c := 15) (k := 62) (by decide +kernel) (by decide) (by decide +kernel) e118 rfl ?_
  obtain ⟨v119, e120, h⟩ := xbnd h
  refine xs_aald (by decide +kernel) (xq_gi_in e118) e120 rfl ?_
  refine xe_asr (ins := .astore_n 2) (len := 1) (i := 2) (by decide +kernel) rfl rfl rfl (by decide) (xk_k (show ¬ (0 : Nat) = 2 by decide) (Or.inl (show ¬ (0 + 1 : Nat) = 2 by decide)) (xk_k (show ¬ (1 : Nat) = 2 by decide) (Or.inr (xI_cat _)) xk_n)) rfl ?_
  refine xe_alr (ins := .aload_n 0) (len := 1) (i := 0) (by decide +kernel) rfl rfl rfl rfl rfl ?_
  refine xe_alr (ins := .aload_n 2) (len := 1) (i := 2) (by decide +kernel) rfl rfl rfl rfl rfl ?_
  refine xe_ldn (ins := .iload_n 1) (len := 1) (by decide +kernel) rfl rfl rfl rfl ?_
  obtain ⟨_, e122, h⟩ := xbnd h
  obtain ⟨R123, e121, h⟩ := xbnd h
  refine xs_cv (i := 874) (j := 310) (ar := [xI (a1), xR_ (v119)]) (rest := []) (r2 := xr_310) (by decide +kernel) (by decide +kernel) (by decide +kernel) xr_310_e rfl (by decide) (by decide) e122 ?_
  refine xc_i (k310 (d := d + 257)  ha1 e121) rfl (fun hi124 => ?_)
  refine xe_ifne (off := 5) (t := 26) (by decide +kernel) (by decide) rfl hi124 (fun c125 => ?_) (fun c125 => ?_)
  · rw [if_pos c125] at h
    refine xe_alr (ins := .aload_n 2) (len := 1) (i := 2) (by decide +kernel) rfl rfl rfl rfl rfl ?_
    obtain ⟨v126, e127, h⟩ := xbnd h
    refine xs_gi (i := 740) (c := 13) (k := 2) (by decide +kernel) (by decide) (by decide +kernel) e127 rfl ?_
    refine xe_ldn (ins := .iload_n 1) (len := 1) (by decide +kernel) rfl rfl rfl rfl ?_
    refine xe_isub (by decide +kernel) rfl ?_
    refine xe_isr (ins := .istore_n 3) (len := 1) (i := 3) (by decide +kernel) rfl rfl rfl (by decide) (xk_k (show ¬ (2 : Nat) = 3 by decide) (Or.inr (xR_cat _)) (xk_k (show ¬ (0 : Nat) = 3 by decide) (Or.inl (show ¬ (0 + 1 : Nat) = 3 by decide)) (xk_k (show ¬ (1 : Nat) = 3 by decide) (Or.inl (show ¬ (1 + 1 : Nat) = 3 by decide)) xk_n))) rfl ?_
    refine xe_alr (ins := .aload_n 0) (len := 1) (i := 0) (by decide +kernel) rfl rfl rfl rfl rfl ?_
    refine xe_alr (ins := .aload_n 2) (len := 1) (i := 2) (by decide +kernel) rfl rfl rfl rfl rfl ?_
    refine xe_ldn (ins := .iload_n 1) (len := 1) (by decide +kernel) rfl rfl rfl rfl ?_
    obtain ⟨_, e129, h⟩ := xbnd h
    obtain ⟨M130, e128, h⟩ := xbnd h
    refine xs_cv (i := 878) (j := 312) (ar := [xI (a1), xR_ (v119)]) (rest := []) (r2 := xr_312) (by decide +kernel) (by decide +kernel) (by decide +kernel) xr_312_e rfl (by decide) (by decide) e129 ?_
    refine xc_v (k312 (d := d + 253)  ha1 e128) rfl ?_
    refine xe_alr (ins := .aload_n 0) (len := 1) (i := 0) (by decide +kernel) rfl rfl rfl rfl rfl ?_
    refine xe_alr (ins := .aload_n 0) (len := 1) (i := 0) (by decide +kernel) rfl rfl rfl rfl rfl ?_
    obtain ⟨v132, e133, h⟩ := xbnd h
    refine xs_gi (i := 664) (c := 15) (k := 62) (by decide +kernel) (by decide) (by decide +kernel) e133 rfl ?_
    refine xe_ldn (ins := .iload_n 1) (len := 1) (by decide +kernel) rfl rfl rfl rfl ?_
    obtain ⟨_, e135, h⟩ := xbnd h
    obtain ⟨M136, e134, h⟩ := xbnd h
    refine xs_cv (i := 881) (j := 313) (ar := [xI (a1), xI (v132)]) (rest := []) (r2 := xr_313) (by decide +kernel) (by decide +kernel) (by decide +kernel) xr_313_e rfl (by decide) (by decide) e135 ?_
    refine xc_v (k313 (d := d + 257)  (xq_gi_in e133) ha1 e134) rfl ?_
    refine xe_alr (ins := .aload_n 2) (len := 1) (i := 2) (by decide +kernel) rfl rfl rfl rfl rfl ?_
    obtain ⟨v138, e139, h⟩ := xbnd h
    refine xs_gi (i := 868) (c := 13) (k := 35) (by decide +kernel) (by decide) (by decide +kernel) e139 rfl ?_
    refine xe_iconst (n := -1) (by decide +kernel) rfl ?_
    refine xe_icmpeq (off := 16) (t := 69) (by decide +kernel) (by decide) rfl (xq_gi_in e139) (show xin (-1) by decide) (fun c140 => ?_) (fun c140 => ?_)
    · rw [if_pos c140] at h
      refine xW_lv rfl (l := [(0, xR_ (a0)), (2, xR_ (v119)), (3, xI (xwr ((v126) - (a1))))]) (xsb_of ⟨rfl, rfl, rfl, trivial⟩ (show [3, 2, 0, 1].Nodup by decide)) ?_
      exact k314_69   (xin_wr _) h
    · rw [if_neg c140] at h
      refine xe_ldn (ins := .iload_n 1) (len := 1) (by decide +kernel) rfl rfl rfl rfl ?_
      refine xe_alr (ins := .aload_n 2) (len := 1) (i := 2) (by decide +kernel) rfl rfl rfl rfl rfl ?_
      obtain ⟨v141, e142, h⟩ := xbnd h
      refine xs_gi (i := 871) (c := 13) (k := 36) (by decide +kernel) (by decide) (by decide +kernel) e142 rfl ?_
      refine xe_icmpge (off := 8) (t := 69) (by decide +kernel) (by decide) rfl ha1 (xq_gi_in e142) (fun c143 => ?_) (fun c143 => ?_)
      · rw [if_pos c143] at h
        refine xW_lv rfl (l := [(0, xR_ (a0)), (2, xR_ (v119)), (3, xI (xwr ((v126) - (a1))))]) (xsb_of ⟨rfl, rfl, rfl, trivial⟩ (show [3, 2, 0, 1].Nodup by decide)) ?_
        exact k314_69   (xin_wr _) h
      · rw [if_neg c143] at h
        refine xe_alr (ins := .aload_n 2) (len := 1) (i := 2) (by decide +kernel) rfl rfl rfl rfl rfl ?_
        refine xe_iconst (n := -1) (by decide +kernel) rfl ?_
        obtain ⟨M144, e145, h⟩ := xbnd h
        refine xs_p (i := 868) (c := 13) (k := 35) (by decide +kernel) (by decide +kernel) (by decide +kernel) e145 rfl ?_
        refine xW_lv rfl (l := [(0, xR_ (a0)), (2, xR_ (v119)), (3, xI (xwr ((v126) - (a1))))]) (xsb_of ⟨rfl, rfl, rfl, trivial⟩ (show [3, 2, 0, 1].Nodup by decide)) ?_
        exact k314_69   (xin_wr _) h
  · rw [if_neg c125] at h
    refine xe_iconst (n := -1) (by decide +kernel) rfl ?_
    cases h
    exact xe_ret_i (ty := .int) (by decide +kernel) rfl rfl ⟨rfl, rfl, (show xin (-1) by decide)⟩
-- ChangeHouseModel.branch
def xr_315 : xj_mR := (15, yX15_branch, cX15_branch, 6, (Option.some Jvm.ClassFile.FieldType.int), 2, false, (10, 205), (1, 12))
set_option maxRecDepth 20000 in
theorem xr_315_e : xj_row 315 = some xr_315 := rfl
def f315_41   (f : Nat)  (M : xj_M) : Option (Int × xj_M) := (some (-1, M))
theorem k315_41 {d f : Nat}      {M : xj_M} {R : Int × xj_M}  (h : f315_41   f  M = some R) : xW (d + 258) (none, d + 258, none) xr_315 (41, [], [], M) (xQi R) := by
  unfold f315_41 at h
  refine xe_iconst (n := -1) (by decide +kernel) rfl ?_
  cases h
  exact xe_ret_i (ty := .int) (by decide +kernel) rfl rfl ⟨rfl, rfl, (show xin (-1) by decide)⟩
def f315_92b  (r92 : Nat → Int → Int → Nat → Int → xj_M → Option (Int × xj_M)) (f : Nat) (x0 : Nat) (x1 : Int) (x2 : Int) (x4 : Nat) (x5 : Int) (M : xj_M) : Option (Int × xj_M) := (if (72) ≤ (x5) then ((xq_is 15 (x0) M).bind fun _ => ((f313  f (x0) (x1) (-1) M).bind fun M104 => ((xq_gi 15 62 (x0) M104).bind fun v106 => ((xq_pi 13 35 (x4) (v106) M104).bind fun M108 => ((xq_pi 13 36 (x4) (x2) M108).bind fun M110 => ((xq_gi 15 64 (x0) M110).bind fun v112 => ((xq_pi 15 64 (x0) (xwr ((v112) + (1))) M110).bind fun M114 => ((xq_gi 15 62 (x0) M114).bind fun v116 => ((xq_pi 15 62 (x0) (x1) M114).bind fun M118 => ((xq_is 15 (x0) M118).bind fun _ => ((f296  f (x0) M118).bind fun M122 => ((xq_is 15 (x0) M122).bind fun _ => ((f346  f (x0) (x4) M122).bind fun M126 => ((xq_pi 15 62 (x0) (v116) M126).bind fun M128 => (some (x2, M128)))))))))))))))) else ((xq_gr 13 19 (x4) M).bind fun v130 => ((xq_si (v130) (x5) (0) M).bind fun M132 => r92 (x0) (x1) (x2) (x4) (xwr ((x5) + (1))) M132)))
theorem k315_92b {d f : Nat}  {r92 : Nat → Int → Int → Nat → Int → xj_M → Option (Int × xj_M)}  (hr92 : ∀ {x0 : Nat} {x1 : Int} {x2 : Int} {x4 : Nat} {x5 : Int} {M : xj_M} {R : Int × xj_M}, xin x1 → xin x2 → xin x5 → r92 x0 x1 x2 x4 x5 M = some R → xW (d + 258) (none, d + 258, none) xr_315 (92, [(0, xR_ x0), (1, xI x1), (2, xI x2), (4, xR_ x4), (5, xI x5)], [], M) (xQi R)) {x0 : Nat} {x1 : Int} {x2 : Int} {x4 : Nat} {x5 : Int} {M : xj_M} {R : Int × xj_M} (hx1 : xin x1) (hx2 : xin x2) (hx5 : xin x5) (h : f315_92b  r92 f x0 x1 x2 x4 x5 M = some R) : xW (d + 258) (none, d + 258, none) xr_315 (92, [(0, xR_ x0), (1, xI x1), (2, xI x2), (4, xR_ x4), (5, xI x5)], [], M) (xQi R) := by
  unfold f315_92b at h
  refine xe_ldn (ins := .iload 5) (len := 2) (by decide +kernel) rfl rfl rfl rfl ?_
  refine xe_bipush (n := 72) (by decide +kernel) (by decide) rfl ?_
  refine xe_icmpge (off := 18) (t := 114) (by decide +kernel) (by decide) rfl hx5 (show xin (72) by decide) (fun c101 => ?_) (fun c101 => ?_)
  · rw [if_pos c101] at h
    refine xe_alr (ins := .aload_n 0) (len := 1) (i := 0) (by decide +kernel) rfl rfl rfl rfl rfl ?_
    refine xe_ldn (ins := .iload_n 1) (len := 1) (by decide +kernel) rfl rfl rfl rfl ?_
    refine xe_iconst (n := -1) (by decide +kernel) rfl ?_
    obtain ⟨_, e103, h⟩ := xbnd h
    obtain ⟨M104, e102, h⟩ := xbnd h
    refine xs_cv (i := 881) (j := 313) (ar := [xI (-1), xI (x1)]) (rest := []) (r2 := xr_313) (by decide +kernel) (by decide +kernel) (by decide +kernel) xr_313_e rfl (by decide) (by decide) e103 ?_
    refine xc_v (k313 (d := d + 257)  hx1 (show xin (-1) by decide) e102) rfl ?_
    refine xe_alr (ins := .aload 4) (len := 2) (i := 4) (by decide +kernel) rfl rfl rfl rfl rfl ?_
    refine xe_alr (ins := .aload_n 0) (len := 1) (i := 0) (by decide +kernel) rfl rfl rfl rfl rfl ?_
    obtain ⟨v106, e107, h⟩ := xbnd h
    refine xs_gi (i := 664) (c := 15) (k := 62) (by decide +kernel) (by decide) (by decide +kernel) e107 rfl ?_
    obtain ⟨M108, e109, h⟩ := xbnd h
    refine xs_p (i := 868) (c := 13) (k := 35) (by decide +kernel) (by decide +kernel) (by decide +kernel) e109 rfl ?_
    refine xe_alr (ins := .aload 4) (len := 2) (i := 4) (by decide +kernel) rfl rfl rfl rfl rfl ?_
    refine xe_ldn (ins := .iload_n 2) (len := 1) (by decide +kernel) rfl rfl rfl rfl ?_
    obtain ⟨M110, e111, h⟩ := xbnd h
    refine xs_p (i := 871) (c := 13) (k := 36) (by decide +kernel) (by decide +kernel) (by decide +kernel) e111 rfl ?_
    refine xe_alr (ins := .aload_n 0) (len := 1) (i := 0) (by decide +kernel) rfl rfl rfl rfl rfl ?_
    refine xe_dupr (by decide +kernel) rfl ?_
    obtain ⟨v112, e113, h⟩ := xbnd h
    refine xs_gi (i := 658) (c := 15) (k := 64) (by decide +kernel) (by decide) (by decide +kernel) e113 rfl ?_
    refine xe_iconst (n := 1) (by decide +kernel) rfl ?_
    refine xe_iadd (by decide +kernel) rfl ?_
    obtain ⟨M114, e115, h⟩ := xbnd h
    refine xs_p (i := 658) (c := 15) (k := 64) (by decide +kernel) (by decide +kernel) (by decide +kernel) e115 rfl ?_
    refine xe_alr (ins := .aload_n 0) (len := 1) (i := 0) (by decide +kernel) rfl rfl rfl rfl rfl ?_
    obtain ⟨v116, e117, h⟩ := xbnd h
    refine xs_gi (i := 664) (c := 15) (k := 62) (by decide +kernel) (by decide) (by decide +kernel) e117 rfl ?_
    refine xe_isr (ins := .istore 5) (len := 2) (i := 5) (by decide +kernel) rfl rfl rfl (by decide) (xk_k (show ¬ (0 : Nat) = 5 by decide) (Or.inl (show ¬ (0 + 1 : Nat) = 5 by decide)) (xk_k (show ¬ (1 : Nat) = 5 by decide) (Or.inl (show ¬ (1 + 1 : Nat) = 5 by decide)) (xk_k (show ¬ (2 : Nat) = 5 by decide) (Or.inl (show ¬ (2 + 1 : Nat) = 5 by decide)) (xk_k (show ¬ (4 : Nat) = 5 by decide) (Or.inr (xR_cat _)) (xk_d rfl xk_n))))) rfl ?_
    refine xe_alr (ins := .aload_n 0) (len := 1) (i := 0) (by decide +kernel) rfl rfl rfl rfl rfl ?_
    refine xe_ldn (ins := .iload_n 1) (len := 1) (by decide +kernel) rfl rfl rfl rfl ?_
    obtain ⟨M118, e119, h⟩ := xbnd h
    refine xs_p (i := 664) (c := 15) (k := 62) (by decide +kernel) (by decide +kernel) (by decide +kernel) e119 rfl ?_
    refine xe_alr (ins := .aload_n 0) (len := 1) (i := 0) (by decide +kernel) rfl rfl rfl rfl rfl ?_
    obtain ⟨_, e121, h⟩ := xbnd h
    obtain ⟨M122, e120, h⟩ := xbnd h
    refine xs_cv (i := 884) (j := 296) (ar := []) (rest := []) (r2 := xr_296) (by decide +kernel) (by decide +kernel) (by decide +kernel) xr_296_e rfl (by decide) (by decide) e121 ?_
    refine xc_v (k296 (d := d + 145)   e120) rfl ?_
    refine xe_alr (ins := .aload_n 0) (len := 1) (i := 0) (by decide +kernel) rfl rfl rfl rfl rfl ?_
    refine xe_alr (ins := .aload 4) (len := 2) (i := 4) (by decide +kernel) rfl rfl rfl rfl rfl ?_
    obtain ⟨_, e125, h⟩ := xbnd h
    obtain ⟨M126, e124, h⟩ := xbnd h
    refine xs_cv (i := 887) (j := 346) (ar := [xR_ (x4)]) (rest := []) (r2 := xr_346) (by decide +kernel) (by decide +kernel) (by decide +kernel) xr_346_e rfl (by decide) (by decide) e125 ?_
    refine xc_v (k346 (d := d + 0)   e124) rfl ?_
    refine xe_alr (ins := .aload_n 0) (len := 1) (i := 0) (by decide +kernel) rfl rfl rfl rfl rfl ?_
    refine xe_ldn (ins := .iload 5) (len := 2) (by decide +kernel) rfl rfl rfl rfl ?_
    obtain ⟨M128, e129, h⟩ := xbnd h
    refine xs_p (i := 664) (c := 15) (k := 62) (by decide +kernel) (by decide +kernel) (by decide +kernel) e129 rfl ?_
    refine xe_ldn (ins := .iload_n 2) (len := 1) (by decide +kernel) rfl rfl rfl rfl ?_
    cases h
    exact xe_ret_i (ty := .int) (by decide +kernel) rfl rfl ⟨rfl, rfl, hx2⟩
  · rw [if_neg c101] at h
    refine xe_alr (ins := .aload 4) (len := 2) (i := 4) (by decide +kernel) rfl rfl rfl rfl rfl ?_
    obtain ⟨v130, e131, h⟩ := xbnd h
    refine xs_gr (i := 894) (c := 13) (k := 19) (by decide +kernel) (by decide) (by decide +kernel) e131 rfl ?_
    refine xe_ldn (ins := .iload 5) (len := 2) (by decide +kernel) rfl rfl rfl rfl ?_
    refine xe_iconst (n := 0) (by decide +kernel) rfl ?_
    obtain ⟨M132, e133, h⟩ := xbnd h
    refine xs_iast (by decide +kernel) hx5 e133 rfl ?_
    refine xe_iincr (i := 5) (n := 1) (by decide +kernel) (by decide) rfl (xk_k (show ¬ (0 : Nat) = 5 by decide) (Or.inl (show ¬ (0 + 1 : Nat) = 5 by decide)) (xk_k (show ¬ (1 : Nat) = 5 by decide) (Or.inl (show ¬ (1 + 1 : Nat) = 5 by decide)) (xk_k (show ¬ (2 : Nat) = 5 by decide) (Or.inl (show ¬ (2 + 1 : Nat) = 5 by decide)) (xk_k (show ¬ (4 : Nat) = 5 by decide) (Or.inr (xR_cat _)) (xk_d rfl xk_n))))) rfl ?_
    refine xe_goto (off := -19) (nx := 92) (by decide +kernel) (by decide) ?_
    refine xW_lv rfl (l := [(0, xR_ (x0)), (1, xI (x1)), (2, xI (x2)), (4, xR_ (x4)), (5, xI (xwr ((x5) + (1))))]) (xsb_of ⟨rfl, rfl, rfl, rfl, rfl, trivial⟩ (show [5, 0, 1, 2, 4].Nodup by decide)) ?_
    exact hr92 hx1 hx2 (xin_wr _) h
def f315_92   (f : Nat) : Nat → Nat → Int → Int → Nat → Int → xj_M → Option (Int × xj_M)
  | 0, _, _, _, _, _, _ => none
  | n + 1, x0, x1, x2, x4, x5, M => f315_92b   (f315_92   f n) f x0 x1 x2 x4 x5 M
theorem k315_92 {d f : Nat}     : ∀ {n : Nat} {x0 : Nat} {x1 : Int} {x2 : Int} {x4 : Nat} {x5 : Int} {M : xj_M} {R : Int × xj_M}, xin x1 → xin x2 → xin x5 → f315_92   f n x0 x1 x2 x4 x5 M = some R → xW (d + 258) (none, d + 258, none) xr_315 (92, [(0, xR_ x0), (1, xI x1), (2, xI x2), (4, xR_ x4), (5, xI x5)], [], M) (xQi R) := by
  intro n
  induction n with
  | zero => intros; rename_i h; cases h
  | succ n ih => intros; rename_i h; exact k315_92b   ih (by assumption) (by assumption) (by assumption) h
def f315_67b  (r67 : Nat → Int → Int → Nat → Int → xj_M → Option (Int × xj_M)) (f : Nat) (x0 : Nat) (x1 : Int) (x2 : Int) (x4 : Nat) (x5 : Int) (M : xj_M) : Option (Int × xj_M) := (if (16) ≤ (x5) then f315_92   f f (x0) (x1) (x2) (x4) (0) M else ((xq_gr 13 21 (x4) M).bind fun v135 => ((xq_si (v135) (x5) (0) M).bind fun M137 => r67 (x0) (x1) (x2) (x4) (xwr ((x5) + (1))) M137)))
theorem k315_67b {d f : Nat}  {r67 : Nat → Int → Int → Nat → Int → xj_M → Option (Int × xj_M)}  (hr67 : ∀ {x0 : Nat} {x1 : Int} {x2 : Int} {x4 : Nat} {x5 : Int} {M : xj_M} {R : Int × xj_M}, xin x1 → xin x2 → xin x5 → r67 x0 x1 x2 x4 x5 M = some R → xW (d + 258) (none, d + 258, none) xr_315 (67, [(0, xR_ x0), (1, xI x1), (2, xI x2), (4, xR_ x4), (5, xI x5)], [], M) (xQi R)) {x0 : Nat} {x1 : Int} {x2 : Int} {x4 : Nat} {x5 : Int} {M : xj_M} {R : Int × xj_M} (hx1 : xin x1) (hx2 : xin x2) (hx5 : xin x5) (h : f315_67b  r67 f x0 x1 x2 x4 x5 M = some R) : xW (d + 258) (none, d + 258, none) xr_315 (67, [(0, xR_ x0), (1, xI x1), (2, xI x2), (4, xR_ x4), (5, xI x5)], [], M) (xQi R) := by
  unfold f315_67b at h
  refine xe_ldn (ins := .iload 5) (len := 2) (by decide +kernel) rfl rfl rfl rfl ?_
  refine xe_bipush (n := 16) (by decide +kernel) (by decide) rfl ?_
  refine xe_icmpge (off := 18) (t := 89) (by decide +kernel) (by decide) rfl hx5 (show xin (16) by decide) (fun c134 => ?_) (fun c134 => ?_)
  · rw [if_pos c134] at h
    refine xe_iconst (n := 0) (by decide +kernel) rfl ?_
    refine xe_isr (ins := .istore 5) (len := 2) (i := 5) (by decide +kernel) rfl rfl rfl (by decide) (xk_k (show ¬ (0 : Nat) = 5 by decide) (Or.inl (show ¬ (0 + 1 : Nat) = 5 by decide)) (xk_k (show ¬ (1 : Nat) = 5 by decide) (Or.inl (show ¬ (1 + 1 : Nat) = 5 by decide)) (xk_k (show ¬ (2 : Nat) = 5 by decide) (Or.inl (show ¬ (2 + 1 : Nat) = 5 by decide)) (xk_k (show ¬ (4 : Nat) = 5 by decide) (Or.inr (xR_cat _)) (xk_d rfl xk_n))))) rfl ?_
    refine xW_lv rfl (l := [(0, xR_ (x0)), (1, xI (x1)), (2, xI (x2)), (4, xR_ (x4)), (5, xI (0))]) (xsb_of ⟨rfl, rfl, rfl, rfl, rfl, trivial⟩ (show [5, 0, 1, 2, 4].Nodup by decide)) ?_
    exact k315_92   hx1 hx2 (show xin (0) by decide) h
  · rw [if_neg c134] at h
    refine xe_alr (ins := .aload 4) (len := 2) (i := 4) (by decide +kernel) rfl rfl rfl rfl rfl ?_
    obtain ⟨v135, e136, h⟩ := xbnd h
    refine xs_gr (i := 749) (c := 13) (k := 21) (by decide +kernel) (by decide) (by decide +kernel) e136 rfl ?_
    refine xe_ldn (ins := .iload 5) (len := 2) (by decide +kernel) rfl rfl rfl rfl ?_
    refine xe_iconst (n := 0) (by decide +kernel) rfl ?_
    obtain ⟨M137, e138, h⟩ := xbnd h
    refine xs_iast (by decide +kernel) hx5 e138 rfl ?_
    refine xe_iincr (i := 5) (n := 1) (by decide +kernel) (by decide) rfl (xk_k (show ¬ (0 : Nat) = 5 by decide) (Or.inl (show ¬ (0 + 1 : Nat) = 5 by decide)) (xk_k (show ¬ (1 : Nat) = 5 by decide) (Or.inl (show ¬ (1 + 1 : Nat) = 5 by decide)) (xk_k (show ¬ (2 : Nat) = 5 by decide) (Or.inl (show ¬ (2 + 1 : Nat) = 5 by decide)) (xk_k (show ¬ (4 : Nat) = 5 by decide) (Or.inr (xR_cat _)) (xk_d rfl xk_n))))) rfl ?_
    refine xe_goto (off := -19) (nx := 67) (by decide +kernel) (by decide) ?_
    refine xW_lv rfl (l := [(0, xR_ (x0)), (1, xI (x1)), (2, xI (x2)), (4, xR_ (x4)), (5, xI (xwr ((x5) + (1))))]) (xsb_of ⟨rfl, rfl, rfl, rfl, rfl, trivial⟩ (show [5, 0, 1, 2, 4].Nodup by decide)) ?_
    exact hr67 hx1 hx2 (xin_wr _) h
def f315_67   (f : Nat) : Nat → Nat → Int → Int → Nat → Int → xj_M → Option (Int × xj_M)
  | 0, _, _, _, _, _, _ => none
  | n + 1, x0, x1, x2, x4, x5, M => f315_67b   (f315_67   f n) f x0 x1 x2 x4 x5 M
theorem k315_67 {d f : Nat}     : ∀ {n : Nat} {x0 : Nat} {x1 : Int} {x2 : Int} {x4 : Nat} {x5 : Int} {M : xj_M} {R : Int × xj_M}, xin x1 → xin x2 → xin x5 → f315_67   f n x0 x1 x2 x4 x5 M = some R → xW (d + 258) (none, d + 258, none) xr_315 (67, [(0, xR_ x0), (1, xI x1), (2, xI x2), (4, xR_ x4), (5, xI x5)], [], M) (xQi R) := by
  intro n
  induction n with
  | zero => intros; rename_i h; cases h
  | succ n ih => intros; rename_i h; exact k315_67b   ih (by assumption) (by assumption) (by assumption) h
def f315  (f : Nat) (a0 : Nat) (a1 : Int) (a2 : Int) (M : xj_M) : Option (Int × xj_M) := ((xq_pi 15 74 (a0) (0) M).bind fun M139 => ((xq_gr 15 61 (a0) M139).bind fun v141 => ((xq_gi 15 62 (a0) M139).bind fun v143 => ((xq_ar (v141) (v143) M139).bind fun v145 => (if (a1) < 0 then f315_41   f  M139 else (if (4) ≤ (a1) then f315_41   f  M139 else ((xq_gi 15 62 (a0) M139).bind fun v149 => (if (a1) = (v149) then f315_41   f  M139 else ((xq_is 15 (a0) M139).bind fun _ => ((f310  f (a0) (v145) (a2) M139).bind fun R154 => (if ¬ (R154.1) = 0 then ((xq_gr 15 61 (a0) R154.2).bind fun v157 => ((xq_ar (v157) (a1) R154.2).bind fun v159 => ((f316  f (v145) (v159) R154.2).bind fun M162 => ((xq_is 15 (a0) M162).bind fun _ => ((f312  f (a0) (v159) (a2) M162).bind fun M166 => f315_67   f f (a0) (a1) (a2) (v159) (0) M166))))) else f315_41   f  R154.2)))))))))))
theorem k315 {d f : Nat}   {a0 : Nat} {a1 : Int} {a2 : Int} {M : xj_M} {R : Int × xj_M} (ha1 : xin a1) (ha2 : xin a2) (h : f315  f a0 a1 a2 M = some R) : xT (d + 259) 315 [xR_ a0, xI a1, xI a2] M (xQi R) := by
  refine xT_m xr_315_e (X := (none, d + 258, none)) rfl (xa_1 (xR_cat _) (xa_1 (xI_cat _) (xa_1 (xI_cat _) xa_n))) (by decide) ?_
  unfold f315 at h
  refine xe_alr (ins := .aload_n 0) (len := 1) (i := 0) (by decide +kernel) rfl rfl rfl rfl rfl ?_
  refine xe_iconst (n := 0) (by decide +kernel) rfl ?_
  obtain ⟨M139, e140, h⟩ := xbnd h
  refine xs_p (i := 699) (c := 15) (k := 74) (by decide +kernel) (by decide +kernel) (by decide +kernel) e140 rfl ?_
  refine xe_alr (ins := .aload_n 0) (len := 1) (i := 0) (by decide +kernel) rfl rfl rfl rfl rfl ?_
  obtain ⟨v141, e142, h⟩ := xbnd h
  refine xs_gr (i := 667) (c := 15) (k := 61) (by decide +kernel) (by decide) (by decide +kernel) e142 rfl ?_
  refine xe_alr (ins := .aload_n 0) (len := 1) (i := 0) (by decide +kernel) rfl rfl rfl rfl rfl ?_
  obtain ⟨v143, e144, h⟩ := xbnd h
  refine xs_gi (i := 664) (c := 15) (k := 62) (by decide +kernel) (by decide) (by decide +kernel) e144 rfl ?_
  obtain ⟨v145, e146, h⟩ := xbnd h
  refine xs_aald (by decide +kernel) (xq_gi_in e144) e146 rfl ?_
  refine xe_asr (ins := .astore_n 3) (len := 1) (i := 3) (by decide +kernel) rfl rfl rfl (by decide) (xk_k (show ¬ (0 : Nat) = 3 by decide) (Or.inl (show ¬ (0 + 1 : Nat) = 3 by decide)) (xk_k (show ¬ (1 : Nat) = 3 by decide) (Or.inl (show ¬ (1 + 1 : Nat) = 3 by decide)) (xk_k (show ¬ (2 : Nat) = 3 by decide) (Or.inr (xI_cat _)) xk_n))) rfl ?_
  refine xe_ldn (ins := .iload_n 1) (len := 1) (by decide +kernel) rfl rfl rfl rfl ?_
  refine xe_iflt (off := 25) (t := 41) (by decide +kernel) (by decide) rfl ha1 (fun c147 => ?_) (fun c147 => ?_)
  · rw [if_pos c147] at h
    refine xW_lv rfl (l := []) (xsb_of trivial (show [3, 0, 1, 2].Nodup by decide)) ?_
    exact k315_41    h
  · rw [if_neg c147] at h
    refine xe_ldn (ins := .iload_n 1) (len := 1) (by decide +kernel) rfl rfl rfl rfl ?_
    refine xe_iconst (n := 4) (by decide +kernel) rfl ?_
    refine xe_icmpge (off := 20) (t := 41) (by decide +kernel) (by decide) rfl ha1 (show xin (4) by decide) (fun c148 => ?_) (fun c148 => ?_)
    · rw [if_pos c148] at h
      refine xW_lv rfl (l := []) (xsb_of trivial (show [3, 0, 1, 2].Nodup by decide)) ?_
      exact k315_41    h
    · rw [if_neg c148] at h
      refine xe_ldn (ins := .iload_n 1) (len := 1) (by decide +kernel) rfl rfl rfl rfl ?_
      refine xe_alr (ins := .aload_n 0) (len := 1) (i := 0) (by decide +kernel) rfl rfl rfl rfl rfl ?_
      obtain ⟨v149, e150, h⟩ := xbnd h
      refine xs_gi (i := 664) (c := 15) (k := 62) (by decide +kernel) (by decide) (by decide +kernel) e150 rfl ?_
      refine xe_icmpeq (off := 12) (t := 41) (by decide +kernel) (by decide) rfl ha1 (xq_gi_in e150) (fun c151 => ?_) (fun c151 => ?_)
      · rw [if_pos c151] at h
        refine xW_lv rfl (l := []) (xsb_of trivial (show [3, 0, 1, 2].Nodup by decide)) ?_
        exact k315_41    h
      · rw [if_neg c151] at h
        refine xe_alr (ins := .aload_n 0) (len := 1) (i := 0) (by decide +kernel) rfl rfl rfl rfl rfl ?_
        refine xe_alr (ins := .aload_n 3) (len := 1) (i := 3) (by decide +kernel) rfl rfl rfl rfl rfl ?_
        refine xe_ldn (ins := .iload_n 2) (len := 1) (by decide +kernel) rfl rfl rfl rfl ?_
        obtain ⟨_, e153, h⟩ := xbnd h
        obtain ⟨R154, e152, h⟩ := xbnd h
        refine xs_cv (i := 874) (j := 310) (ar := [xI (a2), xR_ (v145)]) (rest := []) (r2 := xr_310) (by decide +kernel) (by decide +kernel) (by decide +kernel) xr_310_e rfl (by decide) (by decide) e153 ?_
        refine xc_i (k310 (d := d + 257)  ha2 e152) rfl (fun hi155 => ?_)
        refine xe_ifne (off := 5) (t := 43) (by decide +kernel) (by decide) rfl hi155 (fun c156 => ?_) (fun c156 => ?_)
        · rw [if_pos c156] at h
          refine xe_alr (ins := .aload_n 0) (len := 1) (i := 0) (by decide +kernel) rfl rfl rfl rfl rfl ?_
          obtain ⟨v157, e158, h⟩ := xbnd h
          refine xs_gr (i := 667) (c := 15) (k := 61) (by decide +kernel) (by decide) (by decide +kernel) e158 rfl ?_
          refine xe_ldn (ins := .iload_n 1) (len := 1) (by decide +kernel) rfl rfl rfl rfl ?_
          obtain ⟨v159, e160, h⟩ := xbnd h
          refine xs_aald (by decide +kernel) ha1 e160 rfl ?_
          refine xe_asr (ins := .astore 4) (len := 2) (i := 4) (by decide +kernel) rfl rfl rfl (by decide) (xk_k (show ¬ (3 : Nat) = 4 by decide) (Or.inr (xR_cat _)) (xk_k (show ¬ (0 : Nat) = 4 by decide) (Or.inl (show ¬ (0 + 1 : Nat) = 4 by decide)) (xk_k (show ¬ (1 : Nat) = 4 by decide) (Or.inl (show ¬ (1 + 1 : Nat) = 4 by decide)) (xk_k (show ¬ (2 : Nat) = 4 by decide) (Or.inl (show ¬ (2 + 1 : Nat) = 4 by decide)) xk_n)))) rfl ?_
          refine xe_alr (ins := .aload_n 3) (len := 1) (i := 3) (by decide +kernel) rfl rfl rfl rfl rfl ?_
          refine xe_alr (ins := .aload 4) (len := 2) (i := 4) (by decide +kernel) rfl rfl rfl rfl rfl ?_
          obtain ⟨M162, e161, h⟩ := xbnd h
          refine xs_cs (kd := 2) (by decide) (i := 890) (j := 316) (ar := [xR_ (v159), xR_ (v145)]) (rest := []) (r2 := xr_316) (by decide +kernel) (by decide +kernel) (by decide +kernel) xr_316_e rfl (by decide) ?_
          refine xc_v (k316 (d := d + 256)   e161) rfl ?_
          refine xe_alr (ins := .aload_n 0) (len := 1) (i := 0) (by decide +kernel) rfl rfl rfl rfl rfl ?_
          refine xe_alr (ins := .aload 4) (len := 2) (i := 4) (by decide +kernel) rfl rfl rfl rfl rfl ?_
          refine xe_ldn (ins := .iload_n 2) (len := 1) (by decide +kernel) rfl rfl rfl rfl ?_
          obtain ⟨_, e165, h⟩ := xbnd h
          obtain ⟨M166, e164, h⟩ := xbnd h
          refine xs_cv (i := 878) (j := 312) (ar := [xI (a2), xR_ (v159)]) (rest := []) (r2 := xr_312) (by decide +kernel) (by decide +kernel) (by decide +kernel) xr_312_e rfl (by decide) (by decide) e165 ?_
          refine xc_v (k312 (d := d + 253)  ha2 e164) rfl ?_
          refine xe_iconst (n := 0) (by decide +kernel) rfl ?_
          refine xe_isr (ins := .istore 5) (len := 2) (i := 5) (by decide +kernel) rfl rfl rfl (by decide) (xk_k (show ¬ (4 : Nat) = 5 by decide) (Or.inr (xR_cat _)) (xk_k (show ¬ (3 : Nat) = 5 by decide) (Or.inl (show ¬ (3 + 1 : Nat) = 5 by decide)) (xk_k (show ¬ (0 : Nat) = 5 by decide) (Or.inl (show ¬ (0 + 1 : Nat) = 5 by decide)) (xk_k (show ¬ (1 : Nat) = 5 by decide) (Or.inl (show ¬ (1 + 1 : Nat) = 5 by decide)) (xk_k (show ¬ (2 : Nat) = 5 by decide) (Or.inl (show ¬ (2 + 1 : Nat) = 5 by decide)) xk_n))))) rfl ?_
          refine xW_lv rfl (l := [(0, xR_ (a0)), (1, xI (a1)), (2, xI (a2)), (4, xR_ (v159)), (5, xI (0))]) (xsb_of ⟨rfl, rfl, rfl, rfl, rfl, trivial⟩ (show [5, 4, 3, 0, 1, 2].Nodup by decide)) ?_
          exact k315_67   ha1 ha2 (show xin (0) by decide) h
        · rw [if_neg c156] at h
          refine xW_lv rfl (l := []) (xsb_of trivial (show [3, 0, 1, 2].Nodup by decide)) ?_
          exact k315_41    h
-- ChangeHouseModel.past
def xr_318 : xj_mR := (15, yX15_past, cX15_past, 6, (Option.some Jvm.ClassFile.FieldType.int), 2, false, (10, 216), (1, 12))
set_option maxRecDepth 20000 in
theorem xr_318_e : xj_row 318 = some xr_318 := rfl
def f318_55   (f : Nat)  (M : xj_M) : Option (Int × xj_M) := (some (-1, M))
theorem k318_55 {d f : Nat}      {M : xj_M} {R : Int × xj_M}  (h : f318_55   f  M = some R) : xW (d + 112) (none, d + 112, none) xr_318 (55, [], [], M) (xQi R) := by
  unfold f318_55 at h
  refine xe_iconst (n := -1) (by decide +kernel) rfl ?_
  cases h
  exact xe_ret_i (ty := .int) (by decide +kernel) rfl rfl ⟨rfl, rfl, (show xin (-1) by decide)⟩
def f318_92  (r63 : Nat → Int → Int → Int → xj_M → Option (Int × xj_M)) (f : Nat) (x0 : Nat) (x2 : Int) (x5 : Int) (y0 : Int) (y1 : Int) (M : xj_M) : Option (Int × xj_M) := r63 (x0) (x2) (xwr ((y1) + (y0))) (xwr ((x5) + (1))) M
theorem k318_92 {d f : Nat}  {r63 : Nat → Int → Int → Int → xj_M → Option (Int × xj_M)}  (hr63 : ∀ {x0 : Nat} {x2 : Int} {x4 : Int} {x5 : Int} {M : xj_M} {R : Int × xj_M}, xin x2 → xin x4 → xin x5 → r63 x0 x2 x4 x5 M = some R → xW (d + 112) (none, d + 112, none) xr_318 (63, [(0, xR_ x0), (2, xI x2), (4, xI x4), (5, xI x5)], [], M) (xQi R)) {x0 : Nat} {x2 : Int} {x5 : Int} {y0 : Int} {y1 : Int} {M : xj_M} {R : Int × xj_M} (hx2 : xin x2) (hx5 : xin x5) (hy0 : xin y0) (hy1 : xin y1) (h : f318_92  r63 f x0 x2 x5 y0 y1 M = some R) : xW (d + 112) (none, d + 112, none) xr_318 (92, [(0, xR_ x0), (2, xI x2), (5, xI x5)], [xI y0, xI y1], M) (xQi R) := by
  unfold f318_92 at h
  refine xe_iadd (by decide +kernel) rfl ?_
  refine xe_isr (ins := .istore 4) (len := 2) (i := 4) (by decide +kernel) rfl rfl rfl (by decide) (xk_k (show ¬ (0 : Nat) = 4 by decide) (Or.inl (show ¬ (0 + 1 : Nat) = 4 by decide)) (xk_k (show ¬ (2 : Nat) = 4 by decide) (Or.inl (show ¬ (2 + 1 : Nat) = 4 by decide)) (xk_k (show ¬ (5 : Nat) = 4 by decide) (Or.inl (show ¬ (5 + 1 : Nat) = 4 by decide)) xk_n))) rfl ?_
  refine xe_iincr (i := 5) (n := 1) (by decide +kernel) (by decide) rfl (xk_k (show ¬ (4 : Nat) = 5 by decide) (Or.inr (xI_cat _)) (xk_k (show ¬ (0 : Nat) = 5 by decide) (Or.inl (show ¬ (0 + 1 : Nat) = 5 by decide)) (xk_k (show ¬ (2 : Nat) = 5 by decide) (Or.inl (show ¬ (2 + 1 : Nat) = 5 by decide)) (xk_d rfl xk_n)))) rfl ?_
  refine xe_goto (off := -35) (nx := 63) (by decide +kernel) (by decide) ?_
  refine xW_lv rfl (l := [(0, xR_ (x0)), (2, xI (x2)), (4, xI (xwr ((y1) + (y0)))), (5, xI (xwr ((x5) + (1))))]) (xsb_of ⟨rfl, rfl, rfl, rfl, trivial⟩ (show [5, 4, 0, 2].Nodup by decide)) ?_
  exact hr63 hx2 (xin_wr _) (xin_wr _) h
def f318_63b  (r63 : Nat → Int → Int → Int → xj_M → Option (Int × xj_M)) (f : Nat) (x0 : Nat) (x2 : Int) (x4 : Int) (x5 : Int) (M : xj_M) : Option (Int × xj_M) := ((xq_gr 15 80 (x0) M).bind fun v101 => ((xq_gi 12 3 (v101) M).bind fun v103 => (if (v103) ≤ (x5) then (some (x4, M)) else ((xq_is 15 (x0) M).bind fun _ => ((f319  f (x0) (x2) (x5) M).bind fun R108 => (if (R108.1) = 0 then f318_92  r63 f (x0) (x2) (x5) (0) (x4) R108.2 else f318_92  r63 f (x0) (x2) (x5) (1) (x4) R108.2))))))
theorem k318_63b {d f : Nat}  {r63 : Nat → Int → Int → Int → xj_M → Option (Int × xj_M)}  (hr63 : ∀ {x0 : Nat} {x2 : Int} {x4 : Int} {x5 : Int} {M : xj_M} {R : Int × xj_M}, xin x2 → xin x4 → xin x5 → r63 x0 x2 x4 x5 M = some R → xW (d + 112) (none, d + 112, none) xr_318 (63, [(0, xR_ x0), (2, xI x2), (4, xI x4), (5, xI x5)], [], M) (xQi R)) {x0 : Nat} {x2 : Int} {x4 : Int} {x5 : Int} {M : xj_M} {R : Int × xj_M} (hx2 : xin x2) (hx4 : xin x4) (hx5 : xin x5) (h : f318_63b  r63 f x0 x2 x4 x5 M = some R) : xW (d + 112) (none, d + 112, none) xr_318 (63, [(0, xR_ x0), (2, xI x2), (4, xI x4), (5, xI x5)], [], M) (xQi R) := by
  unfold f318_63b at h
  refine xe_ldn (ins := .iload 5) (len := 2) (by decide +kernel) rfl rfl rfl rfl ?_
  refine xe_alr (ins := .aload_n 0) (len := 1) (i := 0) (by decide +kernel) rfl rfl rfl rfl rfl ?_
  obtain ⟨v101, e102, h⟩ := xbnd h
  refine xs_gr (i := 858) (c := 15) (k := 80) (by decide +kernel) (by decide) (by decide +kernel) e102 rfl ?_
  obtain ⟨v103, e104, h⟩ := xbnd h
  refine xs_gi (i := 690) (c := 12) (k := 3) (by decide +kernel) (by decide) (by decide +kernel) e104 rfl ?_
  refine xe_icmpge (off := 29) (t := 101) (by decide +kernel) (by decide) rfl hx5 (xq_gi_in e104) (fun c105 => ?_) (fun c105 => ?_)
  · rw [if_pos c105] at h
    refine xe_ldn (ins := .iload 4) (len := 2) (by decide +kernel) rfl rfl rfl rfl ?_
    cases h
    exact xe_ret_i (ty := .int) (by decide +kernel) rfl rfl ⟨rfl, rfl, hx4⟩
  · rw [if_neg c105] at h
    refine xe_ldn (ins := .iload 4) (len := 2) (by decide +kernel) rfl rfl rfl rfl ?_
    refine xe_alr (ins := .aload_n 0) (len := 1) (i := 0) (by decide +kernel) rfl rfl rfl rfl rfl ?_
    refine xe_ldn (ins := .iload_n 2) (len := 1) (by decide +kernel) rfl rfl rfl rfl ?_
    refine xe_ldn (ins := .iload 5) (len := 2) (by decide +kernel) rfl rfl rfl rfl ?_
    obtain ⟨_, e107, h⟩ := xbnd h
    obtain ⟨R108, e106, h⟩ := xbnd h
    refine xs_cv (i := 897) (j := 319) (ar := [xI (x5), xI (x2)]) (rest := [xI (x4)]) (r2 := xr_319) (by decide +kernel) (by decide +kernel) (by decide +kernel) xr_319_e rfl (by decide) (by simp only [List.map_cons, List.map_nil, List.sum_cons, List.sum_nil, xR_cat, xI_cat, xZ_cat]; decide) e107 ?_
    refine xc_i (k319 (d := d + 111)  hx2 hx5 e106) rfl (fun hi109 => ?_)
    refine xe_ifeq (off := 7) (t := 91) (by decide +kernel) (by decide) rfl hi109 (fun c110 => ?_) (fun c110 => ?_)
    · rw [if_pos c110] at h
      refine xe_iconst (n := 0) (by decide +kernel) rfl ?_
      refine xW_lv rfl (l := [(0, xR_ (x0)), (2, xI (x2)), (5, xI (x5))]) (xsb_of ⟨rfl, rfl, rfl, trivial⟩ (show [0, 2, 4, 5].Nodup by decide)) ?_
      exact k318_92  hr63 hx2 hx5 (show xin (0) by decide) hx4 h
    · rw [if_neg c110] at h
      refine xe_iconst (n := 1) (by decide +kernel) rfl ?_
      refine xe_goto (off := 4) (nx := 92) (by decide +kernel) (by decide) ?_
      refine xW_lv rfl (l := [(0, xR_ (x0)), (2, xI (x2)), (5, xI (x5))]) (xsb_of ⟨rfl, rfl, rfl, trivial⟩ (show [0, 2, 4, 5].Nodup by decide)) ?_
      exact k318_92  hr63 hx2 hx5 (show xin (1) by decide) hx4 h
def f318_63   (f : Nat) : Nat → Nat → Int → Int → Int → xj_M → Option (Int × xj_M)
  | 0, _, _, _, _, _ => none
  | n + 1, x0, x2, x4, x5, M => f318_63b   (f318_63   f n) f x0 x2 x4 x5 M
theorem k318_63 {d f : Nat}     : ∀ {n : Nat} {x0 : Nat} {x2 : Int} {x4 : Int} {x5 : Int} {M : xj_M} {R : Int × xj_M}, xin x2 → xin x4 → xin x5 → f318_63   f n x0 x2 x4 x5 M = some R → xW (d + 112) (none, d + 112, none) xr_318 (63, [(0, xR_ x0), (2, xI x2), (4, xI x4), (5, xI x5)], [], M) (xQi R) := by
  intro n
  induction n with
  | zero => intros; rename_i h; cases h
  | succ n ih => intros; rename_i h; exact k318_63b   ih (by assumption) (by assumption) (by assumption) h
def f318  (f : Nat) (a0 : Nat) (a1 : Int) (a2 : Int) (M : xj_M) : Option (Int × xj_M) := ((xq_pi 15 74 (a0) (0) M).bind fun M111 => ((xq_gr 15 61 (a0) M111).bind fun v113 => ((xq_gi 15 62 (a0) M111).bind fun v115 => ((xq_ar (v113) (v115) M111).bind fun v117 => ((xq_is 15 (a0) M111).bind fun _ => ((f310  f (a0) (v117) (a1) M111).bind fun R121 => (if ¬ (R121.1) = 0 then ((xq_gr 15 80 (a0) R121.2).bind fun v124 => ((xq_is 15 (a0) R121.2).bind fun _ => ((f311  f (a0) (v117) (a1) (v124) R121.2).bind fun R128 => ((xq_is 15 (a0) R128.2).bind fun _ => ((f300  f (a0) (R128.1) R128.2).bind fun M132 => (if (a2) < 0 then f318_55   f  M132 else ((xq_gr 15 30 (a0) M132).bind fun v135 => ((xq_gi 14 8 (v135) M132).bind fun v137 => (if (a2) < (v137) then f318_63   f f (a0) (a2) (0) (0) M132 else f318_55   f  M132))))))))) else (some (-1, R121.2)))))))))
theorem k318 {d f : Nat}   {a0 : Nat} {a1 : Int} {a2 : Int} {M : xj_M} {R : Int × xj_M} (ha1 : xin a1) (ha2 : xin a2) (h : f318  f a0 a1 a2 M = some R) : xT (d + 113) 318 [xR_ a0, xI a1, xI a2] M (xQi R) := by
  refine xT_m xr_318_e (X := (none, d + 112, none)) rfl (xa_1 (xR_cat _) (xa_1 (xI_cat _) (xa_1 (xI_cat _) xa_n))) (by decide) ?_
  unfold f318 at h
  refine xe_alr (ins := .aload_n 0) (len := 1) (i := 0) (by decide +kernel) rfl rfl rfl rfl rfl ?_
  refine xe_iconst (n := 0) (by decide +kernel) rfl ?_
  obtain ⟨M111, e112, h⟩ := xbnd h
  refine xs_p (i := 699) (c := 15) (k := 74) (by decide +kernel) (by decide +kernel) (by decide +kernel) e112 rfl ?_
  refine xe_alr (ins := .aload_n 0) (len := 1) (i := 0) (by decide +kernel) rfl rfl rfl rfl rfl ?_
  obtain ⟨v113, e114, h⟩ := xbnd h
  refine xs_gr (i := 667) (c := 15) (k := 61) (by decide +kernel) (by decide) (by decide +kernel) e114 rfl ?_
  refine xe_alr (ins := .aload_n 0) (len := 1) (i := 0) (by decide +kernel) rfl rfl rfl rfl rfl ?_
  obtain ⟨v115, e116, h⟩ := xbnd h
  refine xs_gi (i := 664) (c := 15) (k := 62) (by decide +kernel) (by decide) (by decide +kernel) e116 rfl ?_
  obtain ⟨v117, e118, h⟩ := xbnd h
  refine xs_aald (by decide +kernel) (xq_gi_in e116) e118 rfl ?_
  refine xe_asr (ins := .astore_n 3) (len := 1) (i := 3) (by decide +kernel) rfl rfl rfl (by decide) (xk_k (show ¬ (0 : Nat) = 3 by decide) (Or.inl (show ¬ (0 + 1 : Nat) = 3 by decide)) (xk_k (show ¬ (1 : Nat) = 3 by decide) (Or.inl (show ¬ (1 + 1 : Nat) = 3 by decide)) (xk_k (show ¬ (2 : Nat) = 3 by decide) (Or.inr (xI_cat _)) xk_n))) rfl ?_
  refine xe_alr (ins := .aload_n 0) (len := 1) (i := 0) (by decide +kernel) rfl rfl rfl rfl rfl ?_
  refine xe_alr (ins := .aload_n 3) (len := 1) (i := 3) (by decide +kernel) rfl rfl rfl rfl rfl ?_
  refine xe_ldn (ins := .iload_n 1) (len := 1) (by decide +kernel) rfl rfl rfl rfl ?_
  obtain ⟨_, e120, h⟩ := xbnd h
  obtain ⟨R121, e119, h⟩ := xbnd h
  refine xs_cv (i := 874) (j := 310) (ar := [xI (a1), xR_ (v117)]) (rest := []) (r2 := xr_310) (by decide +kernel) (by decide +kernel) (by decide +kernel) xr_310_e rfl (by decide) (by decide) e120 ?_
  refine xc_i (k310 (d := d + 111)  ha1 e119) rfl (fun hi122 => ?_)
  refine xe_ifne (off := 5) (t := 26) (by decide +kernel) (by decide) rfl hi122 (fun c123 => ?_) (fun c123 => ?_)
  · rw [if_pos c123] at h
    refine xe_alr (ins := .aload_n 0) (len := 1) (i := 0) (by decide +kernel) rfl rfl rfl rfl rfl ?_
    refine xe_alr (ins := .aload_n 0) (len := 1) (i := 0) (by decide +kernel) rfl rfl rfl rfl rfl ?_
    refine xe_alr (ins := .aload_n 3) (len := 1) (i := 3) (by decide +kernel) rfl rfl rfl rfl rfl ?_
    refine xe_ldn (ins := .iload_n 1) (len := 1) (by decide +kernel) rfl rfl rfl rfl ?_
    refine xe_alr (ins := .aload_n 0) (len := 1) (i := 0) (by decide +kernel) rfl rfl rfl rfl rfl ?_
    obtain ⟨v124, e125, h⟩ := xbnd h
    refine xs_gr (i := 858) (c := 15) (k := 80) (by decide +kernel) (by decide) (by decide +kernel) e125 rfl ?_
    obtain ⟨_, e127, h⟩ := xbnd h
    obtain ⟨R128, e126, h⟩ := xbnd h
    refine xs_cv (i := 861) (j := 311) (ar := [xR_ (v124), xI (a1), xR_ (v117)]) (rest := [xR_ (a0)]) (r2 := xr_311) (by decide +kernel) (by decide +kernel) (by decide +kernel) xr_311_e rfl (by decide) (by simp only [List.map_cons, List.map_nil, List.sum_cons, List.sum_nil, xR_cat, xI_cat, xZ_cat]; decide) e127 ?_
    refine xc_i (k311 (d := d + 108)  ha1 e126) rfl (fun hi129 => ?_)
    obtain ⟨_, e131, h⟩ := xbnd h
    obtain ⟨M132, e130, h⟩ := xbnd h
    refine xs_cv (i := 771) (j := 300) (ar := [xI (R128.1)]) (rest := []) (r2 := xr_300) (by decide +kernel) (by decide +kernel) (by decide +kernel) xr_300_e rfl (by decide) (by decide) e131 ?_
    refine xc_v (k300 (d := d + 0)  hi129 e130) rfl ?_
    refine xe_ldn (ins := .iload_n 2) (len := 1) (by decide +kernel) rfl rfl rfl rfl ?_
    refine xe_iflt (off := 14) (t := 55) (by decide +kernel) (by decide) rfl ha2 (fun c134 => ?_) (fun c134 => ?_)
    · rw [if_pos c134] at h
      refine xW_lv rfl (l := []) (xsb_of trivial (show [3, 0, 1, 2].Nodup by decide)) ?_
      exact k318_55    h
    · rw [if_neg c134] at h
      refine xe_ldn (ins := .iload_n 2) (len := 1) (by decide +kernel) rfl rfl rfl rfl ?_
      refine xe_alr (ins := .aload_n 0) (len := 1) (i := 0) (by decide +kernel) rfl rfl rfl rfl rfl ?_
      obtain ⟨v135, e136, h⟩ := xbnd h
      refine xs_gr (i := 774) (c := 15) (k := 30) (by decide +kernel) (by decide) (by decide +kernel) e136 rfl ?_
      obtain ⟨v137, e138, h⟩ := xbnd h
      refine xs_gi (i := 166) (c := 14) (k := 8) (by decide +kernel) (by decide) (by decide +kernel) e138 rfl ?_
      refine xe_icmplt (off := 5) (t := 57) (by decide +kernel) (by decide) rfl ha2 (xq_gi_in e138) (fun c139 => ?_) (fun c139 => ?_)
      · rw [if_pos c139] at h
        refine xe_iconst (n := 0) (by decide +kernel) rfl ?_
        refine xe_isr (ins := .istore 4) (len := 2) (i := 4) (by decide +kernel) rfl rfl rfl (by decide) (xk_k (show ¬ (3 : Nat) = 4 by decide) (Or.inr (xR_cat _)) (xk_k (show ¬ (0 : Nat) = 4 by decide) (Or.inl (show ¬ (0 + 1 : Nat) = 4 by decide)) (xk_k (show ¬ (1 : Nat) = 4 by decide) (Or.inl (show ¬ (1 + 1 : Nat) = 4 by decide)) (xk_k (show ¬ (2 : Nat) = 4 by decide) (Or.inl (show ¬ (2 + 1 : Nat) = 4 by decide)) xk_n)))) rfl ?_
        refine xe_iconst (n := 0) (by decide +kernel) rfl ?_
        refine xe_isr (ins := .istore 5) (len := 2) (i := 5) (by decide +kernel) rfl rfl rfl (by decide) (xk_k (show ¬ (4 : Nat) = 5 by decide) (Or.inr (xI_cat _)) (xk_k (show ¬ (3 : Nat) = 5 by decide) (Or.inl (show ¬ (3 + 1 : Nat) = 5 by decide)) (xk_k (show ¬ (0 : Nat) = 5 by decide) (Or.inl (show ¬ (0 + 1 : Nat) = 5 by decide)) (xk_k (show ¬ (1 : Nat) = 5 by decide) (Or.inl (show ¬ (1 + 1 : Nat) = 5 by decide)) (xk_k (show ¬ (2 : Nat) = 5 by decide) (Or.inl (show ¬ (2 + 1 : Nat) = 5 by decide)) xk_n))))) rfl ?_
        refine xW_lv rfl (l := [(0, xR_ (a0)), (2, xI (a2)), (4, xI (0)), (5, xI (0))]) (xsb_of ⟨rfl, rfl, rfl, rfl, trivial⟩ (show [5, 4, 3, 0, 1, 2].Nodup by decide)) ?_
        exact k318_63   ha2 (show xin (0) by decide) (show xin (0) by decide) h
      · rw [if_neg c139] at h
        refine xW_lv rfl (l := []) (xsb_of trivial (show [3, 0, 1, 2].Nodup by decide)) ?_
        exact k318_55    h
  · rw [if_neg c123] at h
    refine xe_iconst (n := -1) (by decide +kernel) rfl ?_
    cases h
    exact xe_ret_i (ty := .int) (by decide +kernel) rfl rfl ⟨rfl, rfl, (show xin (-1) by decide)⟩
-- ChangeHouseModel.pastValue
def xr_320 : xj_mR := (15, yX15_pastValue, cX15_pastValue, 7, (Option.some Jvm.ClassFile.FieldType.long), 4, false, (10, 224), (1, 12))
set_option maxRecDepth 20000 in
theorem xr_320_e : xj_row 320 = some xr_320 := rfl
def f320_43   (f : Nat) (x0 : Nat) (M : xj_M) : Option (Int × xj_M) := ((xq_is 15 (x0) M).bind fun _ => ((f321  f (x0) M).bind fun R103 => (some (R103.1, R103.2))))
theorem k320_43 {d f : Nat}     {x0 : Nat} {M : xj_M} {R : Int × xj_M}  (h : f320_43   f x0 M = some R) : xW (d + 113) (none, d + 113, none) xr_320 (43, [(0, xR_ x0)], [], M) (xQl R) := by
  unfold f320_43 at h
  refine xe_alr (ins := .aload_n 0) (len := 1) (i := 0) (by decide +kernel) rfl rfl rfl rfl rfl ?_
  obtain ⟨_, e102, h⟩ := xbnd h
  obtain ⟨R103, e101, h⟩ := xbnd h
  refine xs_cv (i := 903) (j := 321) (ar := []) (rest := []) (r2 := xr_321) (by decide +kernel) (by decide +kernel) (by decide +kernel) xr_321_e rfl (by decide) (by decide) e102 ?_
  refine xc_i (k321 (d := d + 112)   e101) rfl (fun hi104 => ?_)
  refine xe_i2l (by decide +kernel) rfl hi104 ?_
  cases h
  exact xe_ret_l (by decide +kernel) rfl ⟨rfl, rfl, (xin_N hi104)⟩
def f320_52b  (r52 : Nat → Int → Int → Int → Int → xj_M → Option (Int × xj_M)) (f : Nat) (x0 : Nat) (x2 : Int) (x3 : Int) (x4 : Int) (x6 : Int) (M : xj_M) : Option (Int × xj_M) := ((xq_is 15 (x0) M).bind fun _ => ((f319  f (x0) (x2) (x6) M).bind fun R107 => (if ¬ (R107.1) = 0 then ((xq_gr 15 80 (x0) R107.2).bind fun v110 => ((xq_gr 12 1 (v110) R107.2).bind fun v112 => ((xq_al (v112) (xwr ((xwr ((4) * (xwr ((x6) + (x3))))) + (x4))) R107.2).bind fun v114 => (some (v114, R107.2))))) else r52 (x0) (x2) (x3) (x4) (xwr ((x6) + (1))) R107.2)))
theorem k320_52b {d f : Nat}  {r52 : Nat → Int → Int → Int → Int → xj_M → Option (Int × xj_M)}  (hr52 : ∀ {x0 : Nat} {x2 : Int} {x3 : Int} {x4 : Int} {x6 : Int} {M : xj_M} {R : Int × xj_M}, xin x2 → xin x3 → xin x4 → xin x6 → r52 x0 x2 x3 x4 x6 M = some R → xW (d + 113) (none, d + 113, none) xr_320 (52, [(0, xR_ x0), (2, xI x2), (3, xI x3), (4, xI x4), (6, xI x6)], [], M) (xQl R)) {x0 : Nat} {x2 : Int} {x3 : Int} {x4 : Int} {x6 : Int} {M : xj_M} {R : Int × xj_M} (hx2 : xin x2) (hx3 : xin x3) (hx4 : xin x4) (hx6 : xin x6) (h : f320_52b  r52 f x0 x2 x3 x4 x6 M = some R) : xW (d + 113) (none, d + 113, none) xr_320 (52, [(0, xR_ x0), (2, xI x2), (3, xI x3), (4, xI x4), (6, xI x6)], [], M) (xQl R) := by
  unfold f320_52b at h
  refine xe_alr (ins := .aload_n 0) (len := 1) (i := 0) (by decide +kernel) rfl rfl rfl rfl rfl ?_
  refine xe_ldn (ins := .iload_n 2) (len := 1) (by decide +kernel) rfl rfl rfl rfl ?_
  refine xe_ldn (ins := .iload 6) (len := 2) (by decide +kernel) rfl rfl rfl rfl ?_
  obtain ⟨_, e106, h⟩ := xbnd h
  obtain ⟨R107, e105, h⟩ := xbnd h
  refine xs_cv (i := 897) (j := 319) (ar := [xI (x6), xI (x2)]) (rest := []) (r2 := xr_319) (by decide +kernel) (by decide +kernel) (by decide +kernel) xr_319_e rfl (by decide) (by decide) e106 ?_
  refine xc_i (k319 (d := d + 112)  hx2 hx6 e105) rfl (fun hi108 => ?_)
  refine xe_ifne (off := 9) (t := 68) (by decide +kernel) (by decide) rfl hi108 (fun c109 => ?_) (fun c109 => ?_)
  · rw [if_pos c109] at h
    refine xe_alr (ins := .aload_n 0) (len := 1) (i := 0) (by decide +kernel) rfl rfl rfl rfl rfl ?_
    obtain ⟨v110, e111, h⟩ := xbnd h
    refine xs_gr (i := 858) (c := 15) (k := 80) (by decide +kernel) (by decide) (by decide +kernel) e111 rfl ?_
    obtain ⟨v112, e113, h⟩ := xbnd h
    refine xs_gr (i := 696) (c := 12) (k := 1) (by decide +kernel) (by decide) (by decide +kernel) e113 rfl ?_
    refine xe_iconst (n := 4) (by decide +kernel) rfl ?_
    refine xe_ldn (ins := .iload 6) (len := 2) (by decide +kernel) rfl rfl rfl rfl ?_
    refine xe_ldn (ins := .iload_n 3) (len := 1) (by decide +kernel) rfl rfl rfl rfl ?_
    refine xe_iadd (by decide +kernel) rfl ?_
    refine xe_imul (by decide +kernel) rfl ?_
    refine xe_ldn (ins := .iload 4) (len := 2) (by decide +kernel) rfl rfl rfl rfl ?_
    refine xe_iadd (by decide +kernel) rfl ?_
    obtain ⟨v114, e115, h⟩ := xbnd h
    refine xs_lald (by decide +kernel) (xin_wr _) e115 rfl ?_
    cases h
    exact xe_ret_l (by decide +kernel) rfl ⟨rfl, rfl, (xq_al_in e115)⟩
  · rw [if_neg c109] at h
    refine xe_iincr (i := 6) (n := 1) (by decide +kernel) (by decide) rfl (xk_k (show ¬ (0 : Nat) = 6 by decide) (Or.inl (show ¬ (0 + 1 : Nat) = 6 by decide)) (xk_k (show ¬ (2 : Nat) = 6 by decide) (Or.inl (show ¬ (2 + 1 : Nat) = 6 by decide)) (xk_k (show ¬ (3 : Nat) = 6 by decide) (Or.inl (show ¬ (3 + 1 : Nat) = 6 by decide)) (xk_k (show ¬ (4 : Nat) = 6 by decide) (Or.inl (show ¬ (4 + 1 : Nat) = 6 by decide)) (xk_d rfl xk_n))))) rfl ?_
    refine xe_goto (off := -13) (nx := 52) (by decide +kernel) (by decide) ?_
    refine xW_lv rfl (l := [(0, xR_ (x0)), (2, xI (x2)), (3, xI (x3)), (4, xI (x4)), (6, xI (xwr ((x6) + (1))))]) (xsb_of ⟨rfl, rfl, rfl, rfl, rfl, trivial⟩ (show [6, 0, 2, 3, 4].Nodup by decide)) ?_
    exact hr52 hx2 hx3 hx4 (xin_wr _) h
def f320_52   (f : Nat) : Nat → Nat → Int → Int → Int → Int → xj_M → Option (Int × xj_M)
  | 0, _, _, _, _, _, _ => none
  | n + 1, x0, x2, x3, x4, x6, M => f320_52b   (f320_52   f n) f x0 x2 x3 x4 x6 M
theorem k320_52 {d f : Nat}     : ∀ {n : Nat} {x0 : Nat} {x2 : Int} {x3 : Int} {x4 : Int} {x6 : Int} {M : xj_M} {R : Int × xj_M}, xin x2 → xin x3 → xin x4 → xin x6 → f320_52   f n x0 x2 x3 x4 x6 M = some R → xW (d + 113) (none, d + 113, none) xr_320 (52, [(0, xR_ x0), (2, xI x2), (3, xI x3), (4, xI x4), (6, xI x6)], [], M) (xQl R) := by
  intro n
  induction n with
  | zero => intros; rename_i h; cases h
  | succ n ih => intros; rename_i h; exact k320_52b   ih (by assumption) (by assumption) (by assumption) (by assumption) h
def f320  (f : Nat) (a0 : Nat) (a1 : Int) (a2 : Int) (a3 : Int) (a4 : Int) (M : xj_M) : Option (Int × xj_M) := ((xq_is 15 (a0) M).bind fun _ => ((f318  f (a0) (a1) (a2) M).bind fun R118 => (if (R118.1) = (-1) then f320_43   f (a0) R118.2 else (if (a3) < 0 then f320_43   f (a0) R118.2 else (if (R118.1) ≤ (a3) then f320_43   f (a0) R118.2 else (if (a4) < 0 then f320_43   f (a0) R118.2 else ((xq_gr 15 30 (a0) R118.2).bind fun v124 => ((xq_gr 14 1 (v124) R118.2).bind fun v126 => ((xq_ai 3 (v126) (a2) R118.2).bind fun v128 => (if (a4) < (v128) then f320_52   f f (a0) (a2) (a3) (a4) (0) R118.2 else f320_43   f (a0) R118.2))))))))))
theorem k320 {d f : Nat}   {a0 : Nat} {a1 : Int} {a2 : Int} {a3 : Int} {a4 : Int} {M : xj_M} {R : Int × xj_M} (ha1 : xin a1) (ha2 : xin a2) (ha3 : xin a3) (ha4 : xin a4) (h : f320  f a0 a1 a2 a3 a4 M = some R) : xT (d + 114) 320 [xR_ a0, xI a1, xI a2, xI a3, xI a4] M (xQl R) := by
  refine xT_m xr_320_e (X := (none, d + 113, none)) rfl (xa_1 (xR_cat _) (xa_1 (xI_cat _) (xa_1 (xI_cat _) (xa_1 (xI_cat _) (xa_1 (xI_cat _) xa_n))))) (by decide) ?_
  unfold f320 at h
  refine xe_alr (ins := .aload_n 0) (len := 1) (i := 0) (by decide +kernel) rfl rfl rfl rfl rfl ?_
  refine xe_ldn (ins := .iload_n 1) (len := 1) (by decide +kernel) rfl rfl rfl rfl ?_
  refine xe_ldn (ins := .iload_n 2) (len := 1) (by decide +kernel) rfl rfl rfl rfl ?_
  obtain ⟨_, e117, h⟩ := xbnd h
  obtain ⟨R118, e116, h⟩ := xbnd h
  refine xs_cv (i := 900) (j := 318) (ar := [xI (a2), xI (a1)]) (rest := []) (r2 := xr_318) (by decide +kernel) (by decide +kernel) (by decide +kernel) xr_318_e rfl (by decide) (by decide) e117 ?_
  refine xc_i (k318 (d := d + 0)  ha1 ha2 e116) rfl (fun hi119 => ?_)
  refine xe_isr (ins := .istore 5) (len := 2) (i := 5) (by decide +kernel) rfl rfl rfl (by decide) (xk_k (show ¬ (0 : Nat) = 5 by decide) (Or.inl (show ¬ (0 + 1 : Nat) = 5 by decide)) (xk_k (show ¬ (1 : Nat) = 5 by decide) (Or.inl (show ¬ (1 + 1 : Nat) = 5 by decide)) (xk_k (show ¬ (2 : Nat) = 5 by decide) (Or.inl (show ¬ (2 + 1 : Nat) = 5 by decide)) (xk_k (show ¬ (3 : Nat) = 5 by decide) (Or.inl (show ¬ (3 + 1 : Nat) = 5 by decide)) (xk_k (show ¬ (4 : Nat) = 5 by decide) (Or.inr (xI_cat _)) xk_n))))) rfl ?_
  refine xe_ldn (ins := .iload 5) (len := 2) (by decide +kernel) rfl rfl rfl rfl ?_
  refine xe_iconst (n := -1) (by decide +kernel) rfl ?_
  refine xe_icmpeq (off := 32) (t := 43) (by decide +kernel) (by decide) rfl hi119 (show xin (-1) by decide) (fun c120 => ?_) (fun c120 => ?_)
  · rw [if_pos c120] at h
    refine xW_lv rfl (l := [(0, xR_ (a0))]) (xsb_of ⟨rfl, trivial⟩ (show [5, 0, 1, 2, 3, 4].Nodup by decide)) ?_
    exact k320_43    h
  · rw [if_neg c120] at h
    refine xe_ldn (ins := .iload_n 3) (len := 1) (by decide +kernel) rfl rfl rfl rfl ?_
    refine xe_iflt (off := 28) (t := 43) (by decide +kernel) (by decide) rfl ha3 (fun c121 => ?_) (fun c121 => ?_)
    · rw [if_pos c121] at h
      refine xW_lv rfl (l := [(0, xR_ (a0))]) (xsb_of ⟨rfl, trivial⟩ (show [5, 0, 1, 2, 3, 4].Nodup by decide)) ?_
      exact k320_43    h
    · rw [if_neg c121] at h
      refine xe_ldn (ins := .iload_n 3) (len := 1) (by decide +kernel) rfl rfl rfl rfl ?_
      refine xe_ldn (ins := .iload 5) (len := 2) (by decide +kernel) rfl rfl rfl rfl ?_
      refine xe_icmpge (off := 22) (t := 43) (by decide +kernel) (by decide) rfl ha3 hi119 (fun c122 => ?_) (fun c122 => ?_)
      · rw [if_pos c122] at h
        refine xW_lv rfl (l := [(0, xR_ (a0))]) (xsb_of ⟨rfl, trivial⟩ (show [5, 0, 1, 2, 3, 4].Nodup by decide)) ?_
        exact k320_43    h
      · rw [if_neg c122] at h
        refine xe_ldn (ins := .iload 4) (len := 2) (by decide +kernel) rfl rfl rfl rfl ?_
        refine xe_iflt (off := 17) (t := 43) (by decide +kernel) (by decide) rfl ha4 (fun c123 => ?_) (fun c123 => ?_)
        · rw [if_pos c123] at h
          refine xW_lv rfl (l := [(0, xR_ (a0))]) (xsb_of ⟨rfl, trivial⟩ (show [5, 0, 1, 2, 3, 4].Nodup by decide)) ?_
          exact k320_43    h
        · rw [if_neg c123] at h
          refine xe_ldn (ins := .iload 4) (len := 2) (by decide +kernel) rfl rfl rfl rfl ?_
          refine xe_alr (ins := .aload_n 0) (len := 1) (i := 0) (by decide +kernel) rfl rfl rfl rfl rfl ?_
          obtain ⟨v124, e125, h⟩ := xbnd h
          refine xs_gr (i := 774) (c := 15) (k := 30) (by decide +kernel) (by decide) (by decide +kernel) e125 rfl ?_
          obtain ⟨v126, e127, h⟩ := xbnd h
          refine xs_gr (i := 180) (c := 14) (k := 1) (by decide +kernel) (by decide) (by decide +kernel) e127 rfl ?_
          refine xe_ldn (ins := .iload_n 2) (len := 1) (by decide +kernel) rfl rfl rfl rfl ?_
          obtain ⟨v128, e129, h⟩ := xbnd h
          refine xs_iald rfl (by decide +kernel) ha2 e129 rfl ?_
          refine xe_icmplt (off := 9) (t := 49) (by decide +kernel) (by decide) rfl ha4 (xq_ai_in e129) (fun c130 => ?_) (fun c130 => ?_)
          · rw [if_pos c130] at h
            refine xe_iconst (n := 0) (by decide +kernel) rfl ?_
            refine xe_isr (ins := .istore 6) (len := 2) (i := 6) (by decide +kernel) rfl rfl rfl (by decide) (xk_k (show ¬ (5 : Nat) = 6 by decide) (Or.inr (xI_cat _)) (xk_k (show ¬ (0 : Nat) = 6 by decide) (Or.inl (show ¬ (0 + 1 : Nat) = 6 by decide)) (xk_k (show ¬ (1 : Nat) = 6 by decide) (Or.inl (show ¬ (1 + 1 : Nat) = 6 by decide)) (xk_k (show ¬ (2 : Nat) = 6 by decide) (Or.inl (show ¬ (2 + 1 : Nat) = 6 by decide)) (xk_k (show ¬ (3 : Nat) = 6 by decide) (Or.inl (show ¬ (3 + 1 : Nat) = 6 by decide)) (xk_k (show ¬ (4 : Nat) = 6 by decide) (Or.inl (show ¬ (4 + 1 : Nat) = 6 by decide)) xk_n)))))) rfl ?_
            refine xW_lv rfl (l := [(0, xR_ (a0)), (2, xI (a2)), (3, xI (a3)), (4, xI (a4)), (6, xI (0))]) (xsb_of ⟨rfl, rfl, rfl, rfl, rfl, trivial⟩ (show [6, 5, 0, 1, 2, 3, 4].Nodup by decide)) ?_
            exact k320_52   ha2 ha3 ha4 (show xin (0) by decide) h
          · rw [if_neg c130] at h
            refine xW_lv rfl (l := [(0, xR_ (a0))]) (xsb_of ⟨rfl, trivial⟩ (show [5, 0, 1, 2, 3, 4].Nodup by decide)) ?_
            exact k320_43    h
-- ChangeHouseModel.merge
def xr_326 : xj_mR := (15, yX15_merge, cX15_merge, 9, (Option.some Jvm.ClassFile.FieldType.int), 1, false, (10, 233), (1, 12))
set_option maxRecDepth 20000 in
theorem xr_326_e : xj_row 326 = some xr_326 := rfl
def f326_22   (f : Nat)  (M : xj_M) : Option (Int × xj_M) := (some (-1, M))
theorem k326_22 {d f : Nat}      {M : xj_M} {R : Int × xj_M}  (h : f326_22   f  M = some R) : xW (d + 113) (none, d + 113, none) xr_326 (22, [], [], M) (xQi R) := by
  unfold f326_22 at h
  refine xe_iconst (n := -1) (by decide +kernel) rfl ?_
  cases h
  exact xe_ret_i (ty := .int) (by decide +kernel) rfl rfl ⟨rfl, rfl, (show xin (-1) by decide)⟩
def f326_64   (f : Nat)  (M : xj_M) : Option (Int × xj_M) := (some (-1, M))
theorem k326_64 {d f : Nat}      {M : xj_M} {R : Int × xj_M}  (h : f326_64   f  M = some R) : xW (d + 113) (none, d + 113, none) xr_326 (64, [], [], M) (xQi R) := by
  unfold f326_64 at h
  refine xe_iconst (n := -1) (by decide +kernel) rfl ?_
  cases h
  exact xe_ret_i (ty := .int) (by decide +kernel) rfl rfl ⟨rfl, rfl, (show xin (-1) by decide)⟩
def f326_115   (f : Nat)  (M : xj_M) : Option (Int × xj_M) := (some (-2, M))
theorem k326_115 {d f : Nat}      {M : xj_M} {R : Int × xj_M}  (h : f326_115   f  M = some R) : xW (d + 113) (none, d + 113, none) xr_326 (115, [], [], M) (xQi R) := by
  unfold f326_115 at h
  refine xe_bipush (n := -2) (by decide +kernel) (by decide) rfl ?_
  cases h
  exact xe_ret_i (ty := .int) (by decide +kernel) rfl rfl ⟨rfl, rfl, (show xin (-2) by decide)⟩
def f326_192  (r153 : Nat → Nat → Nat → Int → Int → xj_M → Option (Int × xj_M)) (f : Nat) (x0 : Nat) (x2 : Nat) (x3 : Nat) (x6 : Int) (x7 : Int) (M : xj_M) : Option (Int × xj_M) := r153 (x0) (x2) (x3) (x6) (xwr ((x7) + (1))) M
theorem k326_192 {d f : Nat}  {r153 : Nat → Nat → Nat → Int → Int → xj_M → Option (Int × xj_M)}  (hr153 : ∀ {x0 : Nat} {x2 : Nat} {x3 : Nat} {x6 : Int} {x7 : Int} {M : xj_M} {R : Int × xj_M}, xin x6 → xin x7 → r153 x0 x2 x3 x6 x7 M = some R → xW (d + 113) (none, d + 113, none) xr_326 (153, [(0, xR_ x0), (2, xR_ x2), (3, xR_ x3), (6, xI x6), (7, xI x7)], [], M) (xQi R)) {x0 : Nat} {x2 : Nat} {x3 : Nat} {x6 : Int} {x7 : Int} {M : xj_M} {R : Int × xj_M} (hx6 : xin x6) (hx7 : xin x7) (h : f326_192  r153 f x0 x2 x3 x6 x7 M = some R) : xW (d + 113) (none, d + 113, none) xr_326 (192, [(0, xR_ x0), (2, xR_ x2), (3, xR_ x3), (6, xI x6), (7, xI x7)], [], M) (xQi R) := by
  unfold f326_192 at h
  refine xe_iincr (i := 7) (n := 1) (by decide +kernel) (by decide) rfl (xk_k (show ¬ (0 : Nat) = 7 by decide) (Or.inl (show ¬ (0 + 1 : Nat) = 7 by decide)) (xk_k (show ¬ (2 : Nat) = 7 by decide) (Or.inl (show ¬ (2 + 1 : Nat) = 7 by decide)) (xk_k (show ¬ (3 : Nat) = 7 by decide) (Or.inl (show ¬ (3 + 1 : Nat) = 7 by decide)) (xk_k (show ¬ (6 : Nat) = 7 by decide) (Or.inr (xI_cat _)) (xk_d rfl xk_n))))) rfl ?_
  refine xe_goto (off := -42) (nx := 153) (by decide +kernel) (by decide) ?_
  refine xW_lv rfl (l := [(0, xR_ (x0)), (2, xR_ (x2)), (3, xR_ (x3)), (6, xI (x6)), (7, xI (xwr ((x7) + (1))))]) (xsb_of ⟨rfl, rfl, rfl, rfl, rfl, trivial⟩ (show [7, 0, 2, 3, 6].Nodup by decide)) ?_
  exact hr153 hx6 (xin_wr _) h
def f326_259  (r220 : Nat → Nat → Nat → Int → Int → xj_M → Option (Int × xj_M)) (f : Nat) (x0 : Nat) (x2 : Nat) (x3 : Nat) (x7 : Int) (x8 : Int) (M : xj_M) : Option (Int × xj_M) := r220 (x0) (x2) (x3) (x7) (xwr ((x8) + (1))) M
theorem k326_259 {d f : Nat}  {r220 : Nat → Nat → Nat → Int → Int → xj_M → Option (Int × xj_M)}  (hr220 : ∀ {x0 : Nat} {x2 : Nat} {x3 : Nat} {x7 : Int} {x8 : Int} {M : xj_M} {R : Int × xj_M}, xin x7 → xin x8 → r220 x0 x2 x3 x7 x8 M = some R → xW (d + 113) (none, d + 113, none) xr_326 (220, [(0, xR_ x0), (2, xR_ x2), (3, xR_ x3), (7, xI x7), (8, xI x8)], [], M) (xQi R)) {x0 : Nat} {x2 : Nat} {x3 : Nat} {x7 : Int} {x8 : Int} {M : xj_M} {R : Int × xj_M} (hx7 : xin x7) (hx8 : xin x8) (h : f326_259  r220 f x0 x2 x3 x7 x8 M = some R) : xW (d + 113) (none, d + 113, none) xr_326 (259, [(0, xR_ x0), (2, xR_ x2), (3, xR_ x3), (7, xI x7), (8, xI x8)], [], M) (xQi R) := by
  unfold f326_259 at h
  refine xe_iincr (i := 8) (n := 1) (by decide +kernel) (by decide) rfl (xk_k (show ¬ (0 : Nat) = 8 by decide) (Or.inl (show ¬ (0 + 1 : Nat) = 8 by decide)) (xk_k (show ¬ (2 : Nat) = 8 by decide) (Or.inl (show ¬ (2 + 1 : Nat) = 8 by decide)) (xk_k (show ¬ (3 : Nat) = 8 by decide) (Or.inl (show ¬ (3 + 1 : Nat) = 8 by decide)) (xk_k (show ¬ (7 : Nat) = 8 by decide) (Or.inr (xI_cat _)) (xk_d rfl xk_n))))) rfl ?_
  refine xe_goto (off := -42) (nx := 220) (by decide +kernel) (by decide) ?_
  refine xW_lv rfl (l := [(0, xR_ (x0)), (2, xR_ (x2)), (3, xR_ (x3)), (7, xI (x7)), (8, xI (xwr ((x8) + (1))))]) (xsb_of ⟨rfl, rfl, rfl, rfl, rfl, trivial⟩ (show [8, 0, 2, 3, 7].Nodup by decide)) ?_
  exact hr220 hx7 (xin_wr _) h
def f326_220b  (r220 : Nat → Nat → Nat → Int → Int → xj_M → Option (Int × xj_M)) (f : Nat) (x0 : Nat) (x2 : Nat) (x3 : Nat) (x7 : Int) (x8 : Int) (M : xj_M) : Option (Int × xj_M) := ((xq_gr 15 29 (x0) M).bind fun v101 => ((xq_gi 14 8 (v101) M).bind fun v103 => (if (v103) ≤ (x8) then (some (x7, M)) else ((xq_gr 15 29 (x0) M).bind fun v106 => ((xq_gr 14 5 (v106) M).bind fun v108 => ((xq_ab (v108) (x8) M).bind fun v110 => (if (v110) = 0 then f326_259  r220 f (x0) (x2) (x3) (x7) (x8) M else ((xq_is 15 (x0) M).bind fun _ => ((f328  f (x0) (x2) (x3) (x8) (1) M).bind fun R115 => f326_259  r220 f (x0) (x2) (x3) (xwr ((x7) + (R115.1))) (x8) R115.2)))))))))
theorem k326_220b {d f : Nat}  {r220 : Nat → Nat → Nat → Int → Int → xj_M → Option (Int × xj_M)}  (hr220 : ∀ {x0 : Nat} {x2 : Nat} {x3 : Nat} {x7 : Int} {x8 : Int} {M : xj_M} {R : Int × xj_M}, xin x7 → xin x8 → r220 x0 x2 x3 x7 x8 M = some R → xW (d + 113) (none, d + 113, none) xr_326 (220, [(0, xR_ x0), (2, xR_ x2), (3, xR_ x3), (7, xI x7), (8, xI x8)], [], M) (xQi R)) {x0 : Nat} {x2 : Nat} {x3 : Nat} {x7 : Int} {x8 : Int} {M : xj_M} {R : Int × xj_M} (hx7 : xin x7) (hx8 : xin x8) (h : f326_220b  r220 f x0 x2 x3 x7 x8 M = some R) : xW (d + 113) (none, d + 113, none) xr_326 (220, [(0, xR_ x0), (2, xR_ x2), (3, xR_ x3), (7, xI x7), (8, xI x8)], [], M) (xQi R) := by
  unfold f326_220b at h
  refine xe_ldn (ins := .iload 8) (len := 2) (by decide +kernel) rfl rfl rfl rfl ?_
  refine xe_alr (ins := .aload_n 0) (len := 1) (i := 0) (by decide +kernel) rfl rfl rfl rfl rfl ?_
  obtain ⟨v101, e102, h⟩ := xbnd h
  refine xs_gr (i := 439) (c := 15) (k := 29) (by decide +kernel) (by decide) (by decide +kernel) e102 rfl ?_
  obtain ⟨v103, e104, h⟩ := xbnd h
  refine xs_gi (i := 166) (c := 14) (k := 8) (by decide +kernel) (by decide) (by decide +kernel) e104 rfl ?_
  refine xe_icmpge (off := 36) (t := 265) (by decide +kernel) (by decide) rfl hx8 (xq_gi_in e104) (fun c105 => ?_) (fun c105 => ?_)
  · rw [if_pos c105] at h
    refine xe_ldn (ins := .iload 7) (len := 2) (by decide +kernel) rfl rfl rfl rfl ?_
    cases h
    exact xe_ret_i (ty := .int) (by decide +kernel) rfl rfl ⟨rfl, rfl, hx7⟩
  · rw [if_neg c105] at h
    refine xe_alr (ins := .aload_n 0) (len := 1) (i := 0) (by decide +kernel) rfl rfl rfl rfl rfl ?_
    obtain ⟨v106, e107, h⟩ := xbnd h
    refine xs_gr (i := 439) (c := 15) (k := 29) (by decide +kernel) (by decide) (by decide +kernel) e107 rfl ?_
    obtain ⟨v108, e109, h⟩ := xbnd h
    refine xs_gr (i := 187) (c := 14) (k := 5) (by decide +kernel) (by decide) (by decide +kernel) e109 rfl ?_
    refine xe_ldn (ins := .iload 8) (len := 2) (by decide +kernel) rfl rfl rfl rfl ?_
    obtain ⟨v110, e111, h⟩ := xbnd h
    refine xs_bald (by decide +kernel) hx8 e111 rfl ?_
    refine xe_ifeq (off := 17) (t := 259) (by decide +kernel) (by decide) rfl (xq_ab_in e111) (fun c112 => ?_) (fun c112 => ?_)
    · rw [if_pos c112] at h
      refine xW_lv rfl (l := [(0, xR_ (x0)), (2, xR_ (x2)), (3, xR_ (x3)), (7, xI (x7)), (8, xI (x8))]) (xsb_of ⟨rfl, rfl, rfl, rfl, rfl, trivial⟩ (show [0, 2, 3, 7, 8].Nodup by decide)) ?_
      exact k326_259  hr220 hx7 hx8 h
    · rw [if_neg c112] at h
      refine xe_ldn (ins := .iload 7) (len := 2) (by decide +kernel) rfl rfl rfl rfl ?_
      refine xe_alr (ins := .aload_n 0) (len := 1) (i := 0) (by decide +kernel) rfl rfl rfl rfl rfl ?_
      refine xe_alr (ins := .aload_n 2) (len := 1) (i := 2) (by decide +kernel) rfl rfl rfl rfl rfl ?_
      refine xe_alr (ins := .aload_n 3) (len := 1) (i := 3) (by decide +kernel) rfl rfl rfl rfl rfl ?_
      refine xe_ldn (ins := .iload 8) (len := 2) (by decide +kernel) rfl rfl rfl rfl ?_
      refine xe_iconst (n := 1) (by decide +kernel) rfl ?_
      obtain ⟨_, e114, h⟩ := xbnd h
      obtain ⟨R115, e113, h⟩ := xbnd h
      refine xs_cv (i := 918) (j := 328) (ar := [xI (1), xI (x8), xR_ (x3), xR_ (x2)]) (rest := [xI (x7)]) (r2 := xr_328) (by decide +kernel) (by decide +kernel) (by decide +kernel) xr_328_e rfl (by decide) (by simp only [List.map_cons, List.map_nil, List.sum_cons, List.sum_nil, xR_cat, xI_cat, xZ_cat]; decide) e114 ?_
      refine xc_i (k328 (d := d + 108)  hx8 (show xin (1) by decide) e113) rfl (fun hi116 => ?_)
      refine xe_iadd (by decide +kernel) rfl ?_
      refine xe_isr (ins := .istore 7) (len := 2) (i := 7) (by decide +kernel) rfl rfl rfl (by decide) (xk_k (show ¬ (0 : Nat) = 7 by decide) (Or.inl (show ¬ (0 + 1 : Nat) = 7 by decide)) (xk_k (show ¬ (2 : Nat) = 7 by decide) (Or.inl (show ¬ (2 + 1 : Nat) = 7 by decide)) (xk_k (show ¬ (3 : Nat) = 7 by decide) (Or.inl (show ¬ (3 + 1 : Nat) = 7 by decide)) (xk_d rfl (xk_k (show ¬ (8 : Nat) = 7 by decide) (Or.inl (show ¬ (8 + 1 : Nat) = 7 by decide)) xk_n))))) rfl ?_
      refine xW_lv rfl (l := [(0, xR_ (x0)), (2, xR_ (x2)), (3, xR_ (x3)), (7, xI (xwr ((x7) + (R115.1)))), (8, xI (x8))]) (xsb_of ⟨rfl, rfl, rfl, rfl, rfl, trivial⟩ (show [7, 0, 2, 3, 8].Nodup by decide)) ?_
      exact k326_259  hr220 (xin_wr _) hx8 h
def f326_220   (f : Nat) : Nat → Nat → Nat → Nat → Int → Int → xj_M → Option (Int × xj_M)
  | 0, _, _, _, _, _, _ => none
  | n + 1, x0, x2, x3, x7, x8, M => f326_220b   (f326_220   f n) f x0 x2 x3 x7 x8 M
theorem k326_220 {d f : Nat}     : ∀ {n : Nat} {x0 : Nat} {x2 : Nat} {x3 : Nat} {x7 : Int} {x8 : Int} {M : xj_M} {R : Int × xj_M}, xin x7 → xin x8 → f326_220   f n x0 x2 x3 x7 x8 M = some R → xW (d + 113) (none, d + 113, none) xr_326 (220, [(0, xR_ x0), (2, xR_ x2), (3, xR_ x3), (7, xI x7), (8, xI x8)], [], M) (xQi R) := by
  intro n
  induction n with
  | zero => intros; rename_i h; cases h
  | succ n ih => intros; rename_i h; exact k326_220b   ih (by assumption) (by assumption) h
def f326_153b  (r153 : Nat → Nat → Nat → Int → Int → xj_M → Option (Int × xj_M)) (f : Nat) (x0 : Nat) (x2 : Nat) (x3 : Nat) (x6 : Int) (x7 : Int) (M : xj_M) : Option (Int × xj_M) := ((xq_gr 15 29 (x0) M).bind fun v117 => ((xq_gi 14 8 (v117) M).bind fun v119 => (if (v119) ≤ (x7) then ((xq_gi 13 33 (x2) M).bind fun v122 => (if (xwr ((v122) + (x6))) ≤ (400) then f326_220   f f (x0) (x2) (x3) (0) (0) M else (some (-4, M)))) else ((xq_gr 15 29 (x0) M).bind fun v125 => ((xq_gr 14 5 (v125) M).bind fun v127 => ((xq_ab (v127) (x7) M).bind fun v129 => (if (v129) = 0 then f326_192  r153 f (x0) (x2) (x3) (x6) (x7) M else ((xq_is 15 (x0) M).bind fun _ => ((f328  f (x0) (x2) (x3) (x7) (0) M).bind fun R134 => f326_192  r153 f (x0) (x2) (x3) (xwr ((x6) + (R134.1))) (x7) R134.2)))))))))
theorem k326_153b {d f : Nat}  {r153 : Nat → Nat → Nat → Int → Int → xj_M → Option (Int × xj_M)}  (hr153 : ∀ {x0 : Nat} {x2 : Nat} {x3 : Nat} {x6 : Int} {x7 : Int} {M : xj_M} {R : Int × xj_M}, xin x6 → xin x7 → r153 x0 x2 x3 x6 x7 M = some R → xW (d + 113) (none, d + 113, none) xr_326 (153, [(0, xR_ x0), (2, xR_ x2), (3, xR_ x3), (6, xI x6), (7, xI x7)], [], M) (xQi R)) {x0 : Nat} {x2 : Nat} {x3 : Nat} {x6 : Int} {x7 : Int} {M : xj_M} {R : Int × xj_M} (hx6 : xin x6) (hx7 : xin x7) (h : f326_153b  r153 f x0 x2 x3 x6 x7 M = some R) : xW (d + 113) (none, d + 113, none) xr_326 (153, [(0, xR_ x0), (2, xR_ x2), (3, xR_ x3), (6, xI x6), (7, xI x7)], [], M) (xQi R) := by
  unfold f326_153b at h
  refine xe_ldn (ins := .iload 7) (len := 2) (by decide +kernel) rfl rfl rfl rfl ?_
  refine xe_alr (ins := .aload_n 0) (len := 1) (i := 0) (by decide +kernel) rfl rfl rfl rfl rfl ?_
  obtain ⟨v117, e118, h⟩ := xbnd h
  refine xs_gr (i := 439) (c := 15) (k := 29) (by decide +kernel) (by decide) (by decide +kernel) e118 rfl ?_
  obtain ⟨v119, e120, h⟩ := xbnd h
  refine xs_gi (i := 166) (c := 14) (k := 8) (by decide +kernel) (by decide) (by decide +kernel) e120 rfl ?_
  refine xe_icmpge (off := 36) (t := 198) (by decide +kernel) (by decide) rfl hx7 (xq_gi_in e120) (fun c121 => ?_) (fun c121 => ?_)
  · rw [if_pos c121] at h
    refine xe_alr (ins := .aload_n 2) (len := 1) (i := 2) (by decide +kernel) rfl rfl rfl rfl rfl ?_
    obtain ⟨v122, e123, h⟩ := xbnd h
    refine xs_gi (i := 715) (c := 13) (k := 33) (by decide +kernel) (by decide) (by decide +kernel) e123 rfl ?_
    refine xe_ldn (ins := .iload 6) (len := 2) (by decide +kernel) rfl rfl rfl rfl ?_
    refine xe_iadd (by decide +kernel) rfl ?_
    refine xe_sipush (n := 400) (by decide +kernel) (by decide) rfl ?_
    refine xe_icmple (off := 6) (t := 214) (by decide +kernel) (by decide) rfl (xin_wr _) (show xin (400) by decide) (fun c124 => ?_) (fun c124 => ?_)
    · rw [if_pos c124] at h
      refine xe_iconst (n := 0) (by decide +kernel) rfl ?_
      refine xe_isr (ins := .istore 7) (len := 2) (i := 7) (by decide +kernel) rfl rfl rfl (by decide) (xk_k (show ¬ (0 : Nat) = 7 by decide) (Or.inl (show ¬ (0 + 1 : Nat) = 7 by decide)) (xk_k (show ¬ (2 : Nat) = 7 by decide) (Or.inl (show ¬ (2 + 1 : Nat) = 7 by decide)) (xk_k (show ¬ (3 : Nat) = 7 by decide) (Or.inl (show ¬ (3 + 1 : Nat) = 7 by decide)) (xk_k (show ¬ (6 : Nat) = 7 by decide) (Or.inr (xI_cat _)) (xk_d rfl xk_n))))) rfl ?_
      refine xe_iconst (n := 0) (by decide +kernel) rfl ?_
      refine xe_isr (ins := .istore 8) (len := 2) (i := 8) (by decide +kernel) rfl rfl rfl (by decide) (xk_k (show ¬ (7 : Nat) = 8 by decide) (Or.inr (xI_cat _)) (xk_k (show ¬ (0 : Nat) = 8 by decide) (Or.inl (show ¬ (0 + 1 : Nat) = 8 by decide)) (xk_k (show ¬ (2 : Nat) = 8 by decide) (Or.inl (show ¬ (2 + 1 : Nat) = 8 by decide)) (xk_k (show ¬ (3 : Nat) = 8 by decide) (Or.inl (show ¬ (3 + 1 : Nat) = 8 by decide)) (xk_k (show ¬ (6 : Nat) = 8 by decide) (Or.inl (show ¬ (6 + 1 : Nat) = 8 by decide)) xk_n))))) rfl ?_
      refine xW_lv rfl (l := [(0, xR_ (x0)), (2, xR_ (x2)), (3, xR_ (x3)), (7, xI (0)), (8, xI (0))]) (xsb_of ⟨rfl, rfl, rfl, rfl, rfl, trivial⟩ (show [8, 7, 0, 2, 3, 6].Nodup by decide)) ?_
      exact k326_220   (show xin (0) by decide) (show xin (0) by decide) h
    · rw [if_neg c124] at h
      refine xe_bipush (n := -4) (by decide +kernel) (by decide) rfl ?_
      cases h
      exact xe_ret_i (ty := .int) (by decide +kernel) rfl rfl ⟨rfl, rfl, (show xin (-4) by decide)⟩
  · rw [if_neg c121] at h
    refine xe_alr (ins := .aload_n 0) (len := 1) (i := 0) (by decide +kernel) rfl rfl rfl rfl rfl ?_
    obtain ⟨v125, e126, h⟩ := xbnd h
    refine xs_gr (i := 439) (c := 15) (k := 29) (by decide +kernel) (by decide) (by decide +kernel) e126 rfl ?_
    obtain ⟨v127, e128, h⟩ := xbnd h
    refine xs_gr (i := 187) (c := 14) (k := 5) (by decide +kernel) (by decide) (by decide +kernel) e128 rfl ?_
    refine xe_ldn (ins := .iload 7) (len := 2) (by decide +kernel) rfl rfl rfl rfl ?_
    obtain ⟨v129, e130, h⟩ := xbnd h
    refine xs_bald (by decide +kernel) hx7 e130 rfl ?_
    refine xe_ifeq (off := 17) (t := 192) (by decide +kernel) (by decide) rfl (xq_ab_in e130) (fun c131 => ?_) (fun c131 => ?_)
    · rw [if_pos c131] at h
      refine xW_lv rfl (l := [(0, xR_ (x0)), (2, xR_ (x2)), (3, xR_ (x3)), (6, xI (x6)), (7, xI (x7))]) (xsb_of ⟨rfl, rfl, rfl, rfl, rfl, trivial⟩ (show [0, 2, 3, 6, 7].Nodup by decide)) ?_
      exact k326_192  hr153 hx6 hx7 h
    · rw [if_neg c131] at h
      refine xe_ldn (ins := .iload 6) (len := 2) (by decide +kernel) rfl rfl rfl rfl ?_
      refine xe_alr (ins := .aload_n 0) (len := 1) (i := 0) (by decide +kernel) rfl rfl rfl rfl rfl ?_
      refine xe_alr (ins := .aload_n 2) (len := 1) (i := 2) (by decide +kernel) rfl rfl rfl rfl rfl ?_
      refine xe_alr (ins := .aload_n 3) (len := 1) (i := 3) (by decide +kernel) rfl rfl rfl rfl rfl ?_
      refine xe_ldn (ins := .iload 7) (len := 2) (by decide +kernel) rfl rfl rfl rfl ?_
      refine xe_iconst (n := 0) (by decide +kernel) rfl ?_
      obtain ⟨_, e133, h⟩ := xbnd h
      obtain ⟨R134, e132, h⟩ := xbnd h
      refine xs_cv (i := 918) (j := 328) (ar := [xI (0), xI (x7), xR_ (x3), xR_ (x2)]) (rest := [xI (x6)]) (r2 := xr_328) (by decide +kernel) (by decide +kernel) (by decide +kernel) xr_328_e rfl (by decide) (by simp only [List.map_cons, List.map_nil, List.sum_cons, List.sum_nil, xR_cat, xI_cat, xZ_cat]; decide) e133 ?_
      refine xc_i (k328 (d := d + 108)  hx7 (show xin (0) by decide) e132) rfl (fun hi135 => ?_)
      refine xe_iadd (by decide +kernel) rfl ?_
      refine xe_isr (ins := .istore 6) (len := 2) (i := 6) (by decide +kernel) rfl rfl rfl (by decide) (xk_k (show ¬ (0 : Nat) = 6 by decide) (Or.inl (show ¬ (0 + 1 : Nat) = 6 by decide)) (xk_k (show ¬ (2 : Nat) = 6 by decide) (Or.inl (show ¬ (2 + 1 : Nat) = 6 by decide)) (xk_k (show ¬ (3 : Nat) = 6 by decide) (Or.inl (show ¬ (3 + 1 : Nat) = 6 by decide)) (xk_d rfl (xk_k (show ¬ (7 : Nat) = 6 by decide) (Or.inl (show ¬ (7 + 1 : Nat) = 6 by decide)) xk_n))))) rfl ?_
      refine xW_lv rfl (l := [(0, xR_ (x0)), (2, xR_ (x2)), (3, xR_ (x3)), (6, xI (xwr ((x6) + (R134.1)))), (7, xI (x7))]) (xsb_of ⟨rfl, rfl, rfl, rfl, rfl, trivial⟩ (show [6, 0, 2, 3, 7].Nodup by decide)) ?_
      exact k326_192  hr153 (xin_wr _) hx7 h
def f326_153   (f : Nat) : Nat → Nat → Nat → Nat → Int → Int → xj_M → Option (Int × xj_M)
  | 0, _, _, _, _, _, _ => none
  | n + 1, x0, x2, x3, x6, x7, M => f326_153b   (f326_153   f n) f x0 x2 x3 x6 x7 M
theorem k326_153 {d f : Nat}     : ∀ {n : Nat} {x0 : Nat} {x2 : Nat} {x3 : Nat} {x6 : Int} {x7 : Int} {M : xj_M} {R : Int × xj_M}, xin x6 → xin x7 → f326_153   f n x0 x2 x3 x6 x7 M = some R → xW (d + 113) (none, d + 113, none) xr_326 (153, [(0, xR_ x0), (2, xR_ x2), (3, xR_ x3), (6, xI x6), (7, xI x7)], [], M) (xQi R) := by
  intro n
  induction n with
  | zero => intros; rename_i h; cases h
  | succ n ih => intros; rename_i h; exact k326_153b   ih (by assumption) (by assumption) h
def f326  (f : Nat) (a0 : Nat) (a1 : Int) (M : xj_M) : Option (Int × xj_M) := ((xq_pi 15 74 (a0) (0) M).bind fun M136 => (if (a1) < 0 then f326_22   f  M136 else (if (4) ≤ (a1) then f326_22   f  M136 else ((xq_gi 15 62 (a0) M136).bind fun v140 => (if ¬ (a1) = (v140) then ((xq_gr 15 61 (a0) M136).bind fun v143 => ((xq_gi 15 62 (a0) M136).bind fun v145 => ((xq_ar (v143) (v145) M136).bind fun v147 => ((xq_gr 15 61 (a0) M136).bind fun v149 => ((xq_ar (v149) (a1) M136).bind fun v151 => ((xq_gi 13 35 (v151) M136).bind fun v153 => ((xq_gi 15 62 (a0) M136).bind fun v155 => (if ¬ (v153) = (v155) then f326_64   f  M136 else ((xq_gi 13 36 (v151) M136).bind fun v158 => ((xq_is 15 (a0) M136).bind fun _ => ((f310  f (a0) (v147) (v158) M136).bind fun R162 => (if ¬ (R162.1) = 0 then ((xq_gi 13 36 (v151) R162.2).bind fun v165 => ((xq_gi 13 1 (v147) R162.2).bind fun v167 => ((xq_gi 13 1 (v151) R162.2).bind fun v169 => (if ¬ (v167) = (v169) then f326_115   f  R162.2 else ((xq_gr 13 14 (v147) R162.2).bind fun v172 => ((xq_gi 13 17 (v147) R162.2).bind fun v174 => ((f309  f (v172) (v174) (v165) R162.2).bind fun R177 => (if 0 < (R177.1) then f326_115   f  R177.2 else ((xq_gr 13 14 (v151) R177.2).bind fun v180 => ((xq_gi 13 17 (v151) R177.2).bind fun v182 => ((f309  f (v180) (v182) (v165) R177.2).bind fun R185 => (if (R185.1) ≤ 0 then ((xq_is 15 (a0) R185.2).bind fun _ => ((f296  f (a0) R185.2).bind fun M190 => ((xq_gr 15 80 (a0) M190).bind fun v192 => ((xq_is 15 (a0) M190).bind fun _ => ((f311  f (a0) (v147) (v165) (v192) M190).bind fun R196 => ((xq_is 15 (a0) R196.2).bind fun _ => ((f327  f (a0) (v147) (v151) R196.2).bind fun R200 => (if (R200.1) = 0 then f326_153   f f (a0) (v147) (v151) (0) (0) R200.2 else (some (-3, R200.2)))))))))) else f326_115   f  R185.2)))))))))))) else f326_64   f  R162.2)))))))))))) else f326_22   f  M136)))))
theorem k326 {d f : Nat}   {a0 : Nat} {a1 : Int} {M : xj_M} {R : Int × xj_M} (ha1 : xin a1) (h : f326  f a0 a1 M = some R) : xT (d + 114) 326 [xR_ a0, xI a1] M (xQi R) := by
  refine xT_m xr_326_e (X := (none, d + 113, none)) rfl (xa_1 (xR_cat _) (xa_1 (xI_cat _) xa_n)) (by decide) ?_
  unfold f326 at h
  refine xe_alr (ins := .aload_n 0) (len := 1) (i := 0) (by decide +kernel) rfl rfl rfl rfl rfl ?_
  refine xe_iconst (n := 0) (by decide +kernel) rfl ?_
  obtain ⟨M136, e137, h⟩ := xbnd h
  refine xs_p (i := 699) (c := 15) (k := 74) (by decide +kernel) (by decide +kernel) (by decide +kernel) e137 rfl ?_
  refine xe_ldn (ins := .iload_n 1) (len := 1) (by decide +kernel) rfl rfl rfl rfl ?_
  refine xe_iflt (off := 16) (t := 22) (by decide +kernel) (by decide) rfl ha1 (fun c138 => ?_) (fun c138 => ?_)
  · rw [if_pos c138] at h
    refine xW_lv rfl (l := []) (xsb_of trivial (show [0, 1].Nodup by decide)) ?_
    exact k326_22    h
  · rw [if_neg c138] at h
    refine xe_ldn (ins := .iload_n 1) (len := 1) (by decide +kernel) rfl rfl rfl rfl ?_
    refine xe_iconst (n := 4) (by decide +kernel) rfl ?_
    refine xe_icmpge (off := 11) (t := 22) (by decide +kernel) (by decide) rfl ha1 (show xin (4) by decide) (fun c139 => ?_) (fun c139 => ?_)
    · rw [if_pos c139] at h
      refine xW_lv rfl (l := []) (xsb_of trivial (show [0, 1].Nodup by decide)) ?_
      exact k326_22    h
    · rw [if_neg c139] at h
      refine xe_ldn (ins := .iload_n 1) (len := 1) (by decide +kernel) rfl rfl rfl rfl ?_
      refine xe_alr (ins := .aload_n 0) (len := 1) (i := 0) (by decide +kernel) rfl rfl rfl rfl rfl ?_
      obtain ⟨v140, e141, h⟩ := xbnd h
      refine xs_gi (i := 664) (c := 15) (k := 62) (by decide +kernel) (by decide) (by decide +kernel) e141 rfl ?_
      refine xe_icmpne (off := 5) (t := 24) (by decide +kernel) (by decide) rfl ha1 (xq_gi_in e141) (fun c142 => ?_) (fun c142 => ?_)
      · rw [if_pos c142] at h
        refine xe_alr (ins := .aload_n 0) (len := 1) (i := 0) (by decide +kernel) rfl rfl rfl rfl rfl ?_
        obtain ⟨v143, e144, h⟩ := xbnd h
        refine xs_gr (i := 667) (c := 15) (k := 61) (by decide +kernel) (by decide) (by decide +kernel) e144 rfl ?_
        refine xe_alr (ins := .aload_n 0) (len := 1) (i := 0) (by decide +kernel) rfl rfl rfl rfl rfl ?_
        obtain ⟨v145, e146, h⟩ := xbnd h
        refine xs_gi (i := 664) (c := 15) (k := 62) (by decide +kernel) (by decide) (by decide +kernel) e146 rfl ?_
        obtain ⟨v147, e148, h⟩ := xbnd h
        refine xs_aald (by decide +kernel) (xq_gi_in e146) e148 rfl ?_
        refine xe_asr (ins := .astore_n 2) (len := 1) (i := 2) (by decide +kernel) rfl rfl rfl (by decide) (xk_k (show ¬ (0 : Nat) = 2 by decide) (Or.inl (show ¬ (0 + 1 : Nat) = 2 by decide)) (xk_k (show ¬ (1 : Nat) = 2 by decide) (Or.inr (xI_cat _)) xk_n)) rfl ?_
        refine xe_alr (ins := .aload_n 0) (len := 1) (i := 0) (by decide +kernel) rfl rfl rfl rfl rfl ?_
        obtain ⟨v149, e150, h⟩ := xbnd h
        refine xs_gr (i := 667) (c := 15) (k := 61) (by decide +kernel) (by decide) (by decide +kernel) e150 rfl ?_
        refine xe_ldn (ins := .iload_n 1) (len := 1) (by decide +kernel) rfl rfl rfl rfl ?_
        obtain ⟨v151, e152, h⟩ := xbnd h
        refine xs_aald (by decide +kernel) ha1 e152 rfl ?_
        refine xe_asr (ins := .astore_n 3) (len := 1) (i := 3) (by decide +kernel) rfl rfl rfl (by decide) (xk_k (show ¬ (2 : Nat) = 3 by decide) (Or.inr (xR_cat _)) (xk_k (show ¬ (0 : Nat) = 3 by decide) (Or.inl (show ¬ (0 + 1 : Nat) = 3 by decide)) (xk_k (show ¬ (1 : Nat) = 3 by decide) (Or.inl (show ¬ (1 + 1 : Nat) = 3 by decide)) xk_n))) rfl ?_
        refine xe_alr (ins := .aload_n 3) (len := 1) (i := 3) (by decide +kernel) rfl rfl rfl rfl rfl ?_
        obtain ⟨v153, e154, h⟩ := xbnd h
        refine xs_gi (i := 868) (c := 13) (k := 35) (by decide +kernel) (by decide) (by decide +kernel) e154 rfl ?_
        refine xe_alr (ins := .aload_n 0) (len := 1) (i := 0) (by decide +kernel) rfl rfl rfl rfl rfl ?_
        obtain ⟨v155, e156, h⟩ := xbnd h
        refine xs_gi (i := 664) (c := 15) (k := 62) (by decide +kernel) (by decide) (by decide +kernel) e156 rfl ?_
        refine xe_icmpne (off := 15) (t := 64) (by decide +kernel) (by decide) rfl (xq_gi_in e154) (xq_gi_in e156) (fun c157 => ?_) (fun c157 => ?_)
        · rw [if_pos c157] at h
          refine xW_lv rfl (l := []) (xsb_of trivial (show [3, 2, 0, 1].Nodup by decide)) ?_
          exact k326_64    h
        · rw [if_neg c157] at h
          refine xe_alr (ins := .aload_n 0) (len := 1) (i := 0) (by decide +kernel) rfl rfl rfl rfl rfl ?_
          refine xe_alr (ins := .aload_n 2) (len := 1) (i := 2) (by decide +kernel) rfl rfl rfl rfl rfl ?_
          refine xe_alr (ins := .aload_n 3) (len := 1) (i := 3) (by decide +kernel) rfl rfl rfl rfl rfl ?_
          obtain ⟨v158, e159, h⟩ := xbnd h
          refine xs_gi (i := 871) (c := 13) (k := 36) (by decide +kernel) (by decide) (by decide +kernel) e159 rfl ?_
          obtain ⟨_, e161, h⟩ := xbnd h
          obtain ⟨R162, e160, h⟩ := xbnd h
          refine xs_cv (i := 874) (j := 310) (ar := [xI (v158), xR_ (v147)]) (rest := []) (r2 := xr_310) (by decide +kernel) (by decide +kernel) (by decide +kernel) xr_310_e rfl (by decide) (by decide) e161 ?_
          refine xc_i (k310 (d := d + 112)  (xq_gi_in e159) e160) rfl (fun hi163 => ?_)
          refine xe_ifne (off := 5) (t := 66) (by decide +kernel) (by decide) rfl hi163 (fun c164 => ?_) (fun c164 => ?_)
          · rw [if_pos c164] at h
            refine xe_alr (ins := .aload_n 3) (len := 1) (i := 3) (by decide +kernel) rfl rfl rfl rfl rfl ?_
            obtain ⟨v165, e166, h⟩ := xbnd h
            refine xs_gi (i := 871) (c := 13) (k := 36) (by decide +kernel) (by decide) (by decide +kernel) e166 rfl ?_
            refine xe_isr (ins := .istore 4) (len := 2) (i := 4) (by decide +kernel) rfl rfl rfl (by decide) (xk_k (show ¬ (3 : Nat) = 4 by decide) (Or.inr (xR_cat _)) (xk_k (show ¬ (2 : Nat) = 4 by decide) (Or.inl (show ¬ (2 + 1 : Nat) = 4 by decide)) (xk_k (show ¬ (0 : Nat) = 4 by decide) (Or.inl (show ¬ (0 + 1 : Nat) = 4 by decide)) (xk_k (show ¬ (1 : Nat) = 4 by decide) (Or.inl (show ¬ (1 + 1 : Nat) = 4 by decide)) xk_n)))) rfl ?_
            refine xe_alr (ins := .aload_n 2) (len := 1) (i := 2) (by decide +kernel) rfl rfl rfl rfl rfl ?_
            obtain ⟨v167, e168, h⟩ := xbnd h
            refine xs_gi (i := 671) (c := 13) (k := 1) (by decide +kernel) (by decide) (by decide +kernel) e168 rfl ?_
            refine xe_alr (ins := .aload_n 3) (len := 1) (i := 3) (by decide +kernel) rfl rfl rfl rfl rfl ?_
            obtain ⟨v169, e170, h⟩ := xbnd h
            refine xs_gi (i := 671) (c := 13) (k := 1) (by decide +kernel) (by decide) (by decide +kernel) e170 rfl ?_
            refine xe_icmpne (off := 35) (t := 115) (by decide +kernel) (by decide) rfl (xq_gi_in e168) (xq_gi_in e170) (fun c171 => ?_) (fun c171 => ?_)
            · rw [if_pos c171] at h
              refine xW_lv rfl (l := []) (xsb_of trivial (show [4, 3, 2, 0, 1].Nodup by decide)) ?_
              exact k326_115    h
            · rw [if_neg c171] at h
              refine xe_alr (ins := .aload_n 2) (len := 1) (i := 2) (by decide +kernel) rfl rfl rfl rfl rfl ?_
              obtain ⟨v172, e173, h⟩ := xbnd h
              refine xs_gr (i := 734) (c := 13) (k := 14) (by decide +kernel) (by decide) (by decide +kernel) e173 rfl ?_
              refine xe_alr (ins := .aload_n 2) (len := 1) (i := 2) (by decide +kernel) rfl rfl rfl rfl rfl ?_
              obtain ⟨v174, e175, h⟩ := xbnd h
              refine xs_gi (i := 737) (c := 13) (k := 17) (by decide +kernel) (by decide) (by decide +kernel) e175 rfl ?_
              refine xe_ldn (ins := .iload 4) (len := 2) (by decide +kernel) rfl rfl rfl rfl ?_
              obtain ⟨R177, e176, h⟩ := xbnd h
              refine xs_cs (kd := 2) (by decide) (i := 840) (j := 309) (ar := [xI (v165), xI (v174), xR_ (v172)]) (rest := []) (r2 := xr_309) (by decide +kernel) (by decide +kernel) (by decide +kernel) xr_309_e rfl (by decide) ?_
              refine xc_i (k309 (d := d + 112)  (xq_gi_in e175) (xq_gi_in e166) e176) rfl (fun hi178 => ?_)
              refine xe_ifgt (off := 19) (t := 115) (by decide +kernel) (by decide) rfl hi178 (fun c179 => ?_) (fun c179 => ?_)
              · rw [if_pos c179] at h
                refine xW_lv rfl (l := []) (xsb_of trivial (show [4, 3, 2, 0, 1].Nodup by decide)) ?_
                exact k326_115    h
              · rw [if_neg c179] at h
                refine xe_alr (ins := .aload_n 3) (len := 1) (i := 3) (by decide +kernel) rfl rfl rfl rfl rfl ?_
                obtain ⟨v180, e181, h⟩ := xbnd h
                refine xs_gr (i := 734) (c := 13) (k := 14) (by decide +kernel) (by decide) (by decide +kernel) e181 rfl ?_
                refine xe_alr (ins := .aload_n 3) (len := 1) (i := 3) (by decide +kernel) rfl rfl rfl rfl rfl ?_
                obtain ⟨v182, e183, h⟩ := xbnd h
                refine xs_gi (i := 737) (c := 13) (k := 17) (by decide +kernel) (by decide) (by decide +kernel) e183 rfl ?_
                refine xe_ldn (ins := .iload 4) (len := 2) (by decide +kernel) rfl rfl rfl rfl ?_
                obtain ⟨R185, e184, h⟩ := xbnd h
                refine xs_cs (kd := 2) (by decide) (i := 840) (j := 309) (ar := [xI (v165), xI (v182), xR_ (v180)]) (rest := []) (r2 := xr_309) (by decide +kernel) (by decide +kernel) (by decide +kernel) xr_309_e rfl (by decide) ?_
                refine xc_i (k309 (d := d + 112)  (xq_gi_in e183) (xq_gi_in e166) e184) rfl (fun hi186 => ?_)
                refine xe_ifle (off := 6) (t := 118) (by decide +kernel) (by decide) rfl hi186 (fun c187 => ?_) (fun c187 => ?_)
                · rw [if_pos c187] at h
                  refine xe_alr (ins := .aload_n 0) (len := 1) (i := 0) (by decide +kernel) rfl rfl rfl rfl rfl ?_
                  obtain ⟨_, e189, h⟩ := xbnd h
                  obtain ⟨M190, e188, h⟩ := xbnd h
                  refine xs_cv (i := 884) (j := 296) (ar := []) (rest := []) (r2 := xr_296) (by decide +kernel) (by decide +kernel) (by decide +kernel) xr_296_e rfl (by decide) (by decide) e189 ?_
                  refine xc_v (k296 (d := d + 0)   e188) rfl ?_
                  refine xe_alr (ins := .aload_n 0) (len := 1) (i := 0) (by decide +kernel) rfl rfl rfl rfl rfl ?_
                  refine xe_alr (ins := .aload_n 2) (len := 1) (i := 2) (by decide +kernel) rfl rfl rfl rfl rfl ?_
                  refine xe_ldn (ins := .iload 4) (len := 2) (by decide +kernel) rfl rfl rfl rfl ?_
                  refine xe_alr (ins := .aload_n 0) (len := 1) (i := 0) (by decide +kernel) rfl rfl rfl rfl rfl ?_
                  obtain ⟨v192, e193, h⟩ := xbnd h
                  refine xs_gr (i := 858) (c := 15) (k := 80) (by decide +kernel) (by decide) (by decide +kernel) e193 rfl ?_
                  obtain ⟨_, e195, h⟩ := xbnd h
                  obtain ⟨R196, e194, h⟩ := xbnd h
                  refine xs_cv (i := 861) (j := 311) (ar := [xR_ (v192), xI (v165), xR_ (v147)]) (rest := []) (r2 := xr_311) (by decide +kernel) (by decide +kernel) (by decide +kernel) xr_311_e rfl (by decide) (by decide) e195 ?_
                  refine xc_i (k311 (d := d + 109)  (xq_gi_in e166) e194) rfl (fun hi197 => ?_)
                  refine xe_isr (ins := .istore 5) (len := 2) (i := 5) (by decide +kernel) rfl rfl rfl (by decide) (xk_k (show ¬ (4 : Nat) = 5 by decide) (Or.inr (xI_cat _)) (xk_k (show ¬ (3 : Nat) = 5 by decide) (Or.inl (show ¬ (3 + 1 : Nat) = 5 by decide)) (xk_k (show ¬ (2 : Nat) = 5 by decide) (Or.inl (show ¬ (2 + 1 : Nat) = 5 by decide)) (xk_k (show ¬ (0 : Nat) = 5 by decide) (Or.inl (show ¬ (0 + 1 : Nat) = 5 by decide)) (xk_k (show ¬ (1 : Nat) = 5 by decide) (Or.inl (show ¬ (1 + 1 : Nat) = 5 by decide)) xk_n))))) rfl ?_
                  refine xe_alr (ins := .aload_n 0) (len := 1) (i := 0) (by decide +kernel) rfl rfl rfl rfl rfl ?_
                  refine xe_alr (ins := .aload_n 2) (len := 1) (i := 2) (by decide +kernel) rfl rfl rfl rfl rfl ?_
                  refine xe_alr (ins := .aload_n 3) (len := 1) (i := 3) (by decide +kernel) rfl rfl rfl rfl rfl ?_
                  obtain ⟨_, e199, h⟩ := xbnd h
                  obtain ⟨R200, e198, h⟩ := xbnd h
                  refine xs_cv (i := 914) (j := 327) (ar := [xR_ (v151), xR_ (v147)]) (rest := []) (r2 := xr_327) (by decide +kernel) (by decide +kernel) (by decide +kernel) xr_327_e rfl (by decide) (by decide) e199 ?_
                  refine xc_i (k327 (d := d + 109)   e198) rfl (fun hi201 => ?_)
                  refine xe_ifeq (off := 6) (t := 147) (by decide +kernel) (by decide) rfl hi201 (fun c202 => ?_) (fun c202 => ?_)
                  · rw [if_pos c202] at h
                    refine xe_iconst (n := 0) (by decide +kernel) rfl ?_
                    refine xe_isr (ins := .istore 6) (len := 2) (i := 6) (by decide +kernel) rfl rfl rfl (by decide) (xk_k (show ¬ (5 : Nat) = 6 by decide) (Or.inr (xI_cat _)) (xk_k (show ¬ (4 : Nat) = 6 by decide) (Or.inl (show ¬ (4 + 1 : Nat) = 6 by decide)) (xk_k (show ¬ (3 : Nat) = 6 by decide) (Or.inl (show ¬ (3 + 1 : Nat) = 6 by decide)) (xk_k (show ¬ (2 : Nat) = 6 by decide) (Or.inl (show ¬ (2 + 1 : Nat) = 6 by decide)) (xk_k (show ¬ (0 : Nat) = 6 by decide) (Or.inl (show ¬ (0 + 1 : Nat) = 6 by decide)) (xk_k (show ¬ (1 : Nat) = 6 by decide) (Or.inl (show ¬ (1 + 1 : Nat) = 6 by decide)) xk_n)))))) rfl ?_
                    refine xe_iconst (n := 0) (by decide +kernel) rfl ?_
                    refine xe_isr (ins := .istore 7) (len := 2) (i := 7) (by decide +kernel) rfl rfl rfl (by decide) (xk_k (show ¬ (6 : Nat) = 7 by decide) (Or.inr (xI_cat _)) (xk_k (show ¬ (5 : Nat) = 7 by decide) (Or.inl (show ¬ (5 + 1 : Nat) = 7 by decide)) (xk_k (show ¬ (4 : Nat) = 7 by decide) (Or.inl (show ¬ (4 + 1 : Nat) = 7 by decide)) (xk_k (show ¬ (3 : Nat) = 7 by decide) (Or.inl (show ¬ (3 + 1 : Nat) = 7 by decide)) (xk_k (show ¬ (2 : Nat) = 7 by decide) (Or.inl (show ¬ (2 + 1 : Nat) = 7 by decide)) (xk_k (show ¬ (0 : Nat) = 7 by decide) (Or.inl (show ¬ (0 + 1 : Nat) = 7 by decide)) (xk_k (show ¬ (1 : Nat) = 7 by decide) (Or.inl (show ¬ (1 + 1 : Nat) = 7 by decide)) xk_n))))))) rfl ?_
                    refine xW_lv rfl (l := [(0, xR_ (a0)), (2, xR_ (v147)), (3, xR_ (v151)), (6, xI (0)), (7, xI (0))]) (xsb_of ⟨rfl, rfl, rfl, rfl, rfl, trivial⟩ (show [7, 6, 5, 4, 3, 2, 0, 1].Nodup by decide)) ?_
                    exact k326_153   (show xin (0) by decide) (show xin (0) by decide) h
                  · rw [if_neg c202] at h
                    refine xe_bipush (n := -3) (by decide +kernel) (by decide) rfl ?_
                    cases h
                    exact xe_ret_i (ty := .int) (by decide +kernel) rfl rfl ⟨rfl, rfl, (show xin (-3) by decide)⟩
                · rw [if_neg c187] at h
                  refine xW_lv rfl (l := []) (xsb_of trivial (show [4, 3, 2, 0, 1].Nodup by decide)) ?_
                  exact k326_115    h
          · rw [if_neg c164] at h
            refine xW_lv rfl (l := []) (xsb_of trivial (show [3, 2, 0, 1].Nodup by decide)) ?_
            exact k326_64    h
      · rw [if_neg c142] at h
        refine xW_lv rfl (l := []) (xsb_of trivial (show [0, 1].Nodup by decide)) ?_
        exact k326_22    h
-- ChangeHouseModel.program
def xr_363 : xj_mR := (15, yX15_program, cX15_program, 3, (Option.some Jvm.ClassFile.FieldType.int), 0, false, (14, 8), (1, 12))
set_option maxRecDepth 20000 in
theorem xr_363_e : xj_row 363 = some xr_363 := rfl
def f363  (f : Nat) (a0 : Nat) (M : xj_M) : Option (Int × xj_M) := ((xq_is 15 (a0) M).bind fun _ => ((f361  f (a0) M).bind fun R103 => ((xq_pi 15 75 (a0) (-1) R103.2).bind fun M105 => ((xq_gr 15 31 (a0) M105).bind fun v107 => ((xq_gr 15 68 (a0) M105).bind fun v109 => ((xq_is 15 (a0) M105).bind fun _ => ((f231  f (a0) (v107) (v109) (0) (R103.1) M105).bind fun M113 => ((xq_is 15 (a0) M113).bind fun _ => ((f211  f (a0) M113).bind fun R117 => (if (R117.1) = 0 then ((xq_gr 15 31 (a0) R117.2).bind fun v120 => ((xq_is 15 (a0) R117.2).bind fun _ => ((f252  f (a0) (v120) R117.2).bind fun M124 => ((xq_gi 15 26 (a0) M124).bind fun v126 => (if (v126) = 0 then ((xq_gr 15 61 (a0) M124).bind fun v129 => ((xq_gi 15 62 (a0) M124).bind fun v131 => ((xq_ar (v129) (v131) M124).bind fun v133 => ((xq_is 15 (a0) M124).bind fun _ => ((f294  f (a0) (R103.1) M124).bind fun R137 => ((xq_pi 13 34 (v133) (R137.1) R137.2).bind fun M139 => ((xq_pi 13 33 (v133) (0) M139).bind fun M141 => ((xq_gr 15 31 (a0) M141).bind fun v143 => ((xq_gi 14 9 (v143) M141).bind fun v145 => (some (v145, M141))))))))))) else ((xq_gi 15 26 (a0) M124).bind fun v147 => ((xq_gi 15 27 (a0) M124).bind fun v149 => ((xq_is 15 (a0) M124).bind fun _ => ((f362  f (a0) (v147) (v149) M124).bind fun R153 => (some (R153.1, R153.2))))))))))) else ((xq_gi 15 7 (a0) R117.2).bind fun v155 => (some (xwr ((-1) - (v155)), R117.2)))))))))))))
theorem k363 {d f : Nat}   {a0 : Nat} {M : xj_M} {R : Int × xj_M}  (h : f363  f a0 M = some R) : xT (d + 112) 363 [xR_ a0] M (xQi R) := by
  refine xT_m xr_363_e (X := (none, d + 111, none)) rfl (xa_1 (xR_cat _) xa_n) (by decide) ?_
  unfold f363 at h
  refine xe_alr (ins := .aload_n 0) (len := 1) (i := 0) (by decide +kernel) rfl rfl rfl rfl rfl ?_
  obtain ⟨_, e102, h⟩ := xbnd h
  obtain ⟨R103, e101, h⟩ := xbnd h
  refine xs_cv (i := 1080) (j := 361) (ar := []) (rest := []) (r2 := xr_361) (by decide +kernel) (by decide +kernel) (by decide +kernel) xr_361_e rfl (by decide) (by decide) e102 ?_
  refine xc_i (k361 (d := d + 110)   e101) rfl (fun hi104 => ?_)
  refine xe_isr (ins := .istore_n 1) (len := 1) (i := 1) (by decide +kernel) rfl rfl rfl (by decide) (xk_k (show ¬ (0 : Nat) = 1 by decide) (Or.inr (xR_cat _)) xk_n) rfl ?_
  refine xe_alr (ins := .aload_n 0) (len := 1) (i := 0) (by decide +kernel) rfl rfl rfl rfl rfl ?_
  refine xe_iconst (n := -1) (by decide +kernel) rfl ?_
  obtain ⟨M105, e106, h⟩ := xbnd h
  refine xs_p (i := 1112) (c := 15) (k := 75) (by decide +kernel) (by decide +kernel) (by decide +kernel) e106 rfl ?_
  refine xe_alr (ins := .aload_n 0) (len := 1) (i := 0) (by decide +kernel) rfl rfl rfl rfl rfl ?_
  refine xe_alr (ins := .aload_n 0) (len := 1) (i := 0) (by decide +kernel) rfl rfl rfl rfl rfl ?_
  obtain ⟨v107, e108, h⟩ := xbnd h
  refine xs_gr (i := 1106) (c := 15) (k := 31) (by decide +kernel) (by decide) (by decide +kernel) e108 rfl ?_
  refine xe_alr (ins := .aload_n 0) (len := 1) (i := 0) (by decide +kernel) rfl rfl rfl rfl rfl ?_
  obtain ⟨v109, e110, h⟩ := xbnd h
  refine xs_gr (i := 645) (c := 15) (k := 68) (by decide +kernel) (by decide) (by decide +kernel) e110 rfl ?_
  refine xe_iconst (n := 0) (by decide +kernel) rfl ?_
  refine xe_ldn (ins := .iload_n 1) (len := 1) (by decide +kernel) rfl rfl rfl rfl ?_
  obtain ⟨_, e112, h⟩ := xbnd h
  obtain ⟨M113, e111, h⟩ := xbnd h
  refine xs_cv (i := 648) (j := 231) (ar := [xI (R103.1), xI (0), xR_ (v109), xR_ (v107)]) (rest := []) (r2 := xr_231) (by decide +kernel) (by decide +kernel) (by decide +kernel) xr_231_e rfl (by decide) (by decide) e112 ?_
  refine xc_v (k231 (d := d + 0)  (show xin (0) by decide) hi104 e111) rfl ?_
  refine xe_alr (ins := .aload_n 0) (len := 1) (i := 0) (by decide +kernel) rfl rfl rfl rfl rfl ?_
  obtain ⟨_, e116, h⟩ := xbnd h
  obtain ⟨R117, e115, h⟩ := xbnd h
  refine xs_cv (i := 28) (j := 211) (ar := []) (rest := []) (r2 := xr_211) (by decide +kernel) (by decide +kernel) (by decide +kernel) xr_211_e rfl (by decide) (by decide) e116 ?_
  refine xc_i (k211 (d := d + 110)   e115) rfl (fun hi118 => ?_)
  refine xe_ifeq (off := 10) (t := 38) (by decide +kernel) (by decide) rfl hi118 (fun c119 => ?_) (fun c119 => ?_)
  · rw [if_pos c119] at h
    refine xe_alr (ins := .aload_n 0) (len := 1) (i := 0) (by decide +kernel) rfl rfl rfl rfl rfl ?_
    refine xe_alr (ins := .aload_n 0) (len := 1) (i := 0) (by decide +kernel) rfl rfl rfl rfl rfl ?_
    obtain ⟨v120, e121, h⟩ := xbnd h
    refine xs_gr (i := 1106) (c := 15) (k := 31) (by decide +kernel) (by decide) (by decide +kernel) e121 rfl ?_
    obtain ⟨_, e123, h⟩ := xbnd h
    obtain ⟨M124, e122, h⟩ := xbnd h
    refine xs_cv (i := 652) (j := 252) (ar := [xR_ (v120)]) (rest := []) (r2 := xr_252) (by decide +kernel) (by decide +kernel) (by decide +kernel) xr_252_e rfl (by decide) (by decide) e123 ?_
    refine xc_v (k252 (d := d + 107)   e122) rfl ?_
    refine xe_alr (ins := .aload_n 0) (len := 1) (i := 0) (by decide +kernel) rfl rfl rfl rfl rfl ?_
    obtain ⟨v126, e127, h⟩ := xbnd h
    refine xs_gi (i := 382) (c := 15) (k := 26) (by decide +kernel) (by decide) (by decide +kernel) e127 rfl ?_
    refine xe_ifeq (off := 16) (t := 66) (by decide +kernel) (by decide) rfl (xq_gi_in e127) (fun c128 => ?_) (fun c128 => ?_)
    · rw [if_pos c128] at h
      refine xe_alr (ins := .aload_n 0) (len := 1) (i := 0) (by decide +kernel) rfl rfl rfl rfl rfl ?_
      obtain ⟨v129, e130, h⟩ := xbnd h
      refine xs_gr (i := 667) (c := 15) (k := 61) (by decide +kernel) (by decide) (by decide +kernel) e130 rfl ?_
      refine xe_alr (ins := .aload_n 0) (len := 1) (i := 0) (by decide +kernel) rfl rfl rfl rfl rfl ?_
      obtain ⟨v131, e132, h⟩ := xbnd h
      refine xs_gi (i := 664) (c := 15) (k := 62) (by decide +kernel) (by decide) (by decide +kernel) e132 rfl ?_
      obtain ⟨v133, e134, h⟩ := xbnd h
      refine xs_aald (by decide +kernel) (xq_gi_in e132) e134 rfl ?_
      refine xe_asr (ins := .astore_n 2) (len := 1) (i := 2) (by decide +kernel) rfl rfl rfl (by decide) (xk_k (show ¬ (1 : Nat) = 2 by decide) (Or.inr (xI_cat _)) (xk_k (show ¬ (0 : Nat) = 2 by decide) (Or.inl (show ¬ (0 + 1 : Nat) = 2 by decide)) xk_n)) rfl ?_
      refine xe_alr (ins := .aload_n 2) (len := 1) (i := 2) (by decide +kernel) rfl rfl rfl rfl rfl ?_
      refine xe_alr (ins := .aload_n 0) (len := 1) (i := 0) (by decide +kernel) rfl rfl rfl rfl rfl ?_
      refine xe_ldn (ins := .iload_n 1) (len := 1) (by decide +kernel) rfl rfl rfl rfl ?_
      obtain ⟨_, e136, h⟩ := xbnd h
      obtain ⟨R137, e135, h⟩ := xbnd h
      refine xs_cv (i := 1083) (j := 294) (ar := [xI (R103.1)]) (rest := [xR_ (v133)]) (r2 := xr_294) (by decide +kernel) (by decide +kernel) (by decide +kernel) xr_294_e rfl (by decide) (by simp only [List.map_cons, List.map_nil, List.sum_cons, List.sum_nil, xR_cat, xI_cat, xZ_cat]; decide) e136 ?_
      refine xc_i (k294 (d := d + 110)  hi104 e135) rfl (fun hi138 => ?_)
      obtain ⟨M139, e140, h⟩ := xbnd h
      refine xs_p (i := 702) (c := 13) (k := 34) (by decide +kernel) (by decide +kernel) (by decide +kernel) e140 rfl ?_
      refine xe_alr (ins := .aload_n 2) (len := 1) (i := 2) (by decide +kernel) rfl rfl rfl rfl rfl ?_
      refine xe_iconst (n := 0) (by decide +kernel) rfl ?_
      obtain ⟨M141, e142, h⟩ := xbnd h
      refine xs_p (i := 715) (c := 13) (k := 33) (by decide +kernel) (by decide +kernel) (by decide +kernel) e142 rfl ?_
      refine xe_alr (ins := .aload_n 0) (len := 1) (i := 0) (by decide +kernel) rfl rfl rfl rfl rfl ?_
      obtain ⟨v143, e144, h⟩ := xbnd h
      refine xs_gr (i := 1106) (c := 15) (k := 31) (by decide +kernel) (by decide) (by decide +kernel) e144 rfl ?_
      obtain ⟨v145, e146, h⟩ := xbnd h
      refine xs_gi (i := 171) (c := 14) (k := 9) (by decide +kernel) (by decide) (by decide +kernel) e146 rfl ?_
      cases h
      exact xe_ret_i (ty := .int) (by decide +kernel) rfl rfl ⟨rfl, rfl, (xq_gi_in e146)⟩
    · rw [if_neg c128] at h
      refine xe_alr (ins := .aload_n 0) (len := 1) (i := 0) (by decide +kernel) rfl rfl rfl rfl rfl ?_
      refine xe_alr (ins := .aload_n 0) (len := 1) (i := 0) (by decide +kernel) rfl rfl rfl rfl rfl ?_
      obtain ⟨v147, e148, h⟩ := xbnd h
      refine xs_gi (i := 382) (c := 15) (k := 26) (by decide +kernel) (by decide) (by decide +kernel) e148 rfl ?_
      refine xe_alr (ins := .aload_n 0) (len := 1) (i := 0) (by decide +kernel) rfl rfl rfl rfl rfl ?_
      obtain ⟨v149, e150, h⟩ := xbnd h
      refine xs_gi (i := 385) (c := 15) (k := 27) (by decide +kernel) (by decide) (by decide +kernel) e150 rfl ?_
      obtain ⟨_, e152, h⟩ := xbnd h
      obtain ⟨R153, e151, h⟩ := xbnd h
      refine xs_cv (i := 1134) (j := 362) (ar := [xI (v149), xI (v147)]) (rest := []) (r2 := xr_362) (by decide +kernel) (by decide +kernel) (by decide +kernel) xr_362_e rfl (by decide) (by decide) e152 ?_
      refine xc_i (k362 (d := d + 110)  (xq_gi_in e148) (xq_gi_in e150) e151) rfl (fun hi154 => ?_)
      cases h
      exact xe_ret_i (ty := .int) (by decide +kernel) rfl rfl ⟨rfl, rfl, hi154⟩
  · rw [if_neg c119] at h
    refine xe_iconst (n := -1) (by decide +kernel) rfl ?_
    refine xe_alr (ins := .aload_n 0) (len := 1) (i := 0) (by decide +kernel) rfl rfl rfl rfl rfl ?_
    obtain ⟨v155, e156, h⟩ := xbnd h
    refine xs_gi (i := 11) (c := 15) (k := 7) (by decide +kernel) (by decide) (by decide +kernel) e156 rfl ?_
    refine xe_isub (by decide +kernel) rfl ?_
    cases h
    exact xe_ret_i (ty := .int) (by decide +kernel) rfl rfl ⟨rfl, rfl, (xin_wr _)⟩
