/-! Mirrors (written by mk_mir.py) -/
-- ChangeHouseModel.change
def xr_365 : xj_mR := (15, yX15_change_, cX15_change_, 10, (Option.some Jvm.ClassFile.FieldType.int), 0, false, (14, 20), (1, 12))
set_option maxRecDepth 20000 in
theorem xr_365_e : xj_row 365 = some xr_365 := rfl
def f365_270  (r98 : Nat → Nat → Int → Int → Int → xj_M → Option (Int × xj_M)) (f : Nat) (x0 : Nat) (x2 : Nat) (x4 : Int) (x5 : Int) (x6 : Int) (M : xj_M) : Option (Int × xj_M) := r98 (x0) (x2) (xwr ((x4) + (1))) (x5) (x6) M
theorem k365_270 {d f : Nat}  {r98 : Nat → Nat → Int → Int → Int → xj_M → Option (Int × xj_M)}  (hr98 : ∀ {x0 : Nat} {x2 : Nat} {x4 : Int} {x5 : Int} {x6 : Int} {M : xj_M} {R : Int × xj_M}, xin x4 → xin x5 → xin x6 → r98 x0 x2 x4 x5 x6 M = some R → xW (d + 111) (none, d + 111, none) xr_365 (98, [(0, xR_ x0), (2, xR_ x2), (4, xI x4), (5, xI x5), (6, xI x6)], [], M) (xQi R)) {x0 : Nat} {x2 : Nat} {x4 : Int} {x5 : Int} {x6 : Int} {M : xj_M} {R : Int × xj_M} (hx4 : xin x4) (hx5 : xin x5) (hx6 : xin x6) (h : f365_270  r98 f x0 x2 x4 x5 x6 M = some R) : xW (d + 111) (none, d + 111, none) xr_365 (270, [(0, xR_ x0), (2, xR_ x2), (4, xI x4), (5, xI x5), (6, xI x6)], [], M) (xQi R) := by
  unfold f365_270 at h
  refine xe_iincr (i := 4) (n := 1) (by decide +kernel) (by decide) rfl (xk_k (show ¬ (0 : Nat) = 4 by decide) (Or.inl (show ¬ (0 + 1 : Nat) = 4 by decide)) (xk_k (show ¬ (2 : Nat) = 4 by decide) (Or.inl (show ¬ (2 + 1 : Nat) = 4 by decide)) (xk_d rfl (xk_k (show ¬ (5 : Nat) = 4 by decide) (Or.inl (show ¬ (5 + 1 : Nat) = 4 by decide)) (xk_k (show ¬ (6 : Nat) = 4 by decide) (Or.inl (show ¬ (6 + 1 : Nat) = 4 by decide)) xk_n))))) rfl ?_
  refine xe_goto (off := -175) (nx := 98) (by decide +kernel) (by decide) ?_
  refine xW_lv rfl (l := [(0, xR_ (x0)), (2, xR_ (x2)), (4, xI (xwr ((x4) + (1)))), (5, xI (x5)), (6, xI (x6))]) (xsb_of ⟨rfl, rfl, rfl, rfl, rfl, trivial⟩ (show [4, 0, 2, 5, 6].Nodup by decide)) ?_
  exact hr98 (xin_wr _) hx5 hx6 h
def f365_250  (r98 : Nat → Nat → Int → Int → Int → xj_M → Option (Int × xj_M)) (f : Nat) (x0 : Nat) (x2 : Nat) (x4 : Int) (x5 : Int) (x6 : Int) (x7 : Int) (y0 : Int) (M : xj_M) : Option (Int × xj_M) := (if ¬ (x5) = 0 then f365_270  r98 f (x0) (x2) (x4) (x5) (x6) M else (if (y0) = 0 then f365_270  r98 f (x0) (x2) (x4) (x5) (x6) M else f365_270  r98 f (x0) (x2) (x4) (y0) (x7) M))
theorem k365_250 {d f : Nat}  {r98 : Nat → Nat → Int → Int → Int → xj_M → Option (Int × xj_M)}  (hr98 : ∀ {x0 : Nat} {x2 : Nat} {x4 : Int} {x5 : Int} {x6 : Int} {M : xj_M} {R : Int × xj_M}, xin x4 → xin x5 → xin x6 → r98 x0 x2 x4 x5 x6 M = some R → xW (d + 111) (none, d + 111, none) xr_365 (98, [(0, xR_ x0), (2, xR_ x2), (4, xI x4), (5, xI x5), (6, xI x6)], [], M) (xQi R)) {x0 : Nat} {x2 : Nat} {x4 : Int} {x5 : Int} {x6 : Int} {x7 : Int} {y0 : Int} {M : xj_M} {R : Int × xj_M} (hx4 : xin x4) (hx5 : xin x5) (hx6 : xin x6) (hx7 : xin x7) (hy0 : xin y0) (h : f365_250  r98 f x0 x2 x4 x5 x6 x7 y0 M = some R) : xW (d + 111) (none, d + 111, none) xr_365 (250, [(0, xR_ x0), (2, xR_ x2), (4, xI x4), (5, xI x5), (6, xI x6), (7, xI x7)], [xI y0], M) (xQi R) := by
  unfold f365_250 at h
  refine xe_isr (ins := .istore 9) (len := 2) (i := 9) (by decide +kernel) rfl rfl rfl (by decide) (xk_k (show ¬ (0 : Nat) = 9 by decide) (Or.inl (show ¬ (0 + 1 : Nat) = 9 by decide)) (xk_k (show ¬ (2 : Nat) = 9 by decide) (Or.inl (show ¬ (2 + 1 : Nat) = 9 by decide)) (xk_k (show ¬ (4 : Nat) = 9 by decide) (Or.inl (show ¬ (4 + 1 : Nat) = 9 by decide)) (xk_k (show ¬ (5 : Nat) = 9 by decide) (Or.inl (show ¬ (5 + 1 : Nat) = 9 by decide)) (xk_k (show ¬ (6 : Nat) = 9 by decide) (Or.inl (show ¬ (6 + 1 : Nat) = 9 by decide)) (xk_k (show ¬ (7 : Nat) = 9 by decide) (Or.inl (show ¬ (7 + 1 : Nat) = 9 by decide)) xk_n)))))) rfl ?_
  refine xe_ldn (ins := .iload 5) (len := 2) (by decide +kernel) rfl rfl rfl rfl ?_
  refine xe_ifne (off := 16) (t := 270) (by decide +kernel) (by decide) rfl hx5 (fun c101 => ?_) (fun c101 => ?_)
  · rw [if_pos c101] at h
    refine xW_lv rfl (l := [(0, xR_ (x0)), (2, xR_ (x2)), (4, xI (x4)), (5, xI (x5)), (6, xI (x6))]) (xsb_of ⟨rfl, rfl, rfl, rfl, rfl, trivial⟩ (show [9, 0, 2, 4, 5, 6, 7].Nodup by decide)) ?_
    exact k365_270  hr98 hx4 hx5 hx6 h
  · rw [if_neg c101] at h
    refine xe_ldn (ins := .iload 9) (len := 2) (by decide +kernel) rfl rfl rfl rfl ?_
    refine xe_ifeq (off := 11) (t := 270) (by decide +kernel) (by decide) rfl hy0 (fun c102 => ?_) (fun c102 => ?_)
    · rw [if_pos c102] at h
      refine xW_lv rfl (l := [(0, xR_ (x0)), (2, xR_ (x2)), (4, xI (x4)), (5, xI (x5)), (6, xI (x6))]) (xsb_of ⟨rfl, rfl, rfl, rfl, rfl, trivial⟩ (show [9, 0, 2, 4, 5, 6, 7].Nodup by decide)) ?_
      exact k365_270  hr98 hx4 hx5 hx6 h
    · rw [if_neg c102] at h
      refine xe_ldn (ins := .iload 9) (len := 2) (by decide +kernel) rfl rfl rfl rfl ?_
      refine xe_isr (ins := .istore 5) (len := 2) (i := 5) (by decide +kernel) rfl rfl rfl (by decide) (xk_k (show ¬ (9 : Nat) = 5 by decide) (Or.inl (show ¬ (9 + 1 : Nat) = 5 by decide)) (xk_k (show ¬ (0 : Nat) = 5 by decide) (Or.inl (show ¬ (0 + 1 : Nat) = 5 by decide)) (xk_k (show ¬ (2 : Nat) = 5 by decide) (Or.inl (show ¬ (2 + 1 : Nat) = 5 by decide)) (xk_k (show ¬ (4 : Nat) = 5 by decide) (Or.inr (xI_cat _)) (xk_d rfl (xk_k (show ¬ (6 : Nat) = 5 by decide) (Or.inl (show ¬ (6 + 1 : Nat) = 5 by decide)) (xk_k (show ¬ (7 : Nat) = 5 by decide) (Or.inl (show ¬ (7 + 1 : Nat) = 5 by decide)) xk_n))))))) rfl ?_
      refine xe_ldn (ins := .iload 7) (len := 2) (by decide +kernel) rfl rfl rfl rfl ?_
      refine xe_isr (ins := .istore 6) (len := 2) (i := 6) (by decide +kernel) rfl rfl rfl (by decide) (xk_k (show ¬ (5 : Nat) = 6 by decide) (Or.inr (xI_cat _)) (xk_k (show ¬ (9 : Nat) = 6 by decide) (Or.inl (show ¬ (9 + 1 : Nat) = 6 by decide)) (xk_k (show ¬ (0 : Nat) = 6 by decide) (Or.inl (show ¬ (0 + 1 : Nat) = 6 by decide)) (xk_k (show ¬ (2 : Nat) = 6 by decide) (Or.inl (show ¬ (2 + 1 : Nat) = 6 by decide)) (xk_k (show ¬ (4 : Nat) = 6 by decide) (Or.inl (show ¬ (4 + 1 : Nat) = 6 by decide)) (xk_d rfl (xk_k (show ¬ (7 : Nat) = 6 by decide) (Or.inl (show ¬ (7 + 1 : Nat) = 6 by decide)) xk_n))))))) rfl ?_
      refine xW_lv rfl (l := [(0, xR_ (x0)), (2, xR_ (x2)), (4, xI (x4)), (5, xI (y0)), (6, xI (x7))]) (xsb_of ⟨rfl, rfl, rfl, rfl, rfl, trivial⟩ (show [6, 5, 9, 0, 2, 4, 7].Nodup by decide)) ?_
      exact k365_270  hr98 hx4 hy0 hx7 h
def f365_221  (r98 : Nat → Nat → Int → Int → Int → xj_M → Option (Int × xj_M)) (f : Nat) (x0 : Nat) (x2 : Nat) (x4 : Int) (x5 : Int) (x6 : Int) (x7 : Int) (M : xj_M) : Option (Int × xj_M) := f365_250  r98 f (x0) (x2) (x4) (x5) (x6) (x7) (2) M
theorem k365_221 {d f : Nat}  {r98 : Nat → Nat → Int → Int → Int → xj_M → Option (Int × xj_M)}  (hr98 : ∀ {x0 : Nat} {x2 : Nat} {x4 : Int} {x5 : Int} {x6 : Int} {M : xj_M} {R : Int × xj_M}, xin x4 → xin x5 → xin x6 → r98 x0 x2 x4 x5 x6 M = some R → xW (d + 111) (none, d + 111, none) xr_365 (98, [(0, xR_ x0), (2, xR_ x2), (4, xI x4), (5, xI x5), (6, xI x6)], [], M) (xQi R)) {x0 : Nat} {x2 : Nat} {x4 : Int} {x5 : Int} {x6 : Int} {x7 : Int} {M : xj_M} {R : Int × xj_M} (hx4 : xin x4) (hx5 : xin x5) (hx6 : xin x6) (hx7 : xin x7) (h : f365_221  r98 f x0 x2 x4 x5 x6 x7 M = some R) : xW (d + 111) (none, d + 111, none) xr_365 (221, [(0, xR_ x0), (2, xR_ x2), (4, xI x4), (5, xI x5), (6, xI x6), (7, xI x7)], [], M) (xQi R) := by
  unfold f365_221 at h
  refine xe_iconst (n := 2) (by decide +kernel) rfl ?_
  refine xe_goto (off := 28) (nx := 250) (by decide +kernel) (by decide) ?_
  refine xW_lv rfl (l := [(0, xR_ (x0)), (2, xR_ (x2)), (4, xI (x4)), (5, xI (x5)), (6, xI (x6)), (7, xI (x7))]) (xsb_of ⟨rfl, rfl, rfl, rfl, rfl, rfl, trivial⟩ (show [0, 2, 4, 5, 6, 7].Nodup by decide)) ?_
  exact k365_250  hr98 hx4 hx5 hx6 hx7 (show xin (2) by decide) h
def f365_200  (r98 : Nat → Nat → Int → Int → Int → xj_M → Option (Int × xj_M)) (f : Nat) (x0 : Nat) (x2 : Nat) (x4 : Int) (x5 : Int) (x6 : Int) (x7 : Int) (y0 : Int) (M : xj_M) : Option (Int × xj_M) := (if (y0) = (-1) then f365_221  r98 f (x0) (x2) (x4) (x5) (x6) (x7) M else ((xq_gr 15 31 (x0) M).bind fun v104 => ((xq_gr 14 5 (v104) M).bind fun v106 => ((xq_ab (v106) (y0) M).bind fun v108 => (if ¬ (v108) = 0 then ((xq_gr 15 31 (x0) M).bind fun v111 => ((xq_gr 14 1 (v111) M).bind fun v113 => ((xq_ai 3 (v113) (y0) M).bind fun v115 => ((xq_gr 15 101 (x0) M).bind fun v117 => ((xq_ai 3 (v117) (x4) M).bind fun v119 => (if (v115) = (v119) then f365_250  r98 f (x0) (x2) (x4) (x5) (x6) (x7) (0) M else f365_250  r98 f (x0) (x2) (x4) (x5) (x6) (x7) (3) M)))))) else f365_221  r98 f (x0) (x2) (x4) (x5) (x6) (x7) M)))))
theorem k365_200 {d f : Nat}  {r98 : Nat → Nat → Int → Int → Int → xj_M → Option (Int × xj_M)}  (hr98 : ∀ {x0 : Nat} {x2 : Nat} {x4 : Int} {x5 : Int} {x6 : Int} {M : xj_M} {R : Int × xj_M}, xin x4 → xin x5 → xin x6 → r98 x0 x2 x4 x5 x6 M = some R → xW (d + 111) (none, d + 111, none) xr_365 (98, [(0, xR_ x0), (2, xR_ x2), (4, xI x4), (5, xI x5), (6, xI x6)], [], M) (xQi R)) {x0 : Nat} {x2 : Nat} {x4 : Int} {x5 : Int} {x6 : Int} {x7 : Int} {y0 : Int} {M : xj_M} {R : Int × xj_M} (hx4 : xin x4) (hx5 : xin x5) (hx6 : xin x6) (hx7 : xin x7) (hy0 : xin y0) (h : f365_200  r98 f x0 x2 x4 x5 x6 x7 y0 M = some R) : xW (d + 111) (none, d + 111, none) xr_365 (200, [(0, xR_ x0), (2, xR_ x2), (4, xI x4), (5, xI x5), (6, xI x6), (7, xI x7)], [xI y0], M) (xQi R) := by
  unfold f365_200 at h
  refine xe_isr (ins := .istore 8) (len := 2) (i := 8) (by decide +kernel) rfl rfl rfl (by decide) (xk_k (show ¬ (0 : Nat) = 8 by decide) (Or.inl (show ¬ (0 + 1 : Nat) = 8 by decide)) (xk_k (show ¬ (2 : Nat) = 8 by decide) (Or.inl (show ¬ (2 + 1 : Nat) = 8 by decide)) (xk_k (show ¬ (4 : Nat) = 8 by decide) (Or.inl (show ¬ (4 + 1 : Nat) = 8 by decide)) (xk_k (show ¬ (5 : Nat) = 8 by decide) (Or.inl (show ¬ (5 + 1 : Nat) = 8 by decide)) (xk_k (show ¬ (6 : Nat) = 8 by decide) (Or.inl (show ¬ (6 + 1 : Nat) = 8 by decide)) (xk_k (show ¬ (7 : Nat) = 8 by decide) (Or.inr (xI_cat _)) xk_n)))))) rfl ?_
  refine xe_ldn (ins := .iload 8) (len := 2) (by decide +kernel) rfl rfl rfl rfl ?_
  refine xe_iconst (n := -1) (by decide +kernel) rfl ?_
  refine xe_icmpeq (off := 16) (t := 221) (by decide +kernel) (by decide) rfl hy0 (show xin (-1) by decide) (fun c103 => ?_) (fun c103 => ?_)
  · rw [if_pos c103] at h
    refine xW_lv rfl (l := [(0, xR_ (x0)), (2, xR_ (x2)), (4, xI (x4)), (5, xI (x5)), (6, xI (x6)), (7, xI (x7))]) (xsb_of ⟨rfl, rfl, rfl, rfl, rfl, rfl, trivial⟩ (show [8, 0, 2, 4, 5, 6, 7].Nodup by decide)) ?_
    exact k365_221  hr98 hx4 hx5 hx6 hx7 h
  · rw [if_neg c103] at h
    refine xe_alr (ins := .aload_n 0) (len := 1) (i := 0) (by decide +kernel) rfl rfl rfl rfl rfl ?_
    obtain ⟨v104, e105, h⟩ := xbnd h
    refine xs_gr (i := 1106) (c := 15) (k := 31) (by decide +kernel) (by decide) (by decide +kernel) e105 rfl ?_
    obtain ⟨v106, e107, h⟩ := xbnd h
    refine xs_gr (i := 187) (c := 14) (k := 5) (by decide +kernel) (by decide) (by decide +kernel) e107 rfl ?_
    refine xe_ldn (ins := .iload 8) (len := 2) (by decide +kernel) rfl rfl rfl rfl ?_
    obtain ⟨v108, e109, h⟩ := xbnd h
    refine xs_bald (by decide +kernel) hy0 e109 rfl ?_
    refine xe_ifne (off := 7) (t := 225) (by decide +kernel) (by decide) rfl (xq_ab_in e109) (fun c110 => ?_) (fun c110 => ?_)
    · rw [if_pos c110] at h
      refine xe_alr (ins := .aload_n 0) (len := 1) (i := 0) (by decide +kernel) rfl rfl rfl rfl rfl ?_
      obtain ⟨v111, e112, h⟩ := xbnd h
      refine xs_gr (i := 1106) (c := 15) (k := 31) (by decide +kernel) (by decide) (by decide +kernel) e112 rfl ?_
      obtain ⟨v113, e114, h⟩ := xbnd h
      refine xs_gr (i := 180) (c := 14) (k := 1) (by decide +kernel) (by decide) (by decide +kernel) e114 rfl ?_
      refine xe_ldn (ins := .iload 8) (len := 2) (by decide +kernel) rfl rfl rfl rfl ?_
      obtain ⟨v115, e116, h⟩ := xbnd h
      refine xs_iald rfl (by decide +kernel) hy0 e116 rfl ?_
      refine xe_alr (ins := .aload_n 0) (len := 1) (i := 0) (by decide +kernel) rfl rfl rfl rfl rfl ?_
      obtain ⟨v117, e118, h⟩ := xbnd h
      refine xs_gr (i := 1119) (c := 15) (k := 101) (by decide +kernel) (by decide) (by decide +kernel) e118 rfl ?_
      refine xe_ldn (ins := .iload 4) (len := 2) (by decide +kernel) rfl rfl rfl rfl ?_
      obtain ⟨v119, e120, h⟩ := xbnd h
      refine xs_iald rfl (by decide +kernel) hx4 e120 rfl ?_
      refine xe_icmpeq (off := 7) (t := 249) (by decide +kernel) (by decide) rfl (xq_ai_in e116) (xq_ai_in e120) (fun c121 => ?_) (fun c121 => ?_)
      · rw [if_pos c121] at h
        refine xe_iconst (n := 0) (by decide +kernel) rfl ?_
        refine xW_lv rfl (l := [(0, xR_ (x0)), (2, xR_ (x2)), (4, xI (x4)), (5, xI (x5)), (6, xI (x6)), (7, xI (x7))]) (xsb_of ⟨rfl, rfl, rfl, rfl, rfl, rfl, trivial⟩ (show [8, 0, 2, 4, 5, 6, 7].Nodup by decide)) ?_
        exact k365_250  hr98 hx4 hx5 hx6 hx7 (show xin (0) by decide) h
      · rw [if_neg c121] at h
        refine xe_iconst (n := 3) (by decide +kernel) rfl ?_
        refine xe_goto (off := 4) (nx := 250) (by decide +kernel) (by decide) ?_
        refine xW_lv rfl (l := [(0, xR_ (x0)), (2, xR_ (x2)), (4, xI (x4)), (5, xI (x5)), (6, xI (x6)), (7, xI (x7))]) (xsb_of ⟨rfl, rfl, rfl, rfl, rfl, rfl, trivial⟩ (show [8, 0, 2, 4, 5, 6, 7].Nodup by decide)) ?_
        exact k365_250  hr98 hx4 hx5 hx6 hx7 (show xin (3) by decide) h
    · rw [if_neg c110] at h
      refine xW_lv rfl (l := [(0, xR_ (x0)), (2, xR_ (x2)), (4, xI (x4)), (5, xI (x5)), (6, xI (x6)), (7, xI (x7))]) (xsb_of ⟨rfl, rfl, rfl, rfl, rfl, rfl, trivial⟩ (show [8, 0, 2, 4, 5, 6, 7].Nodup by decide)) ?_
      exact k365_221  hr98 hx4 hx5 hx6 hx7 h
def f365_158  (r98 : Nat → Nat → Int → Int → Int → xj_M → Option (Int × xj_M)) (f : Nat) (x0 : Nat) (x2 : Nat) (x4 : Int) (x5 : Int) (x6 : Int) (y0 : Int) (y1 : Int) (y2 : Nat) (M : xj_M) : Option (Int × xj_M) := ((xq_si (y2) (y1) (y0) M).bind fun M122 => ((xq_is 15 (x0) M122).bind fun _ => ((f213  f (x0) M122).bind fun M126 => ((xq_gi 15 4 (x0) M126).bind fun v128 => ((xq_is 15 (x0) M126).bind fun _ => ((f366  f (x0) (x4) M126).bind fun M132 => ((xq_is 15 (x0) M132).bind fun _ => ((f211  f (x0) M132).bind fun R136 => (if (R136.1) = 0 then ((xq_gr 15 31 (x0) R136.2).bind fun v139 => ((xq_gr 15 102 (x0) R136.2).bind fun v141 => ((xq_al (v141) (x4) R136.2).bind fun v143 => ((xq_is 14 (v139) R136.2).bind fun _ => ((f205  f (v139) (v143) R136.2).bind fun R147 => f365_200  r98 f (x0) (x2) (x4) (x5) (x6) (v128) (R147.1) R147.2))))) else f365_200  r98 f (x0) (x2) (x4) (x5) (x6) (v128) (-1) R136.2)))))))))
theorem k365_158 {d f : Nat}  {r98 : Nat → Nat → Int → Int → Int → xj_M → Option (Int × xj_M)}  (hr98 : ∀ {x0 : Nat} {x2 : Nat} {x4 : Int} {x5 : Int} {x6 : Int} {M : xj_M} {R : Int × xj_M}, xin x4 → xin x5 → xin x6 → r98 x0 x2 x4 x5 x6 M = some R → xW (d + 111) (none, d + 111, none) xr_365 (98, [(0, xR_ x0), (2, xR_ x2), (4, xI x4), (5, xI x5), (6, xI x6)], [], M) (xQi R)) {x0 : Nat} {x2 : Nat} {x4 : Int} {x5 : Int} {x6 : Int} {y0 : Int} {y1 : Int} {y2 : Nat} {M : xj_M} {R : Int × xj_M} (hx4 : xin x4) (hx5 : xin x5) (hx6 : xin x6) (hy0 : xin y0) (hy1 : xin y1) (h : f365_158  r98 f x0 x2 x4 x5 x6 y0 y1 y2 M = some R) : xW (d + 111) (none, d + 111, none) xr_365 (158, [(0, xR_ x0), (2, xR_ x2), (4, xI x4), (5, xI x5), (6, xI x6)], [xI y0, xI y1, xR_ y2], M) (xQi R) := by
  unfold f365_158 at h
  obtain ⟨M122, e123, h⟩ := xbnd h
  refine xs_iast (by decide +kernel) hy1 e123 rfl ?_
  refine xe_alr (ins := .aload_n 0) (len := 1) (i := 0) (by decide +kernel) rfl rfl rfl rfl rfl ?_
  obtain ⟨_, e125, h⟩ := xbnd h
  obtain ⟨M126, e124, h⟩ := xbnd h
  refine xs_cv (i := 118) (j := 213) (ar := []) (rest := []) (r2 := xr_213) (by decide +kernel) (by decide +kernel) (by decide +kernel) xr_213_e rfl (by decide) (by decide) e125 ?_
  refine xc_v (k213 (d := d + 104)   e124) rfl ?_
  refine xe_alr (ins := .aload_n 0) (len := 1) (i := 0) (by decide +kernel) rfl rfl rfl rfl rfl ?_
  obtain ⟨v128, e129, h⟩ := xbnd h
  refine xs_gi (i := 43) (c := 15) (k := 4) (by decide +kernel) (by decide) (by decide +kernel) e129 rfl ?_
  refine xe_isr (ins := .istore 7) (len := 2) (i := 7) (by decide +kernel) rfl rfl rfl (by decide) (xk_k (show ¬ (0 : Nat) = 7 by decide) (Or.inl (show ¬ (0 + 1 : Nat) = 7 by decide)) (xk_k (show ¬ (2 : Nat) = 7 by decide) (Or.inl (show ¬ (2 + 1 : Nat) = 7 by decide)) (xk_k (show ¬ (4 : Nat) = 7 by decide) (Or.inl (show ¬ (4 + 1 : Nat) = 7 by decide)) (xk_k (show ¬ (5 : Nat) = 7 by decide) (Or.inl (show ¬ (5 + 1 : Nat) = 7 by decide)) (xk_k (show ¬ (6 : Nat) = 7 by decide) (Or.inr (xI_cat _)) xk_n))))) rfl ?_
  refine xe_alr (ins := .aload_n 0) (len := 1) (i := 0) (by decide +kernel) rfl rfl rfl rfl rfl ?_
  refine xe_ldn (ins := .iload 4) (len := 2) (by decide +kernel) rfl rfl rfl rfl ?_
  obtain ⟨_, e131, h⟩ := xbnd h
  obtain ⟨M132, e130, h⟩ := xbnd h
  refine xs_cv (i := 1136) (j := 366) (ar := [xI (x4)]) (rest := []) (r2 := xr_366) (by decide +kernel) (by decide +kernel) (by decide +kernel) xr_366_e rfl (by decide) (by decide) e131 ?_
  refine xc_v (k366 (d := d + 102)  hx4 e130) rfl ?_
  refine xe_alr (ins := .aload_n 0) (len := 1) (i := 0) (by decide +kernel) rfl rfl rfl rfl rfl ?_
  obtain ⟨_, e135, h⟩ := xbnd h
  obtain ⟨R136, e134, h⟩ := xbnd h
  refine xs_cv (i := 28) (j := 211) (ar := []) (rest := []) (r2 := xr_211) (by decide +kernel) (by decide +kernel) (by decide +kernel) xr_211_e rfl (by decide) (by decide) e135 ?_
  refine xc_i (k211 (d := d + 110)   e134) rfl (fun hi137 => ?_)
  refine xe_ifeq (off := 7) (t := 186) (by decide +kernel) (by decide) rfl hi137 (fun c138 => ?_) (fun c138 => ?_)
  · rw [if_pos c138] at h
    refine xe_alr (ins := .aload_n 0) (len := 1) (i := 0) (by decide +kernel) rfl rfl rfl rfl rfl ?_
    obtain ⟨v139, e140, h⟩ := xbnd h
    refine xs_gr (i := 1106) (c := 15) (k := 31) (by decide +kernel) (by decide) (by decide +kernel) e140 rfl ?_
    refine xe_alr (ins := .aload_n 0) (len := 1) (i := 0) (by decide +kernel) rfl rfl rfl rfl rfl ?_
    obtain ⟨v141, e142, h⟩ := xbnd h
    refine xs_gr (i := 1122) (c := 15) (k := 102) (by decide +kernel) (by decide) (by decide +kernel) e142 rfl ?_
    refine xe_ldn (ins := .iload 4) (len := 2) (by decide +kernel) rfl rfl rfl rfl ?_
    obtain ⟨v143, e144, h⟩ := xbnd h
    refine xs_lald (by decide +kernel) hx4 e144 rfl ?_
    obtain ⟨_, e146, h⟩ := xbnd h
    obtain ⟨R147, e145, h⟩ := xbnd h
    refine xs_cv (i := 213) (j := 205) (ar := [xZ (v143)]) (rest := []) (r2 := xr_205) (by decide +kernel) (by decide +kernel) (by decide +kernel) xr_205_e rfl (by decide) (by decide) e146 ?_
    refine xc_i (k205 (d := d + 110)  (xq_al_in e144) e145) rfl (fun hi148 => ?_)
    refine xW_lv rfl (l := [(0, xR_ (x0)), (2, xR_ (x2)), (4, xI (x4)), (5, xI (x5)), (6, xI (x6)), (7, xI (v128))]) (xsb_of ⟨rfl, rfl, rfl, rfl, rfl, rfl, trivial⟩ (show [7, 0, 2, 4, 5, 6].Nodup by decide)) ?_
    exact k365_200  hr98 hx4 hx5 hx6 (xq_gi_in e129) hi148 h
  · rw [if_neg c138] at h
    refine xe_iconst (n := -1) (by decide +kernel) rfl ?_
    refine xe_goto (off := 17) (nx := 200) (by decide +kernel) (by decide) ?_
    refine xW_lv rfl (l := [(0, xR_ (x0)), (2, xR_ (x2)), (4, xI (x4)), (5, xI (x5)), (6, xI (x6)), (7, xI (v128))]) (xsb_of ⟨rfl, rfl, rfl, rfl, rfl, rfl, trivial⟩ (show [7, 0, 2, 4, 5, 6].Nodup by decide)) ?_
    exact k365_200  hr98 hx4 hx5 hx6 (xq_gi_in e129) (show xin (-1) by decide) h
def f365_138  (r98 : Nat → Nat → Int → Int → Int → xj_M → Option (Int × xj_M)) (f : Nat) (x0 : Nat) (x2 : Nat) (x4 : Int) (x5 : Int) (x6 : Int) (M : xj_M) : Option (Int × xj_M) := ((xq_gr 15 100 (x0) M).bind fun v149 => ((xq_is 15 (x0) M).bind fun _ => ((f220  f (x0) (43) M).bind fun R153 => (if (R153.1) = 0 then f365_158  r98 f (x0) (x2) (x4) (x5) (x6) (-1) (x4) (v149) R153.2 else f365_158  r98 f (x0) (x2) (x4) (x5) (x6) (1) (x4) (v149) R153.2))))
theorem k365_138 {d f : Nat}  {r98 : Nat → Nat → Int → Int → Int → xj_M → Option (Int × xj_M)}  (hr98 : ∀ {x0 : Nat} {x2 : Nat} {x4 : Int} {x5 : Int} {x6 : Int} {M : xj_M} {R : Int × xj_M}, xin x4 → xin x5 → xin x6 → r98 x0 x2 x4 x5 x6 M = some R → xW (d + 111) (none, d + 111, none) xr_365 (98, [(0, xR_ x0), (2, xR_ x2), (4, xI x4), (5, xI x5), (6, xI x6)], [], M) (xQi R)) {x0 : Nat} {x2 : Nat} {x4 : Int} {x5 : Int} {x6 : Int} {M : xj_M} {R : Int × xj_M} (hx4 : xin x4) (hx5 : xin x5) (hx6 : xin x6) (h : f365_138  r98 f x0 x2 x4 x5 x6 M = some R) : xW (d + 111) (none, d + 111, none) xr_365 (138, [(0, xR_ x0), (2, xR_ x2), (4, xI x4), (5, xI x5), (6, xI x6)], [], M) (xQi R) := by
  unfold f365_138 at h
  refine xe_alr (ins := .aload_n 0) (len := 1) (i := 0) (by decide +kernel) rfl rfl rfl rfl rfl ?_
  obtain ⟨v149, e150, h⟩ := xbnd h
  refine xs_gr (i := 1116) (c := 15) (k := 100) (by decide +kernel) (by decide) (by decide +kernel) e150 rfl ?_
  refine xe_ldn (ins := .iload 4) (len := 2) (by decide +kernel) rfl rfl rfl rfl ?_
  refine xe_alr (ins := .aload_n 0) (len := 1) (i := 0) (by decide +kernel) rfl rfl rfl rfl rfl ?_
  refine xe_bipush (n := 43) (by decide +kernel) (by decide) rfl ?_
  obtain ⟨_, e152, h⟩ := xbnd h
  obtain ⟨R153, e151, h⟩ := xbnd h
  refine xs_cv (i := 115) (j := 220) (ar := [xI (43)]) (rest := [xI (x4), xR_ (v149)]) (r2 := xr_220) (by decide +kernel) (by decide +kernel) (by decide +kernel) xr_220_e rfl (by decide) (by simp only [List.map_cons, List.map_nil, List.sum_cons, List.sum_nil, xR_cat, xI_cat, xZ_cat]; decide) e152 ?_
  refine xc_i (k220 (d := d + 109)  (show xin (43) by decide) e151) rfl (fun hi154 => ?_)
  refine xe_ifeq (off := 7) (t := 157) (by decide +kernel) (by decide) rfl hi154 (fun c155 => ?_) (fun c155 => ?_)
  · rw [if_pos c155] at h
    refine xe_iconst (n := -1) (by decide +kernel) rfl ?_
    refine xW_lv rfl (l := [(0, xR_ (x0)), (2, xR_ (x2)), (4, xI (x4)), (5, xI (x5)), (6, xI (x6))]) (xsb_of ⟨rfl, rfl, rfl, rfl, rfl, trivial⟩ (show [0, 2, 4, 5, 6].Nodup by decide)) ?_
    exact k365_158  hr98 hx4 hx5 hx6 (show xin (-1) by decide) hx4 h
  · rw [if_neg c155] at h
    refine xe_iconst (n := 1) (by decide +kernel) rfl ?_
    refine xe_goto (off := 4) (nx := 158) (by decide +kernel) (by decide) ?_
    refine xW_lv rfl (l := [(0, xR_ (x0)), (2, xR_ (x2)), (4, xI (x4)), (5, xI (x5)), (6, xI (x6))]) (xsb_of ⟨rfl, rfl, rfl, rfl, rfl, trivial⟩ (show [0, 2, 4, 5, 6].Nodup by decide)) ?_
    exact k365_158  hr98 hx4 hx5 hx6 (show xin (1) by decide) hx4 h
def f365_324b  (r324 : Nat → Nat → Int → Int → xj_M → Option (Int × xj_M)) (f : Nat) (x0 : Nat) (x2 : Nat) (x4 : Int) (x7 : Int) (M : xj_M) : Option (Int × xj_M) := (if (x4) ≤ (x7) then (some (x4, M)) else ((xq_gr 15 100 (x0) M).bind fun v157 => ((xq_ai 3 (v157) (x7) M).bind fun v159 => ((xq_gr 15 102 (x0) M).bind fun v161 => ((xq_al (v161) (x7) M).bind fun v163 => ((xq_gr 15 101 (x0) M).bind fun v165 => ((xq_ai 3 (v165) (x7) M).bind fun v167 => ((xq_gr 15 103 (x0) M).bind fun v169 => ((f329  f (x2) (v159) (v163) (v167) (v169) (xwr ((4) * (x7))) M).bind fun M172 => r324 (x0) (x2) (x4) (xwr ((x7) + (1))) M172)))))))))
theorem k365_324b {d f : Nat}  {r324 : Nat → Nat → Int → Int → xj_M → Option (Int × xj_M)}  (hr324 : ∀ {x0 : Nat} {x2 : Nat} {x4 : Int} {x7 : Int} {M : xj_M} {R : Int × xj_M}, xin x4 → xin x7 → r324 x0 x2 x4 x7 M = some R → xW (d + 111) (none, d + 111, none) xr_365 (324, [(0, xR_ x0), (2, xR_ x2), (4, xI x4), (7, xI x7)], [], M) (xQi R)) {x0 : Nat} {x2 : Nat} {x4 : Int} {x7 : Int} {M : xj_M} {R : Int × xj_M} (hx4 : xin x4) (hx7 : xin x7) (h : f365_324b  r324 f x0 x2 x4 x7 M = some R) : xW (d + 111) (none, d + 111, none) xr_365 (324, [(0, xR_ x0), (2, xR_ x2), (4, xI x4), (7, xI x7)], [], M) (xQi R) := by
  unfold f365_324b at h
  refine xe_ldn (ins := .iload 7) (len := 2) (by decide +kernel) rfl rfl rfl rfl ?_
  refine xe_ldn (ins := .iload 4) (len := 2) (by decide +kernel) rfl rfl rfl rfl ?_
  refine xe_icmpge (off := 42) (t := 370) (by decide +kernel) (by decide) rfl hx7 hx4 (fun c156 => ?_) (fun c156 => ?_)
  · rw [if_pos c156] at h
    refine xe_ldn (ins := .iload 4) (len := 2) (by decide +kernel) rfl rfl rfl rfl ?_
    cases h
    exact xe_ret_i (ty := .int) (by decide +kernel) rfl rfl ⟨rfl, rfl, hx4⟩
  · rw [if_neg c156] at h
    refine xe_alr (ins := .aload_n 2) (len := 1) (i := 2) (by decide +kernel) rfl rfl rfl rfl rfl ?_
    refine xe_alr (ins := .aload_n 0) (len := 1) (i := 0) (by decide +kernel) rfl rfl rfl rfl rfl ?_
    obtain ⟨v157, e158, h⟩ := xbnd h
    refine xs_gr (i := 1116) (c := 15) (k := 100) (by decide +kernel) (by decide) (by decide +kernel) e158 rfl ?_
    refine xe_ldn (ins := .iload 7) (len := 2) (by decide +kernel) rfl rfl rfl rfl ?_
    obtain ⟨v159, e160, h⟩ := xbnd h
    refine xs_iald rfl (by decide +kernel) hx7 e160 rfl ?_
    refine xe_alr (ins := .aload_n 0) (len := 1) (i := 0) (by decide +kernel) rfl rfl rfl rfl rfl ?_
    obtain ⟨v161, e162, h⟩ := xbnd h
    refine xs_gr (i := 1122) (c := 15) (k := 102) (by decide +kernel) (by decide) (by decide +kernel) e162 rfl ?_
    refine xe_ldn (ins := .iload 7) (len := 2) (by decide +kernel) rfl rfl rfl rfl ?_
    obtain ⟨v163, e164, h⟩ := xbnd h
    refine xs_lald (by decide +kernel) hx7 e164 rfl ?_
    refine xe_alr (ins := .aload_n 0) (len := 1) (i := 0) (by decide +kernel) rfl rfl rfl rfl rfl ?_
    obtain ⟨v165, e166, h⟩ := xbnd h
    refine xs_gr (i := 1119) (c := 15) (k := 101) (by decide +kernel) (by decide) (by decide +kernel) e166 rfl ?_
    refine xe_ldn (ins := .iload 7) (len := 2) (by decide +kernel) rfl rfl rfl rfl ?_
    obtain ⟨v167, e168, h⟩ := xbnd h
    refine xs_iald rfl (by decide +kernel) hx7 e168 rfl ?_
    refine xe_alr (ins := .aload_n 0) (len := 1) (i := 0) (by decide +kernel) rfl rfl rfl rfl rfl ?_
    obtain ⟨v169, e170, h⟩ := xbnd h
    refine xs_gr (i := 1125) (c := 15) (k := 103) (by decide +kernel) (by decide) (by decide +kernel) e170 rfl ?_
    refine xe_iconst (n := 4) (by decide +kernel) rfl ?_
    refine xe_ldn (ins := .iload 7) (len := 2) (by decide +kernel) rfl rfl rfl rfl ?_
    refine xe_imul (by decide +kernel) rfl ?_
    obtain ⟨M172, e171, h⟩ := xbnd h
    refine xs_cs (kd := 2) (by decide) (i := 939) (j := 329) (ar := [xI (xwr ((4) * (x7))), xR_ (v169), xI (v167), xZ (v163), xI (v159), xR_ (x2)]) (rest := []) (r2 := xr_329) (by decide +kernel) (by decide +kernel) (by decide +kernel) xr_329_e rfl (by decide) ?_
    refine xc_v (k329 (d := d + 110)  (xq_ai_in e160) (xq_al_in e164) (xq_ai_in e168) (xin_wr _) e171) rfl ?_
    refine xe_iincr (i := 7) (n := 1) (by decide +kernel) (by decide) rfl (xk_k (show ¬ (0 : Nat) = 7 by decide) (Or.inl (show ¬ (0 + 1 : Nat) = 7 by decide)) (xk_k (show ¬ (2 : Nat) = 7 by decide) (Or.inl (show ¬ (2 + 1 : Nat) = 7 by decide)) (xk_k (show ¬ (4 : Nat) = 7 by decide) (Or.inl (show ¬ (4 + 1 : Nat) = 7 by decide)) (xk_d rfl xk_n)))) rfl ?_
    refine xe_goto (off := -43) (nx := 324) (by decide +kernel) (by decide) ?_
    refine xW_lv rfl (l := [(0, xR_ (x0)), (2, xR_ (x2)), (4, xI (x4)), (7, xI (xwr ((x7) + (1))))]) (xsb_of ⟨rfl, rfl, rfl, rfl, trivial⟩ (show [7, 0, 2, 4].Nodup by decide)) ?_
    exact hr324 hx4 (xin_wr _) h
def f365_324   (f : Nat) : Nat → Nat → Nat → Int → Int → xj_M → Option (Int × xj_M)
  | 0, _, _, _, _, _ => none
  | n + 1, x0, x2, x4, x7, M => f365_324b   (f365_324   f n) f x0 x2 x4 x7 M
theorem k365_324 {d f : Nat}     : ∀ {n : Nat} {x0 : Nat} {x2 : Nat} {x4 : Int} {x7 : Int} {M : xj_M} {R : Int × xj_M}, xin x4 → xin x7 → f365_324   f n x0 x2 x4 x7 M = some R → xW (d + 111) (none, d + 111, none) xr_365 (324, [(0, xR_ x0), (2, xR_ x2), (4, xI x4), (7, xI x7)], [], M) (xQi R) := by
  intro n
  induction n with
  | zero => intros; rename_i h; cases h
  | succ n ih => intros; rename_i h; exact k365_324b   ih (by assumption) (by assumption) h
def f365_276   (f : Nat) (x0 : Nat) (x2 : Nat) (x4 : Int) (x5 : Int) (x6 : Int) (M : xj_M) : Option (Int × xj_M) := ((xq_is 15 (x0) M).bind fun _ => ((f211  f (x0) M).bind fun R176 => (if (R176.1) = 0 then (if (x5) = 0 then ((xq_gi 13 33 (x2) R176.2).bind fun v180 => (if (xwr ((v180) + (x4))) ≤ (400) then f365_324   f f (x0) (x2) (x4) (0) R176.2 else (some (-6000, R176.2)))) else ((xq_is 15 (x0) R176.2).bind fun _ => ((f362  f (x0) (x5) (x6) R176.2).bind fun R185 => (some (R185.1, R185.2))))) else ((xq_gi 15 7 (x0) R176.2).bind fun v187 => (some (xwr ((-1) - (v187)), R176.2))))))
theorem k365_276 {d f : Nat}     {x0 : Nat} {x2 : Nat} {x4 : Int} {x5 : Int} {x6 : Int} {M : xj_M} {R : Int × xj_M} (hx4 : xin x4) (hx5 : xin x5) (hx6 : xin x6) (h : f365_276   f x0 x2 x4 x5 x6 M = some R) : xW (d + 111) (none, d + 111, none) xr_365 (276, [(0, xR_ x0), (2, xR_ x2), (4, xI x4), (5, xI x5), (6, xI x6)], [], M) (xQi R) := by
  unfold f365_276 at h
  refine xe_alr (ins := .aload_n 0) (len := 1) (i := 0) (by decide +kernel) rfl rfl rfl rfl rfl ?_
  obtain ⟨_, e175, h⟩ := xbnd h
  obtain ⟨R176, e174, h⟩ := xbnd h
  refine xs_cv (i := 28) (j := 211) (ar := []) (rest := []) (r2 := xr_211) (by decide +kernel) (by decide +kernel) (by decide +kernel) xr_211_e rfl (by decide) (by decide) e175 ?_
  refine xc_i (k211 (d := d + 110)   e174) rfl (fun hi177 => ?_)
  refine xe_ifeq (off := 10) (t := 290) (by decide +kernel) (by decide) rfl hi177 (fun c178 => ?_) (fun c178 => ?_)
  · rw [if_pos c178] at h
    refine xe_ldn (ins := .iload 5) (len := 2) (by decide +kernel) rfl rfl rfl rfl ?_
    refine xe_ifeq (off := 12) (t := 304) (by decide +kernel) (by decide) rfl hx5 (fun c179 => ?_) (fun c179 => ?_)
    · rw [if_pos c179] at h
      refine xe_alr (ins := .aload_n 2) (len := 1) (i := 2) (by decide +kernel) rfl rfl rfl rfl rfl ?_
      obtain ⟨v180, e181, h⟩ := xbnd h
      refine xs_gi (i := 715) (c := 13) (k := 33) (by decide +kernel) (by decide) (by decide +kernel) e181 rfl ?_
      refine xe_ldn (ins := .iload 4) (len := 2) (by decide +kernel) rfl rfl rfl rfl ?_
      refine xe_iadd (by decide +kernel) rfl ?_
      refine xe_sipush (n := 400) (by decide +kernel) (by decide) rfl ?_
      refine xe_icmple (off := 7) (t := 321) (by decide +kernel) (by decide) rfl (xin_wr _) (show xin (400) by decide) (fun c182 => ?_) (fun c182 => ?_)
      · rw [if_pos c182] at h
        refine xe_iconst (n := 0) (by decide +kernel) rfl ?_
        refine xe_isr (ins := .istore 7) (len := 2) (i := 7) (by decide +kernel) rfl rfl rfl (by decide) (xk_k (show ¬ (0 : Nat) = 7 by decide) (Or.inl (show ¬ (0 + 1 : Nat) = 7 by decide)) (xk_k (show ¬ (2 : Nat) = 7 by decide) (Or.inl (show ¬ (2 + 1 : Nat) = 7 by decide)) (xk_k (show ¬ (4 : Nat) = 7 by decide) (Or.inl (show ¬ (4 + 1 : Nat) = 7 by decide)) (xk_k (show ¬ (5 : Nat) = 7 by decide) (Or.inl (show ¬ (5 + 1 : Nat) = 7 by decide)) (xk_k (show ¬ (6 : Nat) = 7 by decide) (Or.inr (xI_cat _)) xk_n))))) rfl ?_
        refine xW_lv rfl (l := [(0, xR_ (x0)), (2, xR_ (x2)), (4, xI (x4)), (7, xI (0))]) (xsb_of ⟨rfl, rfl, rfl, rfl, trivial⟩ (show [7, 0, 2, 4, 5, 6].Nodup by decide)) ?_
        exact k365_324   hx4 (show xin (0) by decide) h
      · rw [if_neg c182] at h
        refine xe_sipush (n := -6000) (by decide +kernel) (by decide) rfl ?_
        cases h
        exact xe_ret_i (ty := .int) (by decide +kernel) rfl rfl ⟨rfl, rfl, (show xin (-6000) by decide)⟩
    · rw [if_neg c179] at h
      refine xe_alr (ins := .aload_n 0) (len := 1) (i := 0) (by decide +kernel) rfl rfl rfl rfl rfl ?_
      refine xe_ldn (ins := .iload 5) (len := 2) (by decide +kernel) rfl rfl rfl rfl ?_
      refine xe_ldn (ins := .iload 6) (len := 2) (by decide +kernel) rfl rfl rfl rfl ?_
      obtain ⟨_, e184, h⟩ := xbnd h
      obtain ⟨R185, e183, h⟩ := xbnd h
      refine xs_cv (i := 1134) (j := 362) (ar := [xI (x6), xI (x5)]) (rest := []) (r2 := xr_362) (by decide +kernel) (by decide +kernel) (by decide +kernel) xr_362_e rfl (by decide) (by decide) e184 ?_
      refine xc_i (k362 (d := d + 110)  hx5 hx6 e183) rfl (fun hi186 => ?_)
      cases h
      exact xe_ret_i (ty := .int) (by decide +kernel) rfl rfl ⟨rfl, rfl, hi186⟩
  · rw [if_neg c178] at h
    refine xe_iconst (n := -1) (by decide +kernel) rfl ?_
    refine xe_alr (ins := .aload_n 0) (len := 1) (i := 0) (by decide +kernel) rfl rfl rfl rfl rfl ?_
    obtain ⟨v187, e188, h⟩ := xbnd h
    refine xs_gi (i := 11) (c := 15) (k := 7) (by decide +kernel) (by decide) (by decide +kernel) e188 rfl ?_
    refine xe_isub (by decide +kernel) rfl ?_
    cases h
    exact xe_ret_i (ty := .int) (by decide +kernel) rfl rfl ⟨rfl, rfl, (xin_wr _)⟩
def f365_98b  (r98 : Nat → Nat → Int → Int → Int → xj_M → Option (Int × xj_M)) (f : Nat) (x0 : Nat) (x2 : Nat) (x4 : Int) (x5 : Int) (x6 : Int) (M : xj_M) : Option (Int × xj_M) := ((xq_is 15 (x0) M).bind fun _ => ((f211  f (x0) M).bind fun R191 => (if ¬ (R191.1) = 0 then f365_276   f (x0) (x2) (x4) (x5) (x6) R191.2 else ((xq_gi 15 2 (x0) R191.2).bind fun v194 => (if (v194) = 0 then f365_276   f (x0) (x2) (x4) (x5) (x6) R191.2 else ((xq_is 15 (x0) R191.2).bind fun _ => ((f220  f (x0) (43) R191.2).bind fun R199 => (if ¬ (R199.1) = 0 then f365_138  r98 f (x0) (x2) (x4) (x5) (x6) R199.2 else ((xq_is 15 (x0) R199.2).bind fun _ => ((f220  f (x0) (45) R199.2).bind fun R204 => (if ¬ (R204.1) = 0 then f365_138  r98 f (x0) (x2) (x4) (x5) (x6) R204.2 else ((xq_gi 15 4 (x0) R204.2).bind fun v207 => ((xq_is 15 (x0) R204.2).bind fun _ => ((f210  f (x0) (v207) R204.2).bind fun M211 => f365_138  r98 f (x0) (x2) (x4) (x5) (x6) M211))))))))))))))
theorem k365_98b {d f : Nat}  {r98 : Nat → Nat → Int → Int → Int → xj_M → Option (Int × xj_M)}  (hr98 : ∀ {x0 : Nat} {x2 : Nat} {x4 : Int} {x5 : Int} {x6 : Int} {M : xj_M} {R : Int × xj_M}, xin x4 → xin x5 → xin x6 → r98 x0 x2 x4 x5 x6 M = some R → xW (d + 111) (none, d + 111, none) xr_365 (98, [(0, xR_ x0), (2, xR_ x2), (4, xI x4), (5, xI x5), (6, xI x6)], [], M) (xQi R)) {x0 : Nat} {x2 : Nat} {x4 : Int} {x5 : Int} {x6 : Int} {M : xj_M} {R : Int × xj_M} (hx4 : xin x4) (hx5 : xin x5) (hx6 : xin x6) (h : f365_98b  r98 f x0 x2 x4 x5 x6 M = some R) : xW (d + 111) (none, d + 111, none) xr_365 (98, [(0, xR_ x0), (2, xR_ x2), (4, xI x4), (5, xI x5), (6, xI x6)], [], M) (xQi R) := by
  unfold f365_98b at h
  refine xe_alr (ins := .aload_n 0) (len := 1) (i := 0) (by decide +kernel) rfl rfl rfl rfl rfl ?_
  obtain ⟨_, e190, h⟩ := xbnd h
  obtain ⟨R191, e189, h⟩ := xbnd h
  refine xs_cv (i := 28) (j := 211) (ar := []) (rest := []) (r2 := xr_211) (by decide +kernel) (by decide +kernel) (by decide +kernel) xr_211_e rfl (by decide) (by decide) e190 ?_
  refine xc_i (k211 (d := d + 110)   e189) rfl (fun hi192 => ?_)
  refine xe_ifne (off := 174) (t := 276) (by decide +kernel) (by decide) rfl hi192 (fun c193 => ?_) (fun c193 => ?_)
  · rw [if_pos c193] at h
    refine xW_lv rfl (l := [(0, xR_ (x0)), (2, xR_ (x2)), (4, xI (x4)), (5, xI (x5)), (6, xI (x6))]) (xsb_of ⟨rfl, rfl, rfl, rfl, rfl, trivial⟩ (show [0, 2, 4, 5, 6].Nodup by decide)) ?_
    exact k365_276   hx4 hx5 hx6 h
  · rw [if_neg c193] at h
    refine xe_alr (ins := .aload_n 0) (len := 1) (i := 0) (by decide +kernel) rfl rfl rfl rfl rfl ?_
    obtain ⟨v194, e195, h⟩ := xbnd h
    refine xs_gi (i := 46) (c := 15) (k := 2) (by decide +kernel) (by decide) (by decide +kernel) e195 rfl ?_
    refine xe_ifeq (off := 167) (t := 276) (by decide +kernel) (by decide) rfl (xq_gi_in e195) (fun c196 => ?_) (fun c196 => ?_)
    · rw [if_pos c196] at h
      refine xW_lv rfl (l := [(0, xR_ (x0)), (2, xR_ (x2)), (4, xI (x4)), (5, xI (x5)), (6, xI (x6))]) (xsb_of ⟨rfl, rfl, rfl, rfl, rfl, trivial⟩ (show [0, 2, 4, 5, 6].Nodup by decide)) ?_
      exact k365_276   hx4 hx5 hx6 h
    · rw [if_neg c196] at h
      refine xe_alr (ins := .aload_n 0) (len := 1) (i := 0) (by decide +kernel) rfl rfl rfl rfl rfl ?_
      refine xe_bipush (n := 43) (by decide +kernel) (by decide) rfl ?_
      obtain ⟨_, e198, h⟩ := xbnd h
      obtain ⟨R199, e197, h⟩ := xbnd h
      refine xs_cv (i := 115) (j := 220) (ar := [xI (43)]) (rest := []) (r2 := xr_220) (by decide +kernel) (by decide +kernel) (by decide +kernel) xr_220_e rfl (by decide) (by decide) e198 ?_
      refine xc_i (k220 (d := d + 109)  (show xin (43) by decide) e197) rfl (fun hi200 => ?_)
      refine xe_ifne (off := 20) (t := 138) (by decide +kernel) (by decide) rfl hi200 (fun c201 => ?_) (fun c201 => ?_)
      · rw [if_pos c201] at h
        refine xW_lv rfl (l := [(0, xR_ (x0)), (2, xR_ (x2)), (4, xI (x4)), (5, xI (x5)), (6, xI (x6))]) (xsb_of ⟨rfl, rfl, rfl, rfl, rfl, trivial⟩ (show [0, 2, 4, 5, 6].Nodup by decide)) ?_
        exact k365_138  hr98 hx4 hx5 hx6 h
      · rw [if_neg c201] at h
        refine xe_alr (ins := .aload_n 0) (len := 1) (i := 0) (by decide +kernel) rfl rfl rfl rfl rfl ?_
        refine xe_bipush (n := 45) (by decide +kernel) (by decide) rfl ?_
        obtain ⟨_, e203, h⟩ := xbnd h
        obtain ⟨R204, e202, h⟩ := xbnd h
        refine xs_cv (i := 115) (j := 220) (ar := [xI (45)]) (rest := []) (r2 := xr_220) (by decide +kernel) (by decide +kernel) (by decide +kernel) xr_220_e rfl (by decide) (by decide) e203 ?_
        refine xc_i (k220 (d := d + 109)  (show xin (45) by decide) e202) rfl (fun hi205 => ?_)
        refine xe_ifne (off := 11) (t := 138) (by decide +kernel) (by decide) rfl hi205 (fun c206 => ?_) (fun c206 => ?_)
        · rw [if_pos c206] at h
          refine xW_lv rfl (l := [(0, xR_ (x0)), (2, xR_ (x2)), (4, xI (x4)), (5, xI (x5)), (6, xI (x6))]) (xsb_of ⟨rfl, rfl, rfl, rfl, rfl, trivial⟩ (show [0, 2, 4, 5, 6].Nodup by decide)) ?_
          exact k365_138  hr98 hx4 hx5 hx6 h
        · rw [if_neg c206] at h
          refine xe_alr (ins := .aload_n 0) (len := 1) (i := 0) (by decide +kernel) rfl rfl rfl rfl rfl ?_
          refine xe_alr (ins := .aload_n 0) (len := 1) (i := 0) (by decide +kernel) rfl rfl rfl rfl rfl ?_
          obtain ⟨v207, e208, h⟩ := xbnd h
          refine xs_gi (i := 43) (c := 15) (k := 4) (by decide +kernel) (by decide) (by decide +kernel) e208 rfl ?_
          obtain ⟨_, e210, h⟩ := xbnd h
          obtain ⟨M211, e209, h⟩ := xbnd h
          refine xs_cv (i := 35) (j := 210) (ar := [xI (v207)]) (rest := []) (r2 := xr_210) (by decide +kernel) (by decide +kernel) (by decide +kernel) xr_210_e rfl (by decide) (by decide) e210 ?_
          refine xc_v (k210 (d := d + 110)  (xq_gi_in e208) e209) rfl ?_
          refine xW_lv rfl (l := [(0, xR_ (x0)), (2, xR_ (x2)), (4, xI (x4)), (5, xI (x5)), (6, xI (x6))]) (xsb_of ⟨rfl, rfl, rfl, rfl, rfl, trivial⟩ (show [0, 2, 4, 5, 6].Nodup by decide)) ?_
          exact k365_138  hr98 hx4 hx5 hx6 h
def f365_98   (f : Nat) : Nat → Nat → Nat → Int → Int → Int → xj_M → Option (Int × xj_M)
  | 0, _, _, _, _, _, _ => none
  | n + 1, x0, x2, x4, x5, x6, M => f365_98b   (f365_98   f n) f x0 x2 x4 x5 x6 M
theorem k365_98 {d f : Nat}     : ∀ {n : Nat} {x0 : Nat} {x2 : Nat} {x4 : Int} {x5 : Int} {x6 : Int} {M : xj_M} {R : Int × xj_M}, xin x4 → xin x5 → xin x6 → f365_98   f n x0 x2 x4 x5 x6 M = some R → xW (d + 111) (none, d + 111, none) xr_365 (98, [(0, xR_ x0), (2, xR_ x2), (4, xI x4), (5, xI x5), (6, xI x6)], [], M) (xQi R) := by
  intro n
  induction n with
  | zero => intros; rename_i h; cases h
  | succ n ih => intros; rename_i h; exact k365_98b   ih (by assumption) (by assumption) (by assumption) h
def f365_39   (f : Nat) (x0 : Nat) (x1 : Int) (x2 : Nat) (y0 : Int) (M : xj_M) : Option (Int × xj_M) := ((xq_gr 15 31 (x0) M).bind fun v213 => ((xq_gr 15 67 (x0) M).bind fun v215 => ((xq_gr 15 69 (x0) M).bind fun v217 => ((xq_ai 3 (v217) (y0) M).bind fun v219 => ((xq_gr 15 69 (x0) M).bind fun v221 => ((xq_ai 3 (v221) (y0) M).bind fun v223 => ((xq_gr 15 70 (x0) M).bind fun v225 => ((xq_ai 3 (v225) (y0) M).bind fun v227 => ((xq_is 15 (x0) M).bind fun _ => ((f231  f (x0) (v213) (v215) (v219) (xwr ((v223) + (v227))) M).bind fun M231 => ((xq_gr 15 31 (x0) M231).bind fun v233 => ((xq_is 15 (x0) M231).bind fun _ => ((f254  f (x0) (v233) M231).bind fun M237 => ((xq_gr 15 68 (x0) M237).bind fun v239 => ((xq_is 15 (x0) M237).bind fun _ => ((f212  f (x0) (v239) (0) (x1) M237).bind fun M243 => f365_98   f f (x0) (x2) (0) (0) (-1) M243))))))))))))))))
theorem k365_39 {d f : Nat}     {x0 : Nat} {x1 : Int} {x2 : Nat} {y0 : Int} {M : xj_M} {R : Int × xj_M} (hx1 : xin x1) (hy0 : xin y0) (h : f365_39   f x0 x1 x2 y0 M = some R) : xW (d + 111) (none, d + 111, none) xr_365 (39, [(0, xR_ x0), (1, xI x1), (2, xR_ x2)], [xI y0], M) (xQi R) := by
  unfold f365_39 at h
  refine xe_isr (ins := .istore_n 3) (len := 1) (i := 3) (by decide +kernel) rfl rfl rfl (by decide) (xk_k (show ¬ (0 : Nat) = 3 by decide) (Or.inl (show ¬ (0 + 1 : Nat) = 3 by decide)) (xk_k (show ¬ (1 : Nat) = 3 by decide) (Or.inl (show ¬ (1 + 1 : Nat) = 3 by decide)) (xk_k (show ¬ (2 : Nat) = 3 by decide) (Or.inr (xR_cat _)) xk_n))) rfl ?_
  refine xe_alr (ins := .aload_n 0) (len := 1) (i := 0) (by decide +kernel) rfl rfl rfl rfl rfl ?_
  refine xe_alr (ins := .aload_n 0) (len := 1) (i := 0) (by decide +kernel) rfl rfl rfl rfl rfl ?_
  obtain ⟨v213, e214, h⟩ := xbnd h
  refine xs_gr (i := 1106) (c := 15) (k := 31) (by decide +kernel) (by decide) (by decide +kernel) e214 rfl ?_
  refine xe_alr (ins := .aload_n 0) (len := 1) (i := 0) (by decide +kernel) rfl rfl rfl rfl rfl ?_
  obtain ⟨v215, e216, h⟩ := xbnd h
  refine xs_gr (i := 642) (c := 15) (k := 67) (by decide +kernel) (by decide) (by decide +kernel) e216 rfl ?_
  refine xe_alr (ins := .aload_n 0) (len := 1) (i := 0) (by decide +kernel) rfl rfl rfl rfl rfl ?_
  obtain ⟨v217, e218, h⟩ := xbnd h
  refine xs_gr (i := 630) (c := 15) (k := 69) (by decide +kernel) (by decide) (by decide +kernel) e218 rfl ?_
  refine xe_ldn (ins := .iload_n 3) (len := 1) (by decide +kernel) rfl rfl rfl rfl ?_
  obtain ⟨v219, e220, h⟩ := xbnd h
  refine xs_iald rfl (by decide +kernel) hy0 e220 rfl ?_
  refine xe_alr (ins := .aload_n 0) (len := 1) (i := 0) (by decide +kernel) rfl rfl rfl rfl rfl ?_
  obtain ⟨v221, e222, h⟩ := xbnd h
  refine xs_gr (i := 630) (c := 15) (k := 69) (by decide +kernel) (by decide) (by decide +kernel) e222 rfl ?_
  refine xe_ldn (ins := .iload_n 3) (len := 1) (by decide +kernel) rfl rfl rfl rfl ?_
  obtain ⟨v223, e224, h⟩ := xbnd h
  refine xs_iald rfl (by decide +kernel) hy0 e224 rfl ?_
  refine xe_alr (ins := .aload_n 0) (len := 1) (i := 0) (by decide +kernel) rfl rfl rfl rfl rfl ?_
  obtain ⟨v225, e226, h⟩ := xbnd h
  refine xs_gr (i := 639) (c := 15) (k := 70) (by decide +kernel) (by decide) (by decide +kernel) e226 rfl ?_
  refine xe_ldn (ins := .iload_n 3) (len := 1) (by decide +kernel) rfl rfl rfl rfl ?_
  obtain ⟨v227, e228, h⟩ := xbnd h
  refine xs_iald rfl (by decide +kernel) hy0 e228 rfl ?_
  refine xe_iadd (by decide +kernel) rfl ?_
  obtain ⟨_, e230, h⟩ := xbnd h
  obtain ⟨M231, e229, h⟩ := xbnd h
  refine xs_cv (i := 648) (j := 231) (ar := [xI (xwr ((v223) + (v227))), xI (v219), xR_ (v215), xR_ (v213)]) (rest := []) (r2 := xr_231) (by decide +kernel) (by decide +kernel) (by decide +kernel) xr_231_e rfl (by decide) (by decide) e230 ?_
  refine xc_v (k231 (d := d + 0)  (xq_ai_in e220) (xin_wr _) e229) rfl ?_
  refine xe_alr (ins := .aload_n 0) (len := 1) (i := 0) (by decide +kernel) rfl rfl rfl rfl rfl ?_
  refine xe_alr (ins := .aload_n 0) (len := 1) (i := 0) (by decide +kernel) rfl rfl rfl rfl rfl ?_
  obtain ⟨v233, e234, h⟩ := xbnd h
  refine xs_gr (i := 1106) (c := 15) (k := 31) (by decide +kernel) (by decide) (by decide +kernel) e234 rfl ?_
  obtain ⟨_, e236, h⟩ := xbnd h
  obtain ⟨M237, e235, h⟩ := xbnd h
  refine xs_cv (i := 395) (j := 254) (ar := [xR_ (v233)]) (rest := []) (r2 := xr_254) (by decide +kernel) (by decide +kernel) (by decide +kernel) xr_254_e rfl (by decide) (by decide) e236 ?_
  refine xc_v (k254 (d := d + 109)   e235) rfl ?_
  refine xe_alr (ins := .aload_n 0) (len := 1) (i := 0) (by decide +kernel) rfl rfl rfl rfl rfl ?_
  refine xe_alr (ins := .aload_n 0) (len := 1) (i := 0) (by decide +kernel) rfl rfl rfl rfl rfl ?_
  obtain ⟨v239, e240, h⟩ := xbnd h
  refine xs_gr (i := 645) (c := 15) (k := 68) (by decide +kernel) (by decide) (by decide +kernel) e240 rfl ?_
  refine xe_iconst (n := 0) (by decide +kernel) rfl ?_
  refine xe_ldn (ins := .iload_n 1) (len := 1) (by decide +kernel) rfl rfl rfl rfl ?_
  obtain ⟨_, e242, h⟩ := xbnd h
  obtain ⟨M243, e241, h⟩ := xbnd h
  refine xs_cv (i := 225) (j := 212) (ar := [xI (x1), xI (0), xR_ (v239)]) (rest := []) (r2 := xr_212) (by decide +kernel) (by decide +kernel) (by decide +kernel) xr_212_e rfl (by decide) (by decide) e242 ?_
  refine xc_v (k212 (d := d + 104)  (show xin (0) by decide) hx1 e241) rfl ?_
  refine xe_iconst (n := 0) (by decide +kernel) rfl ?_
  refine xe_isr (ins := .istore 4) (len := 2) (i := 4) (by decide +kernel) rfl rfl rfl (by decide) (xk_k (show ¬ (3 : Nat) = 4 by decide) (Or.inr (xI_cat _)) (xk_k (show ¬ (0 : Nat) = 4 by decide) (Or.inl (show ¬ (0 + 1 : Nat) = 4 by decide)) (xk_k (show ¬ (1 : Nat) = 4 by decide) (Or.inl (show ¬ (1 + 1 : Nat) = 4 by decide)) (xk_k (show ¬ (2 : Nat) = 4 by decide) (Or.inl (show ¬ (2 + 1 : Nat) = 4 by decide)) xk_n)))) rfl ?_
  refine xe_iconst (n := 0) (by decide +kernel) rfl ?_
  refine xe_isr (ins := .istore 5) (len := 2) (i := 5) (by decide +kernel) rfl rfl rfl (by decide) (xk_k (show ¬ (4 : Nat) = 5 by decide) (Or.inr (xI_cat _)) (xk_k (show ¬ (3 : Nat) = 5 by decide) (Or.inl (show ¬ (3 + 1 : Nat) = 5 by decide)) (xk_k (show ¬ (0 : Nat) = 5 by decide) (Or.inl (show ¬ (0 + 1 : Nat) = 5 by decide)) (xk_k (show ¬ (1 : Nat) = 5 by decide) (Or.inl (show ¬ (1 + 1 : Nat) = 5 by decide)) (xk_k (show ¬ (2 : Nat) = 5 by decide) (Or.inl (show ¬ (2 + 1 : Nat) = 5 by decide)) xk_n))))) rfl ?_
  refine xe_iconst (n := -1) (by decide +kernel) rfl ?_
  refine xe_isr (ins := .istore 6) (len := 2) (i := 6) (by decide +kernel) rfl rfl rfl (by decide) (xk_k (show ¬ (5 : Nat) = 6 by decide) (Or.inr (xI_cat _)) (xk_k (show ¬ (4 : Nat) = 6 by decide) (Or.inl (show ¬ (4 + 1 : Nat) = 6 by decide)) (xk_k (show ¬ (3 : Nat) = 6 by decide) (Or.inl (show ¬ (3 + 1 : Nat) = 6 by decide)) (xk_k (show ¬ (0 : Nat) = 6 by decide) (Or.inl (show ¬ (0 + 1 : Nat) = 6 by decide)) (xk_k (show ¬ (1 : Nat) = 6 by decide) (Or.inl (show ¬ (1 + 1 : Nat) = 6 by decide)) (xk_k (show ¬ (2 : Nat) = 6 by decide) (Or.inl (show ¬ (2 + 1 : Nat) = 6 by decide)) xk_n)))))) rfl ?_
  refine xW_lv rfl (l := [(0, xR_ (x0)), (2, xR_ (x2)), (4, xI (0)), (5, xI (0)), (6, xI (-1))]) (xsb_of ⟨rfl, rfl, rfl, rfl, rfl, trivial⟩ (show [6, 5, 4, 3, 0, 1, 2].Nodup by decide)) ?_
  exact k365_98   (show xin (0) by decide) (show xin (0) by decide) (show xin (-1) by decide) h
def f365  (f : Nat) (a0 : Nat) (M : xj_M) : Option (Int × xj_M) := ((xq_is 15 (a0) M).bind fun _ => ((f361  f (a0) M).bind fun R247 => ((xq_pi 15 75 (a0) (-1) R247.2).bind fun M249 => ((xq_gr 15 61 (a0) M249).bind fun v251 => ((xq_gi 15 62 (a0) M249).bind fun v253 => ((xq_ar (v251) (v253) M249).bind fun v255 => ((xq_gi 13 34 (v255) M249).bind fun v257 => (if (v257) = (-1) then ((xq_gi 13 1 (v255) M249).bind fun v260 => f365_39   f (a0) (R247.1) (v255) (v260) M249) else ((xq_gi 13 34 (v255) M249).bind fun v262 => f365_39   f (a0) (R247.1) (v255) (v262) M249)))))))))
theorem k365 {d f : Nat}   {a0 : Nat} {M : xj_M} {R : Int × xj_M}  (h : f365  f a0 M = some R) : xT (d + 112) 365 [xR_ a0] M (xQi R) := by
  refine xT_m xr_365_e (X := (none, d + 111, none)) rfl (xa_1 (xR_cat _) xa_n) (by decide) ?_
  unfold f365 at h
  refine xe_alr (ins := .aload_n 0) (len := 1) (i := 0) (by decide +kernel) rfl rfl rfl rfl rfl ?_
  obtain ⟨_, e246, h⟩ := xbnd h
  obtain ⟨R247, e245, h⟩ := xbnd h
  refine xs_cv (i := 1080) (j := 361) (ar := []) (rest := []) (r2 := xr_361) (by decide +kernel) (by decide +kernel) (by decide +kernel) xr_361_e rfl (by decide) (by decide) e246 ?_
  refine xc_i (k361 (d := d + 110)   e245) rfl (fun hi248 => ?_)
  refine xe_isr (ins := .istore_n 1) (len := 1) (i := 1) (by decide +kernel) rfl rfl rfl (by decide) (xk_k (show ¬ (0 : Nat) = 1 by decide) (Or.inr (xR_cat _)) xk_n) rfl ?_
  refine xe_alr (ins := .aload_n 0) (len := 1) (i := 0) (by decide +kernel) rfl rfl rfl rfl rfl ?_
  refine xe_iconst (n := -1) (by decide +kernel) rfl ?_
  obtain ⟨M249, e250, h⟩ := xbnd h
  refine xs_p (i := 1112) (c := 15) (k := 75) (by decide +kernel) (by decide +kernel) (by decide +kernel) e250 rfl ?_
  refine xe_alr (ins := .aload_n 0) (len := 1) (i := 0) (by decide +kernel) rfl rfl rfl rfl rfl ?_
  obtain ⟨v251, e252, h⟩ := xbnd h
  refine xs_gr (i := 667) (c := 15) (k := 61) (by decide +kernel) (by decide) (by decide +kernel) e252 rfl ?_
  refine xe_alr (ins := .aload_n 0) (len := 1) (i := 0) (by decide +kernel) rfl rfl rfl rfl rfl ?_
  obtain ⟨v253, e254, h⟩ := xbnd h
  refine xs_gi (i := 664) (c := 15) (k := 62) (by decide +kernel) (by decide) (by decide +kernel) e254 rfl ?_
  obtain ⟨v255, e256, h⟩ := xbnd h
  refine xs_aald (by decide +kernel) (xq_gi_in e254) e256 rfl ?_
  refine xe_asr (ins := .astore_n 2) (len := 1) (i := 2) (by decide +kernel) rfl rfl rfl (by decide) (xk_k (show ¬ (1 : Nat) = 2 by decide) (Or.inr (xI_cat _)) (xk_k (show ¬ (0 : Nat) = 2 by decide) (Or.inl (show ¬ (0 + 1 : Nat) = 2 by decide)) xk_n)) rfl ?_
  refine xe_alr (ins := .aload_n 2) (len := 1) (i := 2) (by decide +kernel) rfl rfl rfl rfl rfl ?_
  obtain ⟨v257, e258, h⟩ := xbnd h
  refine xs_gi (i := 702) (c := 13) (k := 34) (by decide +kernel) (by decide) (by decide +kernel) e258 rfl ?_
  refine xe_iconst (n := -1) (by decide +kernel) rfl ?_
  refine xe_icmpeq (off := 10) (t := 35) (by decide +kernel) (by decide) rfl (xq_gi_in e258) (show xin (-1) by decide) (fun c259 => ?_) (fun c259 => ?_)
  · rw [if_pos c259] at h
    refine xe_alr (ins := .aload_n 2) (len := 1) (i := 2) (by decide +kernel) rfl rfl rfl rfl rfl ?_
    obtain ⟨v260, e261, h⟩ := xbnd h
    refine xs_gi (i := 671) (c := 13) (k := 1) (by decide +kernel) (by decide) (by decide +kernel) e261 rfl ?_
    refine xW_lv rfl (l := [(0, xR_ (a0)), (1, xI (R247.1)), (2, xR_ (v255))]) (xsb_of ⟨rfl, rfl, rfl, trivial⟩ (show [2, 1, 0].Nodup by decide)) ?_
    exact k365_39   hi248 (xq_gi_in e261) h
  · rw [if_neg c259] at h
    refine xe_alr (ins := .aload_n 2) (len := 1) (i := 2) (by decide +kernel) rfl rfl rfl rfl rfl ?_
    obtain ⟨v262, e263, h⟩ := xbnd h
    refine xs_gi (i := 702) (c := 13) (k := 34) (by decide +kernel) (by decide) (by decide +kernel) e263 rfl ?_
    refine xe_goto (off := 7) (nx := 39) (by decide +kernel) (by decide) ?_
    refine xW_lv rfl (l := [(0, xR_ (a0)), (1, xI (R247.1)), (2, xR_ (v255))]) (xsb_of ⟨rfl, rfl, rfl, trivial⟩ (show [2, 1, 0].Nodup by decide)) ?_
    exact k365_39   hi248 (xq_gi_in e263) h
-- ChangeHouseModel.query
def xr_368 : xj_mR := (15, yX15_query, cX15_query, 5, (Option.some Jvm.ClassFile.FieldType.int), 0, false, (14, 32), (1, 12))
set_option maxRecDepth 20000 in
theorem xr_368_e : xj_row 368 = some xr_368 := rfl
def f368_107   (f : Nat) (x0 : Nat) (x2 : Int) (x3 : Int) (y0 : Int) (M : xj_M) : Option (Int × xj_M) := ((xq_gr 15 29 (x0) M).bind fun v101 => ((xq_pi 14 14 (v101) (x2) M).bind fun M103 => ((xq_gr 15 29 (x0) M103).bind fun v105 => ((xq_pi 14 37 (v105) (x3) M103).bind fun M107 => (some (y0, M107))))))
theorem k368_107 {d f : Nat}     {x0 : Nat} {x2 : Int} {x3 : Int} {y0 : Int} {M : xj_M} {R : Int × xj_M} (hx2 : xin x2) (hx3 : xin x3) (hy0 : xin y0) (h : f368_107   f x0 x2 x3 y0 M = some R) : xW (d + 113) (none, d + 113, none) xr_368 (107, [(0, xR_ x0), (2, xI x2), (3, xI x3)], [xI y0], M) (xQi R) := by
  unfold f368_107 at h
  refine xe_isr (ins := .istore 4) (len := 2) (i := 4) (by decide +kernel) rfl rfl rfl (by decide) (xk_k (show ¬ (0 : Nat) = 4 by decide) (Or.inl (show ¬ (0 + 1 : Nat) = 4 by decide)) (xk_k (show ¬ (2 : Nat) = 4 by decide) (Or.inl (show ¬ (2 + 1 : Nat) = 4 by decide)) (xk_k (show ¬ (3 : Nat) = 4 by decide) (Or.inr (xI_cat _)) xk_n))) rfl ?_
  refine xe_alr (ins := .aload_n 0) (len := 1) (i := 0) (by decide +kernel) rfl rfl rfl rfl rfl ?_
  obtain ⟨v101, e102, h⟩ := xbnd h
  refine xs_gr (i := 439) (c := 15) (k := 29) (by decide +kernel) (by decide) (by decide +kernel) e102 rfl ?_
  refine xe_ldn (ins := .iload_n 2) (len := 1) (by decide +kernel) rfl rfl rfl rfl ?_
  obtain ⟨M103, e104, h⟩ := xbnd h
  refine xs_p (i := 174) (c := 14) (k := 14) (by decide +kernel) (by decide +kernel) (by decide +kernel) e104 rfl ?_
  refine xe_alr (ins := .aload_n 0) (len := 1) (i := 0) (by decide +kernel) rfl rfl rfl rfl rfl ?_
  obtain ⟨v105, e106, h⟩ := xbnd h
  refine xs_gr (i := 439) (c := 15) (k := 29) (by decide +kernel) (by decide) (by decide +kernel) e106 rfl ?_
  refine xe_ldn (ins := .iload_n 3) (len := 1) (by decide +kernel) rfl rfl rfl rfl ?_
  obtain ⟨M107, e108, h⟩ := xbnd h
  refine xs_p (i := 177) (c := 14) (k := 37) (by decide +kernel) (by decide +kernel) (by decide +kernel) e108 rfl ?_
  refine xe_ldn (ins := .iload 4) (len := 2) (by decide +kernel) rfl rfl rfl rfl ?_
  cases h
  exact xe_ret_i (ty := .int) (by decide +kernel) rfl rfl ⟨rfl, rfl, hy0⟩
def f368_86   (f : Nat) (x0 : Nat) (x2 : Int) (x3 : Int) (M : xj_M) : Option (Int × xj_M) := ((xq_is 15 (x0) M).bind fun _ => ((f211  f (x0) M).bind fun R111 => (if (R111.1) = 0 then ((xq_is 15 (x0) R111.2).bind fun _ => ((f369  f (x0) (x2) R111.2).bind fun R116 => f368_107   f (x0) (x2) (x3) (R116.1) R116.2)) else ((xq_gi 15 7 (x0) R111.2).bind fun v118 => f368_107   f (x0) (x2) (x3) (xwr ((-1) - (v118))) R111.2))))
theorem k368_86 {d f : Nat}     {x0 : Nat} {x2 : Int} {x3 : Int} {M : xj_M} {R : Int × xj_M} (hx2 : xin x2) (hx3 : xin x3) (h : f368_86   f x0 x2 x3 M = some R) : xW (d + 113) (none, d + 113, none) xr_368 (86, [(0, xR_ x0), (2, xI x2), (3, xI x3)], [], M) (xQi R) := by
  unfold f368_86 at h
  refine xe_alr (ins := .aload_n 0) (len := 1) (i := 0) (by decide +kernel) rfl rfl rfl rfl rfl ?_
  obtain ⟨_, e110, h⟩ := xbnd h
  obtain ⟨R111, e109, h⟩ := xbnd h
  refine xs_cv (i := 28) (j := 211) (ar := []) (rest := []) (r2 := xr_211) (by decide +kernel) (by decide +kernel) (by decide +kernel) xr_211_e rfl (by decide) (by decide) e110 ?_
  refine xc_i (k211 (d := d + 112)   e109) rfl (fun hi112 => ?_)
  refine xe_ifeq (off := 12) (t := 102) (by decide +kernel) (by decide) rfl hi112 (fun c113 => ?_) (fun c113 => ?_)
  · rw [if_pos c113] at h
    refine xe_alr (ins := .aload_n 0) (len := 1) (i := 0) (by decide +kernel) rfl rfl rfl rfl rfl ?_
    refine xe_ldn (ins := .iload_n 2) (len := 1) (by decide +kernel) rfl rfl rfl rfl ?_
    obtain ⟨_, e115, h⟩ := xbnd h
    obtain ⟨R116, e114, h⟩ := xbnd h
    refine xs_cv (i := 1139) (j := 369) (ar := [xI (x2)]) (rest := []) (r2 := xr_369) (by decide +kernel) (by decide +kernel) (by decide +kernel) xr_369_e rfl (by decide) (by decide) e115 ?_
    refine xc_i (k369 (d := d + 28)  hx2 e114) rfl (fun hi117 => ?_)
    refine xW_lv rfl (l := [(0, xR_ (x0)), (2, xI (x2)), (3, xI (x3))]) (xsb_of ⟨rfl, rfl, rfl, trivial⟩ (show [0, 2, 3].Nodup by decide)) ?_
    exact k368_107   hx2 hx3 hi117 h
  · rw [if_neg c113] at h
    refine xe_iconst (n := -1) (by decide +kernel) rfl ?_
    refine xe_alr (ins := .aload_n 0) (len := 1) (i := 0) (by decide +kernel) rfl rfl rfl rfl rfl ?_
    obtain ⟨v118, e119, h⟩ := xbnd h
    refine xs_gi (i := 11) (c := 15) (k := 7) (by decide +kernel) (by decide) (by decide +kernel) e119 rfl ?_
    refine xe_isub (by decide +kernel) rfl ?_
    refine xe_goto (off := 8) (nx := 107) (by decide +kernel) (by decide) ?_
    refine xW_lv rfl (l := [(0, xR_ (x0)), (2, xI (x2)), (3, xI (x3))]) (xsb_of ⟨rfl, rfl, rfl, trivial⟩ (show [0, 2, 3].Nodup by decide)) ?_
    exact k368_107   hx2 hx3 (xin_wr _) h
def f368  (f : Nat) (a0 : Nat) (M : xj_M) : Option (Int × xj_M) := ((xq_is 15 (a0) M).bind fun _ => ((f361  f (a0) M).bind fun R122 => ((xq_pi 15 75 (a0) (-1) R122.2).bind fun M124 => ((xq_is 15 (a0) M124).bind fun _ => ((f296  f (a0) M124).bind fun M128 => ((xq_gr 15 29 (a0) M128).bind fun v130 => ((xq_gi 14 14 (v130) M128).bind fun v132 => ((xq_gr 15 29 (a0) M128).bind fun v134 => ((xq_gi 14 37 (v134) M128).bind fun v136 => ((xq_gr 15 29 (a0) M128).bind fun v138 => ((xq_pr 15 22 (a0) (v138) M128).bind fun M140 => ((xq_gr 15 68 (a0) M140).bind fun v142 => ((xq_is 15 (a0) M140).bind fun _ => ((f212  f (a0) (v142) (0) (R122.1) M140).bind fun M146 => ((xq_is 15 (a0) M146).bind fun _ => ((f236  f (a0) (24) M146).bind fun M150 => ((xq_is 15 (a0) M150).bind fun _ => ((f246  f (a0) M150).bind fun M154 => ((xq_is 15 (a0) M154).bind fun _ => ((f222  f (a0) (46) M154).bind fun M158 => ((xq_is 15 (a0) M158).bind fun _ => ((f211  f (a0) M158).bind fun R162 => (if ¬ (R162.1) = 0 then f368_86   f (a0) (v132) (v136) R162.2 else ((xq_gi 15 2 (a0) R162.2).bind fun v165 => (if (v165) = 0 then f368_86   f (a0) (v132) (v136) R162.2 else ((xq_gi 15 4 (a0) R162.2).bind fun v168 => ((xq_is 15 (a0) R162.2).bind fun _ => ((f210  f (a0) (v168) R162.2).bind fun M172 => f368_86   f (a0) (v132) (v136) M172))))))))))))))))))))))))))))
theorem k368 {d f : Nat}   {a0 : Nat} {M : xj_M} {R : Int × xj_M}  (h : f368  f a0 M = some R) : xT (d + 114) 368 [xR_ a0] M (xQi R) := by
  refine xT_m xr_368_e (X := (none, d + 113, none)) rfl (xa_1 (xR_cat _) xa_n) (by decide) ?_
  unfold f368 at h
  refine xe_alr (ins := .aload_n 0) (len := 1) (i := 0) (by decide +kernel) rfl rfl rfl rfl rfl ?_
  obtain ⟨_, e121, h⟩ := xbnd h
  obtain ⟨R122, e120, h⟩ := xbnd h
  refine xs_cv (i := 1080) (j := 361) (ar := []) (rest := []) (r2 := xr_361) (by decide +kernel) (by decide +kernel) (by decide +kernel) xr_361_e rfl (by decide) (by decide) e121 ?_
  refine xc_i (k361 (d := d + 112)   e120) rfl (fun hi123 => ?_)
  refine xe_isr (ins := .istore_n 1) (len := 1) (i := 1) (by decide +kernel) rfl rfl rfl (by decide) (xk_k (show ¬ (0 : Nat) = 1 by decide) (Or.inr (xR_cat _)) xk_n) rfl ?_
  refine xe_alr (ins := .aload_n 0) (len := 1) (i := 0) (by decide +kernel) rfl rfl rfl rfl rfl ?_
  refine xe_iconst (n := -1) (by decide +kernel) rfl ?_
  obtain ⟨M124, e125, h⟩ := xbnd h
  refine xs_p (i := 1112) (c := 15) (k := 75) (by decide +kernel) (by decide +kernel) (by decide +kernel) e125 rfl ?_
  refine xe_alr (ins := .aload_n 0) (len := 1) (i := 0) (by decide +kernel) rfl rfl rfl rfl rfl ?_
  obtain ⟨_, e127, h⟩ := xbnd h
  obtain ⟨M128, e126, h⟩ := xbnd h
  refine xs_cv (i := 884) (j := 296) (ar := []) (rest := []) (r2 := xr_296) (by decide +kernel) (by decide +kernel) (by decide +kernel) xr_296_e rfl (by decide) (by decide) e127 ?_
  refine xc_v (k296 (d := d + 0)   e126) rfl ?_
  refine xe_alr (ins := .aload_n 0) (len := 1) (i := 0) (by decide +kernel) rfl rfl rfl rfl rfl ?_
  obtain ⟨v130, e131, h⟩ := xbnd h
  refine xs_gr (i := 439) (c := 15) (k := 29) (by decide +kernel) (by decide) (by decide +kernel) e131 rfl ?_
  obtain ⟨v132, e133, h⟩ := xbnd h
  refine xs_gi (i := 174) (c := 14) (k := 14) (by decide +kernel) (by decide) (by decide +kernel) e133 rfl ?_
  refine xe_isr (ins := .istore_n 2) (len := 1) (i := 2) (by decide +kernel) rfl rfl rfl (by decide) (xk_k (show ¬ (1 : Nat) = 2 by decide) (Or.inr (xI_cat _)) (xk_k (show ¬ (0 : Nat) = 2 by decide) (Or.inl (show ¬ (0 + 1 : Nat) = 2 by decide)) xk_n)) rfl ?_
  refine xe_alr (ins := .aload_n 0) (len := 1) (i := 0) (by decide +kernel) rfl rfl rfl rfl rfl ?_
  obtain ⟨v134, e135, h⟩ := xbnd h
  refine xs_gr (i := 439) (c := 15) (k := 29) (by decide +kernel) (by decide) (by decide +kernel) e135 rfl ?_
  obtain ⟨v136, e137, h⟩ := xbnd h
  refine xs_gi (i := 177) (c := 14) (k := 37) (by decide +kernel) (by decide) (by decide +kernel) e137 rfl ?_
  refine xe_isr (ins := .istore_n 3) (len := 1) (i := 3) (by decide +kernel) rfl rfl rfl (by decide) (xk_k (show ¬ (2 : Nat) = 3 by decide) (Or.inr (xI_cat _)) (xk_k (show ¬ (1 : Nat) = 3 by decide) (Or.inl (show ¬ (1 + 1 : Nat) = 3 by decide)) (xk_k (show ¬ (0 : Nat) = 3 by decide) (Or.inl (show ¬ (0 + 1 : Nat) = 3 by decide)) xk_n))) rfl ?_
  refine xe_alr (ins := .aload_n 0) (len := 1) (i := 0) (by decide +kernel) rfl rfl rfl rfl rfl ?_
  refine xe_alr (ins := .aload_n 0) (len := 1) (i := 0) (by decide +kernel) rfl rfl rfl rfl rfl ?_
  obtain ⟨v138, e139, h⟩ := xbnd h
  refine xs_gr (i := 439) (c := 15) (k := 29) (by decide +kernel) (by decide) (by decide +kernel) e139 rfl ?_
  obtain ⟨M140, e141, h⟩ := xbnd h
  refine xs_p (i := 197) (c := 15) (k := 22) (by decide +kernel) (by decide +kernel) (by decide +kernel) e141 rfl ?_
  refine xe_alr (ins := .aload_n 0) (len := 1) (i := 0) (by decide +kernel) rfl rfl rfl rfl rfl ?_
  refine xe_alr (ins := .aload_n 0) (len := 1) (i := 0) (by decide +kernel) rfl rfl rfl rfl rfl ?_
  obtain ⟨v142, e143, h⟩ := xbnd h
  refine xs_gr (i := 645) (c := 15) (k := 68) (by decide +kernel) (by decide) (by decide +kernel) e143 rfl ?_
  refine xe_iconst (n := 0) (by decide +kernel) rfl ?_
  refine xe_ldn (ins := .iload_n 1) (len := 1) (by decide +kernel) rfl rfl rfl rfl ?_
  obtain ⟨_, e145, h⟩ := xbnd h
  obtain ⟨M146, e144, h⟩ := xbnd h
  refine xs_cv (i := 225) (j := 212) (ar := [xI (R122.1), xI (0), xR_ (v142)]) (rest := []) (r2 := xr_212) (by decide +kernel) (by decide +kernel) (by decide +kernel) xr_212_e rfl (by decide) (by decide) e145 ?_
  refine xc_v (k212 (d := d + 106)  (show xin (0) by decide) hi123 e144) rfl ?_
  refine xe_alr (ins := .aload_n 0) (len := 1) (i := 0) (by decide +kernel) rfl rfl rfl rfl rfl ?_
  refine xe_bipush (n := 24) (by decide +kernel) (by decide) rfl ?_
  obtain ⟨_, e149, h⟩ := xbnd h
  obtain ⟨M150, e148, h⟩ := xbnd h
  refine xs_cv (i := 286) (j := 236) (ar := [xI (24)]) (rest := []) (r2 := xr_236) (by decide +kernel) (by decide +kernel) (by decide +kernel) xr_236_e rfl (by decide) (by decide) e149 ?_
  refine xc_v (k236 (d := d + 112)  (show xin (24) by decide) e148) rfl ?_
  refine xe_alr (ins := .aload_n 0) (len := 1) (i := 0) (by decide +kernel) rfl rfl rfl rfl rfl ?_
  obtain ⟨_, e153, h⟩ := xbnd h
  obtain ⟨M154, e152, h⟩ := xbnd h
  refine xs_cv (i := 298) (j := 246) (ar := []) (rest := []) (r2 := xr_246) (by decide +kernel) (by decide +kernel) (by decide +kernel) xr_246_e rfl (by decide) (by decide) e153 ?_
  refine xc_v (k246 (d := d + 4)   e152) rfl ?_
  refine xe_alr (ins := .aload_n 0) (len := 1) (i := 0) (by decide +kernel) rfl rfl rfl rfl rfl ?_
  refine xe_bipush (n := 46) (by decide +kernel) (by decide) rfl ?_
  obtain ⟨_, e157, h⟩ := xbnd h
  obtain ⟨M158, e156, h⟩ := xbnd h
  refine xs_cv (i := 248) (j := 222) (ar := [xI (46)]) (rest := []) (r2 := xr_222) (by decide +kernel) (by decide +kernel) (by decide +kernel) xr_222_e rfl (by decide) (by decide) e157 ?_
  refine xc_v (k222 (d := d + 105)  (show xin (46) by decide) e156) rfl ?_
  refine xe_alr (ins := .aload_n 0) (len := 1) (i := 0) (by decide +kernel) rfl rfl rfl rfl rfl ?_
  obtain ⟨_, e161, h⟩ := xbnd h
  obtain ⟨R162, e160, h⟩ := xbnd h
  refine xs_cv (i := 28) (j := 211) (ar := []) (rest := []) (r2 := xr_211) (by decide +kernel) (by decide +kernel) (by decide +kernel) xr_211_e rfl (by decide) (by decide) e161 ?_
  refine xc_i (k211 (d := d + 112)   e160) rfl (fun hi163 => ?_)
  refine xe_ifne (off := 18) (t := 86) (by decide +kernel) (by decide) rfl hi163 (fun c164 => ?_) (fun c164 => ?_)
  · rw [if_pos c164] at h
    refine xW_lv rfl (l := [(0, xR_ (a0)), (2, xI (v132)), (3, xI (v136))]) (xsb_of ⟨rfl, rfl, rfl, trivial⟩ (show [3, 2, 1, 0].Nodup by decide)) ?_
    exact k368_86   (xq_gi_in e133) (xq_gi_in e137) h
  · rw [if_neg c164] at h
    refine xe_alr (ins := .aload_n 0) (len := 1) (i := 0) (by decide +kernel) rfl rfl rfl rfl rfl ?_
    obtain ⟨v165, e166, h⟩ := xbnd h
    refine xs_gi (i := 46) (c := 15) (k := 2) (by decide +kernel) (by decide) (by decide +kernel) e166 rfl ?_
    refine xe_ifeq (off := 11) (t := 86) (by decide +kernel) (by decide) rfl (xq_gi_in e166) (fun c167 => ?_) (fun c167 => ?_)
    · rw [if_pos c167] at h
      refine xW_lv rfl (l := [(0, xR_ (a0)), (2, xI (v132)), (3, xI (v136))]) (xsb_of ⟨rfl, rfl, rfl, trivial⟩ (show [3, 2, 1, 0].Nodup by decide)) ?_
      exact k368_86   (xq_gi_in e133) (xq_gi_in e137) h
    · rw [if_neg c167] at h
      refine xe_alr (ins := .aload_n 0) (len := 1) (i := 0) (by decide +kernel) rfl rfl rfl rfl rfl ?_
      refine xe_alr (ins := .aload_n 0) (len := 1) (i := 0) (by decide +kernel) rfl rfl rfl rfl rfl ?_
      obtain ⟨v168, e169, h⟩ := xbnd h
      refine xs_gi (i := 43) (c := 15) (k := 4) (by decide +kernel) (by decide) (by decide +kernel) e169 rfl ?_
      obtain ⟨_, e171, h⟩ := xbnd h
      obtain ⟨M172, e170, h⟩ := xbnd h
      refine xs_cv (i := 35) (j := 210) (ar := [xI (v168)]) (rest := []) (r2 := xr_210) (by decide +kernel) (by decide +kernel) (by decide +kernel) xr_210_e rfl (by decide) (by decide) e171 ?_
      refine xc_v (k210 (d := d + 112)  (xq_gi_in e169) e170) rfl ?_
      refine xW_lv rfl (l := [(0, xR_ (a0)), (2, xI (v132)), (3, xI (v136))]) (xsb_of ⟨rfl, rfl, rfl, trivial⟩ (show [3, 2, 1, 0].Nodup by decide)) ?_
      exact k368_86   (xq_gi_in e133) (xq_gi_in e137) h
-- ChangeHouseModel.value
def xr_372 : xj_mR := (15, yX15_value_, cX15_value_, 4, (Option.some Jvm.ClassFile.FieldType.long), 3, false, (14, 44), (1, 12))
set_option maxRecDepth 20000 in
theorem xr_372_e : xj_row 372 = some xr_372 := rfl
def f372_56   (f : Nat) (y0 : Int) (M : xj_M) : Option (Int × xj_M) := (some (y0, M))
theorem k372_56 {d f : Nat}     {y0 : Int} {M : xj_M} {R : Int × xj_M} (hy0 : xiN y0) (h : f372_56   f y0 M = some R) : xW (d + 113) (none, d + 113, none) xr_372 (56, [], [xZ y0], M) (xQl R) := by
  unfold f372_56 at h
  cases h
  exact xe_ret_l (by decide +kernel) rfl ⟨rfl, rfl, hy0⟩
def f372_35   (f : Nat) (x0 : Nat) (M : xj_M) : Option (Int × xj_M) := ((xq_is 15 (x0) M).bind fun _ => ((f321  f (x0) M).bind fun R103 => f372_56   f (R103.1) R103.2))
theorem k372_35 {d f : Nat}     {x0 : Nat} {M : xj_M} {R : Int × xj_M}  (h : f372_35   f x0 M = some R) : xW (d + 113) (none, d + 113, none) xr_372 (35, [(0, xR_ x0)], [], M) (xQl R) := by
  unfold f372_35 at h
  refine xe_alr (ins := .aload_n 0) (len := 1) (i := 0) (by decide +kernel) rfl rfl rfl rfl rfl ?_
  obtain ⟨_, e102, h⟩ := xbnd h
  obtain ⟨R103, e101, h⟩ := xbnd h
  refine xs_cv (i := 903) (j := 321) (ar := []) (rest := []) (r2 := xr_321) (by decide +kernel) (by decide +kernel) (by decide +kernel) xr_321_e rfl (by decide) (by decide) e102 ?_
  refine xc_i (k321 (d := d + 112)   e101) rfl (fun hi104 => ?_)
  refine xe_i2l (by decide +kernel) rfl hi104 ?_
  refine xe_goto (off := 16) (nx := 56) (by decide +kernel) (by decide) ?_
  refine xW_lv rfl (l := []) (xsb_of trivial (show [0].Nodup by decide)) ?_
  exact k372_56   (xin_N hi104) h
def f372  (f : Nat) (a0 : Nat) (a1 : Int) (a2 : Int) (a3 : Int) (M : xj_M) : Option (Int × xj_M) := ((xq_pi 15 74 (a0) (0) M).bind fun M105 => ((xq_is 15 (a0) M105).bind fun _ => ((f296  f (a0) M105).bind fun M109 => ((xq_is 15 (a0) M109).bind fun _ => ((f371  f (a0) (a1) (a2) M109).bind fun R113 => (if (R113.1) = 0 then f372_35   f (a0) R113.2 else (if (a3) < 0 then f372_35   f (a0) R113.2 else ((xq_gr 15 29 (a0) R113.2).bind fun v117 => ((xq_gr 14 1 (v117) R113.2).bind fun v119 => ((xq_ai 3 (v119) (a1) R113.2).bind fun v121 => (if (a3) < (v121) then ((xq_gr 15 32 (a0) R113.2).bind fun v124 => ((xq_is 15 (a0) R113.2).bind fun _ => ((f261  f (a0) (a1) (a2) R113.2).bind fun R128 => ((xq_al (v124) (xwr ((R128.1) + (a3))) R128.2).bind fun v130 => f372_56   f (v130) R128.2)))) else f372_35   f (a0) R113.2)))))))))))
theorem k372 {d f : Nat}   {a0 : Nat} {a1 : Int} {a2 : Int} {a3 : Int} {M : xj_M} {R : Int × xj_M} (ha1 : xin a1) (ha2 : xin a2) (ha3 : xin a3) (h : f372  f a0 a1 a2 a3 M = some R) : xT (d + 114) 372 [xR_ a0, xI a1, xI a2, xI a3] M (xQl R) := by
  refine xT_m xr_372_e (X := (none, d + 113, none)) rfl (xa_1 (xR_cat _) (xa_1 (xI_cat _) (xa_1 (xI_cat _) (xa_1 (xI_cat _) xa_n)))) (by decide) ?_
  unfold f372 at h
  refine xe_alr (ins := .aload_n 0) (len := 1) (i := 0) (by decide +kernel) rfl rfl rfl rfl rfl ?_
  refine xe_iconst (n := 0) (by decide +kernel) rfl ?_
  obtain ⟨M105, e106, h⟩ := xbnd h
  refine xs_p (i := 699) (c := 15) (k := 74) (by decide +kernel) (by decide +kernel) (by decide +kernel) e106 rfl ?_
  refine xe_alr (ins := .aload_n 0) (len := 1) (i := 0) (by decide +kernel) rfl rfl rfl rfl rfl ?_
  obtain ⟨_, e108, h⟩ := xbnd h
  obtain ⟨M109, e107, h⟩ := xbnd h
  refine xs_cv (i := 884) (j := 296) (ar := []) (rest := []) (r2 := xr_296) (by decide +kernel) (by decide +kernel) (by decide +kernel) xr_296_e rfl (by decide) (by decide) e108 ?_
  refine xc_v (k296 (d := d + 0)   e107) rfl ?_
  refine xe_alr (ins := .aload_n 0) (len := 1) (i := 0) (by decide +kernel) rfl rfl rfl rfl rfl ?_
  refine xe_ldn (ins := .iload_n 1) (len := 1) (by decide +kernel) rfl rfl rfl rfl ?_
  refine xe_ldn (ins := .iload_n 2) (len := 1) (by decide +kernel) rfl rfl rfl rfl ?_
  obtain ⟨_, e112, h⟩ := xbnd h
  obtain ⟨R113, e111, h⟩ := xbnd h
  refine xs_cv (i := 1147) (j := 371) (ar := [xI (a2), xI (a1)]) (rest := []) (r2 := xr_371) (by decide +kernel) (by decide +kernel) (by decide +kernel) xr_371_e rfl (by decide) (by decide) e112 ?_
  refine xc_i (k371 (d := d + 112)  ha1 ha2 e111) rfl (fun hi114 => ?_)
  refine xe_ifeq (off := 20) (t := 35) (by decide +kernel) (by decide) rfl hi114 (fun c115 => ?_) (fun c115 => ?_)
  · rw [if_pos c115] at h
    refine xW_lv rfl (l := [(0, xR_ (a0))]) (xsb_of ⟨rfl, trivial⟩ (show [0, 1, 2, 3].Nodup by decide)) ?_
    exact k372_35    h
  · rw [if_neg c115] at h
    refine xe_ldn (ins := .iload_n 3) (len := 1) (by decide +kernel) rfl rfl rfl rfl ?_
    refine xe_iflt (off := 16) (t := 35) (by decide +kernel) (by decide) rfl ha3 (fun c116 => ?_) (fun c116 => ?_)
    · rw [if_pos c116] at h
      refine xW_lv rfl (l := [(0, xR_ (a0))]) (xsb_of ⟨rfl, trivial⟩ (show [0, 1, 2, 3].Nodup by decide)) ?_
      exact k372_35    h
    · rw [if_neg c116] at h
      refine xe_ldn (ins := .iload_n 3) (len := 1) (by decide +kernel) rfl rfl rfl rfl ?_
      refine xe_alr (ins := .aload_n 0) (len := 1) (i := 0) (by decide +kernel) rfl rfl rfl rfl rfl ?_
      obtain ⟨v117, e118, h⟩ := xbnd h
      refine xs_gr (i := 439) (c := 15) (k := 29) (by decide +kernel) (by decide) (by decide +kernel) e118 rfl ?_
      obtain ⟨v119, e120, h⟩ := xbnd h
      refine xs_gr (i := 180) (c := 14) (k := 1) (by decide +kernel) (by decide) (by decide +kernel) e120 rfl ?_
      refine xe_ldn (ins := .iload_n 1) (len := 1) (by decide +kernel) rfl rfl rfl rfl ?_
      obtain ⟨v121, e122, h⟩ := xbnd h
      refine xs_iald rfl (by decide +kernel) ha1 e122 rfl ?_
      refine xe_icmplt (off := 11) (t := 43) (by decide +kernel) (by decide) rfl ha3 (xq_ai_in e122) (fun c123 => ?_) (fun c123 => ?_)
      · rw [if_pos c123] at h
        refine xe_alr (ins := .aload_n 0) (len := 1) (i := 0) (by decide +kernel) rfl rfl rfl rfl rfl ?_
        obtain ⟨v124, e125, h⟩ := xbnd h
        refine xs_gr (i := 433) (c := 15) (k := 32) (by decide +kernel) (by decide) (by decide +kernel) e125 rfl ?_
        refine xe_alr (ins := .aload_n 0) (len := 1) (i := 0) (by decide +kernel) rfl rfl rfl rfl rfl ?_
        refine xe_ldn (ins := .iload_n 1) (len := 1) (by decide +kernel) rfl rfl rfl rfl ?_
        refine xe_ldn (ins := .iload_n 2) (len := 1) (by decide +kernel) rfl rfl rfl rfl ?_
        obtain ⟨_, e127, h⟩ := xbnd h
        obtain ⟨R128, e126, h⟩ := xbnd h
        refine xs_cv (i := 436) (j := 261) (ar := [xI (a2), xI (a1)]) (rest := [xR_ (v124)]) (r2 := xr_261) (by decide +kernel) (by decide +kernel) (by decide +kernel) xr_261_e rfl (by decide) (by simp only [List.map_cons, List.map_nil, List.sum_cons, List.sum_nil, xR_cat, xI_cat, xZ_cat]; decide) e127 ?_
        refine xc_i (k261 (d := d + 112)  ha1 ha2 e126) rfl (fun hi129 => ?_)
        refine xe_ldn (ins := .iload_n 3) (len := 1) (by decide +kernel) rfl rfl rfl rfl ?_
        refine xe_iadd (by decide +kernel) rfl ?_
        obtain ⟨v130, e131, h⟩ := xbnd h
        refine xs_lald (by decide +kernel) (xin_wr _) e131 rfl ?_
        refine xW_lv rfl (l := []) (xsb_of trivial (show [0, 1, 2, 3].Nodup by decide)) ?_
        exact k372_56   (xq_al_in e131) h
      · rw [if_neg c123] at h
        refine xW_lv rfl (l := [(0, xR_ (a0))]) (xsb_of ⟨rfl, trivial⟩ (show [0, 1, 2, 3].Nodup by decide)) ?_
        exact k372_35    h
-- ChangeHouseModel.rank
def xr_373 : xj_mR := (15, yX15_rank, cX15_rank, 3, (Option.some Jvm.ClassFile.FieldType.int), 2, false, (14, 52), (1, 12))
set_option maxRecDepth 20000 in
theorem xr_373_e : xj_row 373 = some xr_373 := rfl
def f373_37   (f : Nat) (y0 : Int) (M : xj_M) : Option (Int × xj_M) := (some (y0, M))
theorem k373_37 {d f : Nat}     {y0 : Int} {M : xj_M} {R : Int × xj_M} (hy0 : xin y0) (h : f373_37   f y0 M = some R) : xW (d + 113) (none, d + 113, none) xr_373 (37, [], [xI y0], M) (xQi R) := by
  unfold f373_37 at h
  cases h
  exact xe_ret_i (ty := .int) (by decide +kernel) rfl rfl ⟨rfl, rfl, hy0⟩
def f373  (f : Nat) (a0 : Nat) (a1 : Int) (a2 : Int) (M : xj_M) : Option (Int × xj_M) := ((xq_pi 15 74 (a0) (0) M).bind fun M101 => ((xq_is 15 (a0) M101).bind fun _ => ((f296  f (a0) M101).bind fun M105 => ((xq_is 15 (a0) M105).bind fun _ => ((f371  f (a0) (a1) (a2) M105).bind fun R109 => (if (R109.1) = 0 then ((xq_is 15 (a0) R109.2).bind fun _ => ((f321  f (a0) R109.2).bind fun R114 => f373_37   f (R114.1) R114.2)) else ((xq_gr 15 34 (a0) R109.2).bind fun v116 => ((xq_ai 3 (v116) (xwr ((xwr ((a1) * (520))) + (a2))) R109.2).bind fun v118 => f373_37   f (v118) R109.2))))))))
theorem k373 {d f : Nat}   {a0 : Nat} {a1 : Int} {a2 : Int} {M : xj_M} {R : Int × xj_M} (ha1 : xin a1) (ha2 : xin a2) (h : f373  f a0 a1 a2 M = some R) : xT (d + 114) 373 [xR_ a0, xI a1, xI a2] M (xQi R) := by
  refine xT_m xr_373_e (X := (none, d + 113, none)) rfl (xa_1 (xR_cat _) (xa_1 (xI_cat _) (xa_1 (xI_cat _) xa_n))) (by decide) ?_
  unfold f373 at h
  refine xe_alr (ins := .aload_n 0) (len := 1) (i := 0) (by decide +kernel) rfl rfl rfl rfl rfl ?_
  refine xe_iconst (n := 0) (by decide +kernel) rfl ?_
  obtain ⟨M101, e102, h⟩ := xbnd h
  refine xs_p (i := 699) (c := 15) (k := 74) (by decide +kernel) (by decide +kernel) (by decide +kernel) e102 rfl ?_
  refine xe_alr (ins := .aload_n 0) (len := 1) (i := 0) (by decide +kernel) rfl rfl rfl rfl rfl ?_
  obtain ⟨_, e104, h⟩ := xbnd h
  obtain ⟨M105, e103, h⟩ := xbnd h
  refine xs_cv (i := 884) (j := 296) (ar := []) (rest := []) (r2 := xr_296) (by decide +kernel) (by decide +kernel) (by decide +kernel) xr_296_e rfl (by decide) (by decide) e104 ?_
  refine xc_v (k296 (d := d + 0)   e103) rfl ?_
  refine xe_alr (ins := .aload_n 0) (len := 1) (i := 0) (by decide +kernel) rfl rfl rfl rfl rfl ?_
  refine xe_ldn (ins := .iload_n 1) (len := 1) (by decide +kernel) rfl rfl rfl rfl ?_
  refine xe_ldn (ins := .iload_n 2) (len := 1) (by decide +kernel) rfl rfl rfl rfl ?_
  obtain ⟨_, e108, h⟩ := xbnd h
  obtain ⟨R109, e107, h⟩ := xbnd h
  refine xs_cv (i := 1147) (j := 371) (ar := [xI (a2), xI (a1)]) (rest := []) (r2 := xr_371) (by decide +kernel) (by decide +kernel) (by decide +kernel) xr_371_e rfl (by decide) (by decide) e108 ?_
  refine xc_i (k371 (d := d + 112)  ha1 ha2 e107) rfl (fun hi110 => ?_)
  refine xe_ifeq (off := 18) (t := 33) (by decide +kernel) (by decide) rfl hi110 (fun c111 => ?_) (fun c111 => ?_)
  · rw [if_pos c111] at h
    refine xe_alr (ins := .aload_n 0) (len := 1) (i := 0) (by decide +kernel) rfl rfl rfl rfl rfl ?_
    obtain ⟨_, e113, h⟩ := xbnd h
    obtain ⟨R114, e112, h⟩ := xbnd h
    refine xs_cv (i := 903) (j := 321) (ar := []) (rest := []) (r2 := xr_321) (by decide +kernel) (by decide +kernel) (by decide +kernel) xr_321_e rfl (by decide) (by decide) e113 ?_
    refine xc_i (k321 (d := d + 112)   e112) rfl (fun hi115 => ?_)
    refine xW_lv rfl (l := []) (xsb_of trivial (show [0, 1, 2].Nodup by decide)) ?_
    exact k373_37   hi115 h
  · rw [if_neg c111] at h
    refine xe_alr (ins := .aload_n 0) (len := 1) (i := 0) (by decide +kernel) rfl rfl rfl rfl rfl ?_
    obtain ⟨v116, e117, h⟩ := xbnd h
    refine xs_gr (i := 450) (c := 15) (k := 34) (by decide +kernel) (by decide) (by decide +kernel) e117 rfl ?_
    refine xe_ldn (ins := .iload_n 1) (len := 1) (by decide +kernel) rfl rfl rfl rfl ?_
    refine xe_sipush (n := 520) (by decide +kernel) (by decide) rfl ?_
    refine xe_imul (by decide +kernel) rfl ?_
    refine xe_ldn (ins := .iload_n 2) (len := 1) (by decide +kernel) rfl rfl rfl rfl ?_
    refine xe_iadd (by decide +kernel) rfl ?_
    obtain ⟨v118, e119, h⟩ := xbnd h
    refine xs_iald rfl (by decide +kernel) (xin_wr _) e119 rfl ?_
    refine xe_goto (off := 7) (nx := 37) (by decide +kernel) (by decide) ?_
    refine xW_lv rfl (l := []) (xsb_of trivial (show [0, 1, 2].Nodup by decide)) ?_
    exact k373_37   (xq_ai_in e119) h
-- ChangeHouseModel.reason
def xr_374 : xj_mR := (15, yX15_reason, cX15_reason, 6, (Option.some Jvm.ClassFile.FieldType.int), 3, false, (14, 56), (1, 12))
set_option maxRecDepth 20000 in
theorem xr_374_e : xj_row 374 = some xr_374 := rfl
def f374_39   (f : Nat)  (M : xj_M) : Option (Int × xj_M) := (some (-1, M))
theorem k374_39 {d f : Nat}      {M : xj_M} {R : Int × xj_M}  (h : f374_39   f  M = some R) : xW (d + 113) (none, d + 113, none) xr_374 (39, [], [], M) (xQi R) := by
  unfold f374_39 at h
  refine xe_iconst (n := -1) (by decide +kernel) rfl ?_
  cases h
  exact xe_ret_i (ty := .int) (by decide +kernel) rfl rfl ⟨rfl, rfl, (show xin (-1) by decide)⟩
def f374_240  (r99 : Nat → Int → Int → Int → Int → xj_M → Option (Int × xj_M)) (f : Nat) (x0 : Nat) (x1 : Int) (x3 : Int) (x4 : Int) (x5 : Int) (M : xj_M) : Option (Int × xj_M) := r99 (x0) (x1) (x3) (x4) (xwr ((x5) + (1))) M
theorem k374_240 {d f : Nat}  {r99 : Nat → Int → Int → Int → Int → xj_M → Option (Int × xj_M)}  (hr99 : ∀ {x0 : Nat} {x1 : Int} {x3 : Int} {x4 : Int} {x5 : Int} {M : xj_M} {R : Int × xj_M}, xin x1 → xin x3 → xin x4 → xin x5 → r99 x0 x1 x3 x4 x5 M = some R → xW (d + 113) (none, d + 113, none) xr_374 (99, [(0, xR_ x0), (1, xI x1), (3, xI x3), (4, xI x4), (5, xI x5)], [], M) (xQi R)) {x0 : Nat} {x1 : Int} {x3 : Int} {x4 : Int} {x5 : Int} {M : xj_M} {R : Int × xj_M} (hx1 : xin x1) (hx3 : xin x3) (hx4 : xin x4) (hx5 : xin x5) (h : f374_240  r99 f x0 x1 x3 x4 x5 M = some R) : xW (d + 113) (none, d + 113, none) xr_374 (240, [(0, xR_ x0), (1, xI x1), (3, xI x3), (4, xI x4), (5, xI x5)], [], M) (xQi R) := by
  unfold f374_240 at h
  refine xe_iincr (i := 5) (n := 1) (by decide +kernel) (by decide) rfl (xk_k (show ¬ (0 : Nat) = 5 by decide) (Or.inl (show ¬ (0 + 1 : Nat) = 5 by decide)) (xk_k (show ¬ (1 : Nat) = 5 by decide) (Or.inl (show ¬ (1 + 1 : Nat) = 5 by decide)) (xk_k (show ¬ (3 : Nat) = 5 by decide) (Or.inl (show ¬ (3 + 1 : Nat) = 5 by decide)) (xk_k (show ¬ (4 : Nat) = 5 by decide) (Or.inr (xI_cat _)) (xk_d rfl xk_n))))) rfl ?_
  refine xe_goto (off := -144) (nx := 99) (by decide +kernel) (by decide) ?_
  refine xW_lv rfl (l := [(0, xR_ (x0)), (1, xI (x1)), (3, xI (x3)), (4, xI (x4)), (5, xI (xwr ((x5) + (1))))]) (xsb_of ⟨rfl, rfl, rfl, rfl, rfl, trivial⟩ (show [5, 0, 1, 3, 4].Nodup by decide)) ?_
  exact hr99 hx1 hx3 hx4 (xin_wr _) h
def f374_186   (f : Nat) (y0 : Int) (M : xj_M) : Option (Int × xj_M) := (some (y0, M))
theorem k374_186 {d f : Nat}     {y0 : Int} {M : xj_M} {R : Int × xj_M} (hy0 : xin y0) (h : f374_186   f y0 M = some R) : xW (d + 113) (none, d + 113, none) xr_374 (186, [], [xI y0], M) (xQi R) := by
  unfold f374_186 at h
  cases h
  exact xe_ret_i (ty := .int) (by decide +kernel) rfl rfl ⟨rfl, rfl, hy0⟩
def f374_239   (f : Nat) (y0 : Int) (M : xj_M) : Option (Int × xj_M) := (some (y0, M))
theorem k374_239 {d f : Nat}     {y0 : Int} {M : xj_M} {R : Int × xj_M} (hy0 : xin y0) (h : f374_239   f y0 M = some R) : xW (d + 113) (none, d + 113, none) xr_374 (239, [], [xI y0], M) (xQi R) := by
  unfold f374_239 at h
  cases h
  exact xe_ret_i (ty := .int) (by decide +kernel) rfl rfl ⟨rfl, rfl, hy0⟩
def f374_99b  (r99 : Nat → Int → Int → Int → Int → xj_M → Option (Int × xj_M)) (f : Nat) (x0 : Nat) (x1 : Int) (x3 : Int) (x4 : Int) (x5 : Int) (M : xj_M) : Option (Int × xj_M) := ((xq_gr 15 29 (x0) M).bind fun v101 => ((xq_gi 14 9 (v101) M).bind fun v103 => (if (v103) ≤ (x5) then (some (-1, M)) else ((xq_gr 15 29 (x0) M).bind fun v106 => ((xq_gr 14 15 (v106) M).bind fun v108 => ((xq_ai 3 (v108) (x5) M).bind fun v110 => (if (v110) = (x1) then ((xq_pi 15 39 (x0) (x5) M).bind fun M113 => ((xq_pi 15 43 (x0) (0) M113).bind fun M115 => ((xq_pi 15 37 (x0) (0) M115).bind fun M117 => ((xq_pi 15 40 (x0) (-1) M117).bind fun M119 => ((xq_gr 15 29 (x0) M119).bind fun v121 => ((xq_gr 14 18 (v121) M119).bind fun v123 => ((xq_ai 3 (v123) (x5) M119).bind fun v125 => (if (v125) = 0 then ((xq_gr 15 29 (x0) M119).bind fun v128 => ((xq_gr 14 4 (v128) M119).bind fun v130 => ((xq_ai 3 (v130) (x1) M119).bind fun v132 => ((xq_pi 15 40 (x0) (v132) M119).bind fun M134 => ((xq_pi 15 41 (x0) (x4) M134).bind fun M136 => ((xq_pi 15 38 (x0) (4) M136).bind fun M138 => ((xq_is 15 (x0) M138).bind fun _ => ((f275  f (x0) (0) M138).bind fun M142 => ((xq_gi 15 54 (x0) M142).bind fun v144 => (if (v144) = 0 then f374_240  r99 f (x0) (x1) (x3) (x4) (x5) M142 else (if ¬ (x3) = 0 then ((xq_is 15 (x0) M142).bind fun _ => ((f375  f (x0) (xwr ((x3) - (1))) M142).bind fun R150 => f374_239   f (R150.1) R150.2)) else f374_239   f (x5) M142))))))))))) else (if ¬ (x4) = (1) then f374_240  r99 f (x0) (x1) (x3) (x4) (x5) M119 else ((xq_is 15 (x0) M119).bind fun _ => ((f288  f (x0) (1) M119).bind fun R155 => (if (R155.1) = 0 then f374_240  r99 f (x0) (x1) (x3) (x4) (x5) R155.2 else (if ¬ (x3) = 0 then f374_186   f (-1) R155.2 else f374_186   f (x5) R155.2))))))))))))) else f374_240  r99 f (x0) (x1) (x3) (x4) (x5) M)))))))
theorem k374_99b {d f : Nat}  {r99 : Nat → Int → Int → Int → Int → xj_M → Option (Int × xj_M)}  (hr99 : ∀ {x0 : Nat} {x1 : Int} {x3 : Int} {x4 : Int} {x5 : Int} {M : xj_M} {R : Int × xj_M}, xin x1 → xin x3 → xin x4 → xin x5 → r99 x0 x1 x3 x4 x5 M = some R → xW (d + 113) (none, d + 113, none) xr_374 (99, [(0, xR_ x0), (1, xI x1), (3, xI x3), (4, xI x4), (5, xI x5)], [], M) (xQi R)) {x0 : Nat} {x1 : Int} {x3 : Int} {x4 : Int} {x5 : Int} {M : xj_M} {R : Int × xj_M} (hx1 : xin x1) (hx3 : xin x3) (hx4 : xin x4) (hx5 : xin x5) (h : f374_99b  r99 f x0 x1 x3 x4 x5 M = some R) : xW (d + 113) (none, d + 113, none) xr_374 (99, [(0, xR_ x0), (1, xI x1), (3, xI x3), (4, xI x4), (5, xI x5)], [], M) (xQi R) := by
  unfold f374_99b at h
  refine xe_ldn (ins := .iload 5) (len := 2) (by decide +kernel) rfl rfl rfl rfl ?_
  refine xe_alr (ins := .aload_n 0) (len := 1) (i := 0) (by decide +kernel) rfl rfl rfl rfl rfl ?_
  obtain ⟨v101, e102, h⟩ := xbnd h
  refine xs_gr (i := 439) (c := 15) (k := 29) (by decide +kernel) (by decide) (by decide +kernel) e102 rfl ?_
  obtain ⟨v103, e104, h⟩ := xbnd h
  refine xs_gi (i := 171) (c := 14) (k := 9) (by decide +kernel) (by decide) (by decide +kernel) e104 rfl ?_
  refine xe_icmpge (off := 138) (t := 246) (by decide +kernel) (by decide) rfl hx5 (xq_gi_in e104) (fun c105 => ?_) (fun c105 => ?_)
  · rw [if_pos c105] at h
    refine xe_iconst (n := -1) (by decide +kernel) rfl ?_
    cases h
    exact xe_ret_i (ty := .int) (by decide +kernel) rfl rfl ⟨rfl, rfl, (show xin (-1) by decide)⟩
  · rw [if_neg c105] at h
    refine xe_alr (ins := .aload_n 0) (len := 1) (i := 0) (by decide +kernel) rfl rfl rfl rfl rfl ?_
    obtain ⟨v106, e107, h⟩ := xbnd h
    refine xs_gr (i := 439) (c := 15) (k := 29) (by decide +kernel) (by decide) (by decide +kernel) e107 rfl ?_
    obtain ⟨v108, e109, h⟩ := xbnd h
    refine xs_gr (i := 292) (c := 14) (k := 15) (by decide +kernel) (by decide) (by decide +kernel) e109 rfl ?_
    refine xe_ldn (ins := .iload 5) (len := 2) (by decide +kernel) rfl rfl rfl rfl ?_
    obtain ⟨v110, e111, h⟩ := xbnd h
    refine xs_iald rfl (by decide +kernel) hx5 e111 rfl ?_
    refine xe_ldn (ins := .iload_n 1) (len := 1) (by decide +kernel) rfl rfl rfl rfl ?_
    refine xe_icmpeq (off := 6) (t := 128) (by decide +kernel) (by decide) rfl (xq_ai_in e111) hx1 (fun c112 => ?_) (fun c112 => ?_)
    · rw [if_pos c112] at h
      refine xe_alr (ins := .aload_n 0) (len := 1) (i := 0) (by decide +kernel) rfl rfl rfl rfl rfl ?_
      refine xe_ldn (ins := .iload 5) (len := 2) (by decide +kernel) rfl rfl rfl rfl ?_
      obtain ⟨M113, e114, h⟩ := xbnd h
      refine xs_p (i := 501) (c := 15) (k := 39) (by decide +kernel) (by decide +kernel) (by decide +kernel) e114 rfl ?_
      refine xe_alr (ins := .aload_n 0) (len := 1) (i := 0) (by decide +kernel) rfl rfl rfl rfl rfl ?_
      refine xe_iconst (n := 0) (by decide +kernel) rfl ?_
      obtain ⟨M115, e116, h⟩ := xbnd h
      refine xs_p (i := 498) (c := 15) (k := 43) (by decide +kernel) (by decide +kernel) (by decide +kernel) e116 rfl ?_
      refine xe_alr (ins := .aload_n 0) (len := 1) (i := 0) (by decide +kernel) rfl rfl rfl rfl rfl ?_
      refine xe_iconst (n := 0) (by decide +kernel) rfl ?_
      obtain ⟨M117, e118, h⟩ := xbnd h
      refine xs_p (i := 479) (c := 15) (k := 37) (by decide +kernel) (by decide +kernel) (by decide +kernel) e118 rfl ?_
      refine xe_alr (ins := .aload_n 0) (len := 1) (i := 0) (by decide +kernel) rfl rfl rfl rfl rfl ?_
      refine xe_iconst (n := -1) (by decide +kernel) rfl ?_
      obtain ⟨M119, e120, h⟩ := xbnd h
      refine xs_p (i := 482) (c := 15) (k := 40) (by decide +kernel) (by decide +kernel) (by decide +kernel) e120 rfl ?_
      refine xe_alr (ins := .aload_n 0) (len := 1) (i := 0) (by decide +kernel) rfl rfl rfl rfl rfl ?_
      obtain ⟨v121, e122, h⟩ := xbnd h
      refine xs_gr (i := 439) (c := 15) (k := 29) (by decide +kernel) (by decide) (by decide +kernel) e122 rfl ?_
      obtain ⟨v123, e124, h⟩ := xbnd h
      refine xs_gr (i := 277) (c := 14) (k := 18) (by decide +kernel) (by decide) (by decide +kernel) e124 rfl ?_
      refine xe_ldn (ins := .iload 5) (len := 2) (by decide +kernel) rfl rfl rfl rfl ?_
      obtain ⟨v125, e126, h⟩ := xbnd h
      refine xs_iald rfl (by decide +kernel) hx5 e126 rfl ?_
      refine xe_ifeq (off := 28) (t := 187) (by decide +kernel) (by decide) rfl (xq_ai_in e126) (fun c127 => ?_) (fun c127 => ?_)
      · rw [if_pos c127] at h
        refine xe_alr (ins := .aload_n 0) (len := 1) (i := 0) (by decide +kernel) rfl rfl rfl rfl rfl ?_
        refine xe_alr (ins := .aload_n 0) (len := 1) (i := 0) (by decide +kernel) rfl rfl rfl rfl rfl ?_
        obtain ⟨v128, e129, h⟩ := xbnd h
        refine xs_gr (i := 439) (c := 15) (k := 29) (by decide +kernel) (by decide) (by decide +kernel) e129 rfl ?_
        obtain ⟨v130, e131, h⟩ := xbnd h
        refine xs_gr (i := 427) (c := 14) (k := 4) (by decide +kernel) (by decide) (by decide +kernel) e131 rfl ?_
        refine xe_ldn (ins := .iload_n 1) (len := 1) (by decide +kernel) rfl rfl rfl rfl ?_
        obtain ⟨v132, e133, h⟩ := xbnd h
        refine xs_iald rfl (by decide +kernel) hx1 e133 rfl ?_
        obtain ⟨M134, e135, h⟩ := xbnd h
        refine xs_p (i := 482) (c := 15) (k := 40) (by decide +kernel) (by decide +kernel) (by decide +kernel) e135 rfl ?_
        refine xe_alr (ins := .aload_n 0) (len := 1) (i := 0) (by decide +kernel) rfl rfl rfl rfl rfl ?_
        refine xe_ldn (ins := .iload 4) (len := 2) (by decide +kernel) rfl rfl rfl rfl ?_
        obtain ⟨M136, e137, h⟩ := xbnd h
        refine xs_p (i := 485) (c := 15) (k := 41) (by decide +kernel) (by decide +kernel) (by decide +kernel) e137 rfl ?_
        refine xe_alr (ins := .aload_n 0) (len := 1) (i := 0) (by decide +kernel) rfl rfl rfl rfl rfl ?_
        refine xe_iconst (n := 4) (by decide +kernel) rfl ?_
        obtain ⟨M138, e139, h⟩ := xbnd h
        refine xs_p (i := 542) (c := 15) (k := 38) (by decide +kernel) (by decide +kernel) (by decide +kernel) e139 rfl ?_
        refine xe_alr (ins := .aload_n 0) (len := 1) (i := 0) (by decide +kernel) rfl rfl rfl rfl rfl ?_
        refine xe_iconst (n := 0) (by decide +kernel) rfl ?_
        obtain ⟨_, e141, h⟩ := xbnd h
        obtain ⟨M142, e140, h⟩ := xbnd h
        refine xs_cv (i := 507) (j := 275) (ar := [xI (0)]) (rest := []) (r2 := xr_275) (by decide +kernel) (by decide +kernel) (by decide +kernel) xr_275_e rfl (by decide) (by decide) e141 ?_
        refine xc_v (k275 (d := d + 29)  (show xin (0) by decide) e140) rfl ?_
        refine xe_alr (ins := .aload_n 0) (len := 1) (i := 0) (by decide +kernel) rfl rfl rfl rfl rfl ?_
        obtain ⟨v144, e145, h⟩ := xbnd h
        refine xs_gi (i := 583) (c := 15) (k := 54) (by decide +kernel) (by decide) (by decide +kernel) e145 rfl ?_
        refine xe_ifeq (off := 20) (t := 240) (by decide +kernel) (by decide) rfl (xq_gi_in e145) (fun c146 => ?_) (fun c146 => ?_)
        · rw [if_pos c146] at h
          refine xW_lv rfl (l := [(0, xR_ (x0)), (1, xI (x1)), (3, xI (x3)), (4, xI (x4)), (5, xI (x5))]) (xsb_of ⟨rfl, rfl, rfl, rfl, rfl, trivial⟩ (show [0, 1, 3, 4, 5].Nodup by decide)) ?_
          exact k374_240  hr99 hx1 hx3 hx4 hx5 h
        · rw [if_neg c146] at h
          refine xe_ldn (ins := .iload_n 3) (len := 1) (by decide +kernel) rfl rfl rfl rfl ?_
          refine xe_ifne (off := 8) (t := 232) (by decide +kernel) (by decide) rfl hx3 (fun c147 => ?_) (fun c147 => ?_)
          · rw [if_pos c147] at h
            refine xe_alr (ins := .aload_n 0) (len := 1) (i := 0) (by decide +kernel) rfl rfl rfl rfl rfl ?_
            refine xe_ldn (ins := .iload_n 3) (len := 1) (by decide +kernel) rfl rfl rfl rfl ?_
            refine xe_iconst (n := 1) (by decide +kernel) rfl ?_
            refine xe_isub (by decide +kernel) rfl ?_
            obtain ⟨_, e149, h⟩ := xbnd h
            obtain ⟨R150, e148, h⟩ := xbnd h
            refine xs_cv (i := 1150) (j := 375) (ar := [xI (xwr ((x3) - (1)))]) (rest := []) (r2 := xr_375) (by decide +kernel) (by decide +kernel) (by decide +kernel) xr_375_e rfl (by decide) (by decide) e149 ?_
            refine xc_i (k375 (d := d + 109)  (xin_wr _) e148) rfl (fun hi151 => ?_)
            refine xW_lv rfl (l := []) (xsb_of trivial (show [0, 1, 3, 4, 5].Nodup by decide)) ?_
            exact k374_239   hi151 h
          · rw [if_neg c147] at h
            refine xe_ldn (ins := .iload 5) (len := 2) (by decide +kernel) rfl rfl rfl rfl ?_
            refine xe_goto (off := 10) (nx := 239) (by decide +kernel) (by decide) ?_
            refine xW_lv rfl (l := []) (xsb_of trivial (show [0, 1, 3, 4, 5].Nodup by decide)) ?_
            exact k374_239   hx5 h
      · rw [if_neg c127] at h
        refine xe_ldn (ins := .iload 4) (len := 2) (by decide +kernel) rfl rfl rfl rfl ?_
        refine xe_iconst (n := 1) (by decide +kernel) rfl ?_
        refine xe_icmpne (off := 75) (t := 240) (by decide +kernel) (by decide) rfl hx4 (show xin (1) by decide) (fun c152 => ?_) (fun c152 => ?_)
        · rw [if_pos c152] at h
          refine xW_lv rfl (l := [(0, xR_ (x0)), (1, xI (x1)), (3, xI (x3)), (4, xI (x4)), (5, xI (x5))]) (xsb_of ⟨rfl, rfl, rfl, rfl, rfl, trivial⟩ (show [0, 1, 3, 4, 5].Nodup by decide)) ?_
          exact k374_240  hr99 hx1 hx3 hx4 hx5 h
        · rw [if_neg c152] at h
          refine xe_alr (ins := .aload_n 0) (len := 1) (i := 0) (by decide +kernel) rfl rfl rfl rfl rfl ?_
          refine xe_iconst (n := 1) (by decide +kernel) rfl ?_
          obtain ⟨_, e154, h⟩ := xbnd h
          obtain ⟨R155, e153, h⟩ := xbnd h
          refine xs_cv (i := 623) (j := 288) (ar := [xI (1)]) (rest := []) (r2 := xr_288) (by decide +kernel) (by decide +kernel) (by decide +kernel) xr_288_e rfl (by decide) (by decide) e154 ?_
          refine xc_i (k288 (d := d + 28)  (show xin (1) by decide) e153) rfl (fun hi156 => ?_)
          refine xe_ifeq (off := 67) (t := 240) (by decide +kernel) (by decide) rfl hi156 (fun c157 => ?_) (fun c157 => ?_)
          · rw [if_pos c157] at h
            refine xW_lv rfl (l := [(0, xR_ (x0)), (1, xI (x1)), (3, xI (x3)), (4, xI (x4)), (5, xI (x5))]) (xsb_of ⟨rfl, rfl, rfl, rfl, rfl, trivial⟩ (show [0, 1, 3, 4, 5].Nodup by decide)) ?_
            exact k374_240  hr99 hx1 hx3 hx4 hx5 h
          · rw [if_neg c157] at h
            refine xe_ldn (ins := .iload_n 3) (len := 1) (by decide +kernel) rfl rfl rfl rfl ?_
            refine xe_ifne (off := 8) (t := 185) (by decide +kernel) (by decide) rfl hx3 (fun c158 => ?_) (fun c158 => ?_)
            · rw [if_pos c158] at h
              refine xe_iconst (n := -1) (by decide +kernel) rfl ?_
              refine xW_lv rfl (l := []) (xsb_of trivial (show [0, 1, 3, 4, 5].Nodup by decide)) ?_
              exact k374_186   (show xin (-1) by decide) h
            · rw [if_neg c158] at h
              refine xe_ldn (ins := .iload 5) (len := 2) (by decide +kernel) rfl rfl rfl rfl ?_
              refine xe_goto (off := 4) (nx := 186) (by decide +kernel) (by decide) ?_
              refine xW_lv rfl (l := []) (xsb_of trivial (show [0, 1, 3, 4, 5].Nodup by decide)) ?_
              exact k374_186   hx5 h
    · rw [if_neg c112] at h
      refine xe_goto (off := 115) (nx := 240) (by decide +kernel) (by decide) ?_
      refine xW_lv rfl (l := [(0, xR_ (x0)), (1, xI (x1)), (3, xI (x3)), (4, xI (x4)), (5, xI (x5))]) (xsb_of ⟨rfl, rfl, rfl, rfl, rfl, trivial⟩ (show [0, 1, 3, 4, 5].Nodup by decide)) ?_
      exact k374_240  hr99 hx1 hx3 hx4 hx5 h
def f374_99   (f : Nat) : Nat → Nat → Int → Int → Int → Int → xj_M → Option (Int × xj_M)
  | 0, _, _, _, _, _, _ => none
  | n + 1, x0, x1, x3, x4, x5, M => f374_99b   (f374_99   f n) f x0 x1 x3 x4 x5 M
theorem k374_99 {d f : Nat}     : ∀ {n : Nat} {x0 : Nat} {x1 : Int} {x3 : Int} {x4 : Int} {x5 : Int} {M : xj_M} {R : Int × xj_M}, xin x1 → xin x3 → xin x4 → xin x5 → f374_99   f n x0 x1 x3 x4 x5 M = some R → xW (d + 113) (none, d + 113, none) xr_374 (99, [(0, xR_ x0), (1, xI x1), (3, xI x3), (4, xI x4), (5, xI x5)], [], M) (xQi R) := by
  intro n
  induction n with
  | zero => intros; rename_i h; cases h
  | succ n ih => intros; rename_i h; exact k374_99b   ih (by assumption) (by assumption) (by assumption) (by assumption) h
def f374_58b  (r58 : Nat → Int → Int → Int → Int → Int → xj_M → Option (Int × xj_M)) (f : Nat) (x0 : Nat) (x1 : Int) (x2 : Int) (x3 : Int) (x4 : Int) (x5 : Int) (M : xj_M) : Option (Int × xj_M) := (if (4) ≤ (x5) then ((xq_pi 15 54 (x0) (0) M).bind fun M160 => f374_99   f f (x0) (x1) (x3) (x4) (0) M160) else ((xq_gr 15 51 (x0) M).bind fun v162 => ((xq_gr 15 32 (x0) M).bind fun v164 => ((xq_is 15 (x0) M).bind fun _ => ((f261  f (x0) (x1) (x2) M).bind fun R168 => ((xq_al (v164) (xwr ((R168.1) + (x5))) R168.2).bind fun v170 => ((xq_sl (v162) (x5) (v170) R168.2).bind fun M172 => r58 (x0) (x1) (x2) (x3) (x4) (xwr ((x5) + (1))) M172)))))))
theorem k374_58b {d f : Nat}  {r58 : Nat → Int → Int → Int → Int → Int → xj_M → Option (Int × xj_M)}  (hr58 : ∀ {x0 : Nat} {x1 : Int} {x2 : Int} {x3 : Int} {x4 : Int} {x5 : Int} {M : xj_M} {R : Int × xj_M}, xin x1 → xin x2 → xin x3 → xin x4 → xin x5 → r58 x0 x1 x2 x3 x4 x5 M = some R → xW (d + 113) (none, d + 113, none) xr_374 (58, [(0, xR_ x0), (1, xI x1), (2, xI x2), (3, xI x3), (4, xI x4), (5, xI x5)], [], M) (xQi R)) {x0 : Nat} {x1 : Int} {x2 : Int} {x3 : Int} {x4 : Int} {x5 : Int} {M : xj_M} {R : Int × xj_M} (hx1 : xin x1) (hx2 : xin x2) (hx3 : xin x3) (hx4 : xin x4) (hx5 : xin x5) (h : f374_58b  r58 f x0 x1 x2 x3 x4 x5 M = some R) : xW (d + 113) (none, d + 113, none) xr_374 (58, [(0, xR_ x0), (1, xI x1), (2, xI x2), (3, xI x3), (4, xI x4), (5, xI x5)], [], M) (xQi R) := by
  unfold f374_58b at h
  refine xe_ldn (ins := .iload 5) (len := 2) (by decide +kernel) rfl rfl rfl rfl ?_
  refine xe_iconst (n := 4) (by decide +kernel) rfl ?_
  refine xe_icmpge (off := 30) (t := 91) (by decide +kernel) (by decide) rfl hx5 (show xin (4) by decide) (fun c159 => ?_) (fun c159 => ?_)
  · rw [if_pos c159] at h
    refine xe_alr (ins := .aload_n 0) (len := 1) (i := 0) (by decide +kernel) rfl rfl rfl rfl rfl ?_
    refine xe_iconst (n := 0) (by decide +kernel) rfl ?_
    obtain ⟨M160, e161, h⟩ := xbnd h
    refine xs_p (i := 583) (c := 15) (k := 54) (by decide +kernel) (by decide +kernel) (by decide +kernel) e161 rfl ?_
    refine xe_iconst (n := 0) (by decide +kernel) rfl ?_
    refine xe_isr (ins := .istore 5) (len := 2) (i := 5) (by decide +kernel) rfl rfl rfl (by decide) (xk_k (show ¬ (0 : Nat) = 5 by decide) (Or.inl (show ¬ (0 + 1 : Nat) = 5 by decide)) (xk_k (show ¬ (1 : Nat) = 5 by decide) (Or.inl (show ¬ (1 + 1 : Nat) = 5 by decide)) (xk_k (show ¬ (2 : Nat) = 5 by decide) (Or.inl (show ¬ (2 + 1 : Nat) = 5 by decide)) (xk_k (show ¬ (3 : Nat) = 5 by decide) (Or.inl (show ¬ (3 + 1 : Nat) = 5 by decide)) (xk_k (show ¬ (4 : Nat) = 5 by decide) (Or.inr (xI_cat _)) (xk_d rfl xk_n)))))) rfl ?_
    refine xW_lv rfl (l := [(0, xR_ (x0)), (1, xI (x1)), (3, xI (x3)), (4, xI (x4)), (5, xI (0))]) (xsb_of ⟨rfl, rfl, rfl, rfl, rfl, trivial⟩ (show [5, 0, 1, 2, 3, 4].Nodup by decide)) ?_
    exact k374_99   hx1 hx3 hx4 (show xin (0) by decide) h
  · rw [if_neg c159] at h
    refine xe_alr (ins := .aload_n 0) (len := 1) (i := 0) (by decide +kernel) rfl rfl rfl rfl rfl ?_
    obtain ⟨v162, e163, h⟩ := xbnd h
    refine xs_gr (i := 556) (c := 15) (k := 51) (by decide +kernel) (by decide) (by decide +kernel) e163 rfl ?_
    refine xe_ldn (ins := .iload 5) (len := 2) (by decide +kernel) rfl rfl rfl rfl ?_
    refine xe_alr (ins := .aload_n 0) (len := 1) (i := 0) (by decide +kernel) rfl rfl rfl rfl rfl ?_
    obtain ⟨v164, e165, h⟩ := xbnd h
    refine xs_gr (i := 433) (c := 15) (k := 32) (by decide +kernel) (by decide) (by decide +kernel) e165 rfl ?_
    refine xe_alr (ins := .aload_n 0) (len := 1) (i := 0) (by decide +kernel) rfl rfl rfl rfl rfl ?_
    refine xe_ldn (ins := .iload_n 1) (len := 1) (by decide +kernel) rfl rfl rfl rfl ?_
    refine xe_ldn (ins := .iload_n 2) (len := 1) (by decide +kernel) rfl rfl rfl rfl ?_
    obtain ⟨_, e167, h⟩ := xbnd h
    obtain ⟨R168, e166, h⟩ := xbnd h
    refine xs_cv (i := 436) (j := 261) (ar := [xI (x2), xI (x1)]) (rest := [xR_ (v164), xI (x5), xR_ (v162)]) (r2 := xr_261) (by decide +kernel) (by decide +kernel) (by decide +kernel) xr_261_e rfl (by decide) (by simp only [List.map_cons, List.map_nil, List.sum_cons, List.sum_nil, xR_cat, xI_cat, xZ_cat]; decide) e167 ?_
    refine xc_i (k261 (d := d + 112)  hx1 hx2 e166) rfl (fun hi169 => ?_)
    refine xe_ldn (ins := .iload 5) (len := 2) (by decide +kernel) rfl rfl rfl rfl ?_
    refine xe_iadd (by decide +kernel) rfl ?_
    obtain ⟨v170, e171, h⟩ := xbnd h
    refine xs_lald (by decide +kernel) (xin_wr _) e171 rfl ?_
    obtain ⟨M172, e173, h⟩ := xbnd h
    refine xs_last (by decide +kernel) hx5 e173 rfl ?_
    refine xe_iincr (i := 5) (n := 1) (by decide +kernel) (by decide) rfl (xk_k (show ¬ (0 : Nat) = 5 by decide) (Or.inl (show ¬ (0 + 1 : Nat) = 5 by decide)) (xk_k (show ¬ (1 : Nat) = 5 by decide) (Or.inl (show ¬ (1 + 1 : Nat) = 5 by decide)) (xk_k (show ¬ (2 : Nat) = 5 by decide) (Or.inl (show ¬ (2 + 1 : Nat) = 5 by decide)) (xk_k (show ¬ (3 : Nat) = 5 by decide) (Or.inl (show ¬ (3 + 1 : Nat) = 5 by decide)) (xk_k (show ¬ (4 : Nat) = 5 by decide) (Or.inr (xI_cat _)) (xk_d rfl xk_n)))))) rfl ?_
    refine xe_goto (off := -30) (nx := 58) (by decide +kernel) (by decide) ?_
    refine xW_lv rfl (l := [(0, xR_ (x0)), (1, xI (x1)), (2, xI (x2)), (3, xI (x3)), (4, xI (x4)), (5, xI (xwr ((x5) + (1))))]) (xsb_of ⟨rfl, rfl, rfl, rfl, rfl, rfl, trivial⟩ (show [5, 0, 1, 2, 3, 4].Nodup by decide)) ?_
    exact hr58 hx1 hx2 hx3 hx4 (xin_wr _) h
def f374_58   (f : Nat) : Nat → Nat → Int → Int → Int → Int → Int → xj_M → Option (Int × xj_M)
  | 0, _, _, _, _, _, _, _ => none
  | n + 1, x0, x1, x2, x3, x4, x5, M => f374_58b   (f374_58   f n) f x0 x1 x2 x3 x4 x5 M
theorem k374_58 {d f : Nat}     : ∀ {n : Nat} {x0 : Nat} {x1 : Int} {x2 : Int} {x3 : Int} {x4 : Int} {x5 : Int} {M : xj_M} {R : Int × xj_M}, xin x1 → xin x2 → xin x3 → xin x4 → xin x5 → f374_58   f n x0 x1 x2 x3 x4 x5 M = some R → xW (d + 113) (none, d + 113, none) xr_374 (58, [(0, xR_ x0), (1, xI x1), (2, xI x2), (3, xI x3), (4, xI x4), (5, xI x5)], [], M) (xQi R) := by
  intro n
  induction n with
  | zero => intros; rename_i h; cases h
  | succ n ih => intros; rename_i h; exact k374_58b   ih (by assumption) (by assumption) (by assumption) (by assumption) (by assumption) h
def f374  (f : Nat) (a0 : Nat) (a1 : Int) (a2 : Int) (a3 : Int) (M : xj_M) : Option (Int × xj_M) := ((xq_pi 15 74 (a0) (0) M).bind fun M174 => ((xq_is 15 (a0) M174).bind fun _ => ((f296  f (a0) M174).bind fun M178 => ((xq_is 15 (a0) M178).bind fun _ => ((f371  f (a0) (a1) (a2) M178).bind fun R182 => (if ¬ (R182.1) = 0 then ((xq_gr 15 29 (a0) R182.2).bind fun v185 => ((xq_gr 14 5 (v185) R182.2).bind fun v187 => ((xq_ab (v187) (a1) R182.2).bind fun v189 => (if ¬ (v189) = 0 then f374_39   f  R182.2 else (if 0 ≤ (a3) then ((xq_gr 15 34 (a0) R182.2).bind fun v193 => ((xq_ai 3 (v193) (xwr ((xwr ((a1) * (520))) + (a2))) R182.2).bind fun v195 => f374_58   f f (a0) (a1) (a2) (a3) (v195) (0) R182.2)) else f374_39   f  R182.2))))) else ((xq_is 15 (a0) R182.2).bind fun _ => ((f321  f (a0) R182.2).bind fun R199 => (some (R199.1, R199.2))))))))))
theorem k374 {d f : Nat}   {a0 : Nat} {a1 : Int} {a2 : Int} {a3 : Int} {M : xj_M} {R : Int × xj_M} (ha1 : xin a1) (ha2 : xin a2) (ha3 : xin a3) (h : f374  f a0 a1 a2 a3 M = some R) : xT (d + 114) 374 [xR_ a0, xI a1, xI a2, xI a3] M (xQi R) := by
  refine xT_m xr_374_e (X := (none, d + 113, none)) rfl (xa_1 (xR_cat _) (xa_1 (xI_cat _) (xa_1 (xI_cat _) (xa_1 (xI_cat _) xa_n)))) (by decide) ?_
  unfold f374 at h
  refine xe_alr (ins := .aload_n 0) (len := 1) (i := 0) (by decide +kernel) rfl rfl rfl rfl rfl ?_
  refine xe_iconst (n := 0) (by decide +kernel) rfl ?_
  obtain ⟨M174, e175, h⟩ := xbnd h
  refine xs_p (i := 699) (c := 15) (k := 74) (by decide +kernel) (by decide +kernel) (by decide +kernel) e175 rfl ?_
  refine xe_alr (ins := .aload_n 0) (len := 1) (i := 0) (by decide +kernel) rfl rfl rfl rfl rfl ?_
  obtain ⟨_, e177, h⟩ := xbnd h
  obtain ⟨M178, e176, h⟩ := xbnd h
  refine xs_cv (i := 884) (j := 296) (ar := []) (rest := []) (r2 := xr_296) (by decide +kernel) (by decide +kernel) (by decide +kernel) xr_296_e rfl (by decide) (by decide) e177 ?_
  refine xc_v (k296 (d := d + 0)   e176) rfl ?_
  refine xe_alr (ins := .aload_n 0) (len := 1) (i := 0) (by decide +kernel) rfl rfl rfl rfl rfl ?_
  refine xe_ldn (ins := .iload_n 1) (len := 1) (by decide +kernel) rfl rfl rfl rfl ?_
  refine xe_ldn (ins := .iload_n 2) (len := 1) (by decide +kernel) rfl rfl rfl rfl ?_
  obtain ⟨_, e181, h⟩ := xbnd h
  obtain ⟨R182, e180, h⟩ := xbnd h
  refine xs_cv (i := 1147) (j := 371) (ar := [xI (a2), xI (a1)]) (rest := []) (r2 := xr_371) (by decide +kernel) (by decide +kernel) (by decide +kernel) xr_371_e rfl (by decide) (by decide) e181 ?_
  refine xc_i (k371 (d := d + 112)  ha1 ha2 e180) rfl (fun hi183 => ?_)
  refine xe_ifne (off := 8) (t := 23) (by decide +kernel) (by decide) rfl hi183 (fun c184 => ?_) (fun c184 => ?_)
  · rw [if_pos c184] at h
    refine xe_alr (ins := .aload_n 0) (len := 1) (i := 0) (by decide +kernel) rfl rfl rfl rfl rfl ?_
    obtain ⟨v185, e186, h⟩ := xbnd h
    refine xs_gr (i := 439) (c := 15) (k := 29) (by decide +kernel) (by decide) (by decide +kernel) e186 rfl ?_
    obtain ⟨v187, e188, h⟩ := xbnd h
    refine xs_gr (i := 187) (c := 14) (k := 5) (by decide +kernel) (by decide) (by decide +kernel) e188 rfl ?_
    refine xe_ldn (ins := .iload_n 1) (len := 1) (by decide +kernel) rfl rfl rfl rfl ?_
    obtain ⟨v189, e190, h⟩ := xbnd h
    refine xs_bald (by decide +kernel) ha1 e190 rfl ?_
    refine xe_ifne (off := 7) (t := 39) (by decide +kernel) (by decide) rfl (xq_ab_in e190) (fun c191 => ?_) (fun c191 => ?_)
    · rw [if_pos c191] at h
      refine xW_lv rfl (l := []) (xsb_of trivial (show [0, 1, 2, 3].Nodup by decide)) ?_
      exact k374_39    h
    · rw [if_neg c191] at h
      refine xe_ldn (ins := .iload_n 3) (len := 1) (by decide +kernel) rfl rfl rfl rfl ?_
      refine xe_ifge (off := 5) (t := 41) (by decide +kernel) (by decide) rfl ha3 (fun c192 => ?_) (fun c192 => ?_)
      · rw [if_pos c192] at h
        refine xe_alr (ins := .aload_n 0) (len := 1) (i := 0) (by decide +kernel) rfl rfl rfl rfl rfl ?_
        obtain ⟨v193, e194, h⟩ := xbnd h
        refine xs_gr (i := 450) (c := 15) (k := 34) (by decide +kernel) (by decide) (by decide +kernel) e194 rfl ?_
        refine xe_ldn (ins := .iload_n 1) (len := 1) (by decide +kernel) rfl rfl rfl rfl ?_
        refine xe_sipush (n := 520) (by decide +kernel) (by decide) rfl ?_
        refine xe_imul (by decide +kernel) rfl ?_
        refine xe_ldn (ins := .iload_n 2) (len := 1) (by decide +kernel) rfl rfl rfl rfl ?_
        refine xe_iadd (by decide +kernel) rfl ?_
        obtain ⟨v195, e196, h⟩ := xbnd h
        refine xs_iald rfl (by decide +kernel) (xin_wr _) e196 rfl ?_
        refine xe_isr (ins := .istore 4) (len := 2) (i := 4) (by decide +kernel) rfl rfl rfl (by decide) (xk_k (show ¬ (0 : Nat) = 4 by decide) (Or.inl (show ¬ (0 + 1 : Nat) = 4 by decide)) (xk_k (show ¬ (1 : Nat) = 4 by decide) (Or.inl (show ¬ (1 + 1 : Nat) = 4 by decide)) (xk_k (show ¬ (2 : Nat) = 4 by decide) (Or.inl (show ¬ (2 + 1 : Nat) = 4 by decide)) (xk_k (show ¬ (3 : Nat) = 4 by decide) (Or.inr (xI_cat _)) xk_n)))) rfl ?_
        refine xe_iconst (n := 0) (by decide +kernel) rfl ?_
        refine xe_isr (ins := .istore 5) (len := 2) (i := 5) (by decide +kernel) rfl rfl rfl (by decide) (xk_k (show ¬ (4 : Nat) = 5 by decide) (Or.inr (xI_cat _)) (xk_k (show ¬ (0 : Nat) = 5 by decide) (Or.inl (show ¬ (0 + 1 : Nat) = 5 by decide)) (xk_k (show ¬ (1 : Nat) = 5 by decide) (Or.inl (show ¬ (1 + 1 : Nat) = 5 by decide)) (xk_k (show ¬ (2 : Nat) = 5 by decide) (Or.inl (show ¬ (2 + 1 : Nat) = 5 by decide)) (xk_k (show ¬ (3 : Nat) = 5 by decide) (Or.inl (show ¬ (3 + 1 : Nat) = 5 by decide)) xk_n))))) rfl ?_
        refine xW_lv rfl (l := [(0, xR_ (a0)), (1, xI (a1)), (2, xI (a2)), (3, xI (a3)), (4, xI (v195)), (5, xI (0))]) (xsb_of ⟨rfl, rfl, rfl, rfl, rfl, rfl, trivial⟩ (show [5, 4, 0, 1, 2, 3].Nodup by decide)) ?_
        exact k374_58   ha1 ha2 ha3 (xq_ai_in e196) (show xin (0) by decide) h
      · rw [if_neg c192] at h
        refine xW_lv rfl (l := []) (xsb_of trivial (show [0, 1, 2, 3].Nodup by decide)) ?_
        exact k374_39    h
  · rw [if_neg c184] at h
    refine xe_alr (ins := .aload_n 0) (len := 1) (i := 0) (by decide +kernel) rfl rfl rfl rfl rfl ?_
    obtain ⟨_, e198, h⟩ := xbnd h
    obtain ⟨R199, e197, h⟩ := xbnd h
    refine xs_cv (i := 903) (j := 321) (ar := []) (rest := []) (r2 := xr_321) (by decide +kernel) (by decide +kernel) (by decide +kernel) xr_321_e rfl (by decide) (by decide) e198 ?_
    refine xc_i (k321 (d := d + 112)   e197) rfl (fun hi200 => ?_)
    cases h
    exact xe_ret_i (ty := .int) (by decide +kernel) rfl rfl ⟨rfl, rfl, hi200⟩
-- ChangeHouseModel.count
def xr_377 : xj_mR := (15, yX15_count, cX15_count, 3, (Option.some Jvm.ClassFile.FieldType.int), 1, false, (14, 68), (1, 12))
set_option maxRecDepth 20000 in
theorem xr_377_e : xj_row 377 = some xr_377 := rfl
def f377  (f : Nat) (a0 : Nat) (a1 : Int) (M : xj_M) : Option (Int × xj_M) := ((xq_pi 15 74 (a0) (0) M).bind fun M101 => ((xq_gr 15 61 (a0) M101).bind fun v103 => ((xq_gi 15 62 (a0) M101).bind fun v105 => ((xq_ar (v103) (v105) M101).bind fun v107 => (if (a1) < 0 ∨ 9 < (a1) then (some (-1, M101)) else (if (a1) = 0 then ((xq_gi 13 2 (v107) M101).bind fun v111 => (some (v111, M101))) else (if (a1) = 1 then ((xq_gi 13 3 (v107) M101).bind fun v114 => (some (v114, M101))) else (if (a1) = 2 then ((xq_is 15 (a0) M101).bind fun _ => ((f296  f (a0) M101).bind fun M119 => ((xq_gr 15 29 (a0) M119).bind fun v121 => ((xq_gi 14 8 (v121) M119).bind fun v123 => (some (v123, M119)))))) else (if (a1) = 3 then ((xq_is 15 (a0) M101).bind fun _ => ((f296  f (a0) M101).bind fun M128 => ((xq_gr 15 29 (a0) M128).bind fun v130 => ((xq_gi 14 9 (v130) M128).bind fun v132 => (some (v132, M128)))))) else (if (a1) = 4 then ((xq_gi 13 33 (v107) M101).bind fun v135 => (some (v135, M101))) else (if (a1) = 5 then ((xq_gi 15 62 (a0) M101).bind fun v138 => (some (v138, M101))) else (if (a1) = 6 then ((xq_gr 13 0 (v107) M101).bind fun v141 => ((xq_gi 12 3 (v141) M101).bind fun v143 => (some (v143, M101)))) else (if (a1) = 7 then ((xq_gi 13 4 (v107) M101).bind fun v146 => (some (v146, M101))) else (if (a1) = 8 then ((xq_gi 15 63 (a0) M101).bind fun v149 => (some (v149, M101))) else ((xq_gi 15 73 (a0) M101).bind fun v152 => (some (v152, M101)))))))))))))))))
theorem k377 {d f : Nat}   {a0 : Nat} {a1 : Int} {M : xj_M} {R : Int × xj_M} (ha1 : xin a1) (h : f377  f a0 a1 M = some R) : xT (d + 114) 377 [xR_ a0, xI a1] M (xQi R) := by
  refine xT_m xr_377_e (X := (none, d + 113, none)) rfl (xa_1 (xR_cat _) (xa_1 (xI_cat _) xa_n)) (by decide) ?_
  unfold f377 at h
  refine xe_alr (ins := .aload_n 0) (len := 1) (i := 0) (by decide +kernel) rfl rfl rfl rfl rfl ?_
  refine xe_iconst (n := 0) (by decide +kernel) rfl ?_
  obtain ⟨M101, e102, h⟩ := xbnd h
  refine xs_p (i := 699) (c := 15) (k := 74) (by decide +kernel) (by decide +kernel) (by decide +kernel) e102 rfl ?_
  refine xe_alr (ins := .aload_n 0) (len := 1) (i := 0) (by decide +kernel) rfl rfl rfl rfl rfl ?_
  obtain ⟨v103, e104, h⟩ := xbnd h
  refine xs_gr (i := 667) (c := 15) (k := 61) (by decide +kernel) (by decide) (by decide +kernel) e104 rfl ?_
  refine xe_alr (ins := .aload_n 0) (len := 1) (i := 0) (by decide +kernel) rfl rfl rfl rfl rfl ?_
  obtain ⟨v105, e106, h⟩ := xbnd h
  refine xs_gi (i := 664) (c := 15) (k := 62) (by decide +kernel) (by decide) (by decide +kernel) e106 rfl ?_
  obtain ⟨v107, e108, h⟩ := xbnd h
  refine xs_aald (by decide +kernel) (xq_gi_in e106) e108 rfl ?_
  refine xe_asr (ins := .astore_n 2) (len := 1) (i := 2) (by decide +kernel) rfl rfl rfl (by decide) (xk_k (show ¬ (0 : Nat) = 2 by decide) (Or.inl (show ¬ (0 + 1 : Nat) = 2 by decide)) (xk_k (show ¬ (1 : Nat) = 2 by decide) (Or.inr (xI_cat _)) xk_n)) rfl ?_
  refine xe_ldn (ins := .iload_n 1) (len := 1) (by decide +kernel) rfl rfl rfl rfl ?_
  by_cases c109 : (a1) < 0 ∨ 9 < (a1)
  · rw [if_pos c109] at h
    refine xe_ts (dd := 123) (lo := 0) (hi := 9) (offs := #[56, 61, 66, 78, 90, 95, 100, 108, 113, 118]) (len := 56) (off := 123) (t := 139) (by decide +kernel) ha1 (by rw [if_pos c109]) (by decide) ?_
    refine xe_iconst (n := -1) (by decide +kernel) rfl ?_
    cases h
    exact xe_ret_i (ty := .int) (by decide +kernel) rfl rfl ⟨rfl, rfl, (show xin (-1) by decide)⟩
  · rw [if_neg c109] at h
    by_cases c110 : (a1) = 0
    · rw [if_pos c110] at h
      refine xe_ts (dd := 123) (lo := 0) (hi := 9) (offs := #[56, 61, 66, 78, 90, 95, 100, 108, 113, 118]) (len := 56) (off := 56) (t := 72) (by decide +kernel) ha1 (by rw [if_neg c109, c110]; rfl) (by decide) ?_
      refine xe_alr (ins := .aload_n 2) (len := 1) (i := 2) (by decide +kernel) rfl rfl rfl rfl rfl ?_
      obtain ⟨v111, e112, h⟩ := xbnd h
      refine xs_gi (i := 740) (c := 13) (k := 2) (by decide +kernel) (by decide) (by decide +kernel) e112 rfl ?_
      cases h
      exact xe_ret_i (ty := .int) (by decide +kernel) rfl rfl ⟨rfl, rfl, (xq_gi_in e112)⟩
    · rw [if_neg c110] at h
      by_cases c113 : (a1) = 1
      · rw [if_pos c113] at h
        refine xe_ts (dd := 123) (lo := 0) (hi := 9) (offs := #[56, 61, 66, 78, 90, 95, 100, 108, 113, 118]) (len := 56) (off := 61) (t := 77) (by decide +kernel) ha1 (by rw [if_neg c109, c113]; rfl) (by decide) ?_
        refine xe_alr (ins := .aload_n 2) (len := 1) (i := 2) (by decide +kernel) rfl rfl rfl rfl rfl ?_
        obtain ⟨v114, e115, h⟩ := xbnd h
        refine xs_gi (i := 837) (c := 13) (k := 3) (by decide +kernel) (by decide) (by decide +kernel) e115 rfl ?_
        cases h
        exact xe_ret_i (ty := .int) (by decide +kernel) rfl rfl ⟨rfl, rfl, (xq_gi_in e115)⟩
      · rw [if_neg c113] at h
        by_cases c116 : (a1) = 2
        · rw [if_pos c116] at h
          refine xe_ts (dd := 123) (lo := 0) (hi := 9) (offs := #[56, 61, 66, 78, 90, 95, 100, 108, 113, 118]) (len := 56) (off := 66) (t := 82) (by decide +kernel) ha1 (by rw [if_neg c109, c116]; rfl) (by decide) ?_
          refine xe_alr (ins := .aload_n 0) (len := 1) (i := 0) (by decide +kernel) rfl rfl rfl rfl rfl ?_
          obtain ⟨_, e118, h⟩ := xbnd h
          obtain ⟨M119, e117, h⟩ := xbnd h
          refine xs_cv (i := 884) (j := 296) (ar := []) (rest := []) (r2 := xr_296) (by decide +kernel) (by decide +kernel) (by decide +kernel) xr_296_e rfl (by decide) (by decide) e118 ?_
          refine xc_v (k296 (d := d + 0)   e117) rfl ?_
          refine xe_alr (ins := .aload_n 0) (len := 1) (i := 0) (by decide +kernel) rfl rfl rfl rfl rfl ?_
          obtain ⟨v121, e122, h⟩ := xbnd h
          refine xs_gr (i := 439) (c := 15) (k := 29) (by decide +kernel) (by decide) (by decide +kernel) e122 rfl ?_
          obtain ⟨v123, e124, h⟩ := xbnd h
          refine xs_gi (i := 166) (c := 14) (k := 8) (by decide +kernel) (by decide) (by decide +kernel) e124 rfl ?_
          cases h
          exact xe_ret_i (ty := .int) (by decide +kernel) rfl rfl ⟨rfl, rfl, (xq_gi_in e124)⟩
        · rw [if_neg c116] at h
          by_cases c125 : (a1) = 3
          · rw [if_pos c125] at h
            refine xe_ts (dd := 123) (lo := 0) (hi := 9) (offs := #[56, 61, 66, 78, 90, 95, 100, 108, 113, 118]) (len := 56) (off := 78) (t := 94) (by decide +kernel) ha1 (by rw [if_neg c109, c125]; rfl) (by decide) ?_
            refine xe_alr (ins := .aload_n 0) (len := 1) (i := 0) (by decide +kernel) rfl rfl rfl rfl rfl ?_
            obtain ⟨_, e127, h⟩ := xbnd h
            obtain ⟨M128, e126, h⟩ := xbnd h
            refine xs_cv (i := 884) (j := 296) (ar := []) (rest := []) (r2 := xr_296) (by decide +kernel) (by decide +kernel) (by decide +kernel) xr_296_e rfl (by decide) (by decide) e127 ?_
            refine xc_v (k296 (d := d + 0)   e126) rfl ?_
            refine xe_alr (ins := .aload_n 0) (len := 1) (i := 0) (by decide +kernel) rfl rfl rfl rfl rfl ?_
            obtain ⟨v130, e131, h⟩ := xbnd h
            refine xs_gr (i := 439) (c := 15) (k := 29) (by decide +kernel) (by decide) (by decide +kernel) e131 rfl ?_
            obtain ⟨v132, e133, h⟩ := xbnd h
            refine xs_gi (i := 171) (c := 14) (k := 9) (by decide +kernel) (by decide) (by decide +kernel) e133 rfl ?_
            cases h
            exact xe_ret_i (ty := .int) (by decide +kernel) rfl rfl ⟨rfl, rfl, (xq_gi_in e133)⟩
          · rw [if_neg c125] at h
            by_cases c134 : (a1) = 4
            · rw [if_pos c134] at h
              refine xe_ts (dd := 123) (lo := 0) (hi := 9) (offs := #[56, 61, 66, 78, 90, 95, 100, 108, 113, 118]) (len := 56) (off := 90) (t := 106) (by decide +kernel) ha1 (by rw [if_neg c109, c134]; rfl) (by decide) ?_
              refine xe_alr (ins := .aload_n 2) (len := 1) (i := 2) (by decide +kernel) rfl rfl rfl rfl rfl ?_
              obtain ⟨v135, e136, h⟩ := xbnd h
              refine xs_gi (i := 715) (c := 13) (k := 33) (by decide +kernel) (by decide) (by decide +kernel) e136 rfl ?_
              cases h
              exact xe_ret_i (ty := .int) (by decide +kernel) rfl rfl ⟨rfl, rfl, (xq_gi_in e136)⟩
            · rw [if_neg c134] at h
              by_cases c137 : (a1) = 5
              · rw [if_pos c137] at h
                refine xe_ts (dd := 123) (lo := 0) (hi := 9) (offs := #[56, 61, 66, 78, 90, 95, 100, 108, 113, 118]) (len := 56) (off := 95) (t := 111) (by decide +kernel) ha1 (by rw [if_neg c109, c137]; rfl) (by decide) ?_
                refine xe_alr (ins := .aload_n 0) (len := 1) (i := 0) (by decide +kernel) rfl rfl rfl rfl rfl ?_
                obtain ⟨v138, e139, h⟩ := xbnd h
                refine xs_gi (i := 664) (c := 15) (k := 62) (by decide +kernel) (by decide) (by decide +kernel) e139 rfl ?_
                cases h
                exact xe_ret_i (ty := .int) (by decide +kernel) rfl rfl ⟨rfl, rfl, (xq_gi_in e139)⟩
              · rw [if_neg c137] at h
                by_cases c140 : (a1) = 6
                · rw [if_pos c140] at h
                  refine xe_ts (dd := 123) (lo := 0) (hi := 9) (offs := #[56, 61, 66, 78, 90, 95, 100, 108, 113, 118]) (len := 56) (off := 100) (t := 116) (by decide +kernel) ha1 (by rw [if_neg c109, c140]; rfl) (by decide) ?_
                  refine xe_alr (ins := .aload_n 2) (len := 1) (i := 2) (by decide +kernel) rfl rfl rfl rfl rfl ?_
                  obtain ⟨v141, e142, h⟩ := xbnd h
                  refine xs_gr (i := 679) (c := 13) (k := 0) (by decide +kernel) (by decide) (by decide +kernel) e142 rfl ?_
                  obtain ⟨v143, e144, h⟩ := xbnd h
                  refine xs_gi (i := 690) (c := 12) (k := 3) (by decide +kernel) (by decide) (by decide +kernel) e144 rfl ?_
                  cases h
                  exact xe_ret_i (ty := .int) (by decide +kernel) rfl rfl ⟨rfl, rfl, (xq_gi_in e144)⟩
                · rw [if_neg c140] at h
                  by_cases c145 : (a1) = 7
                  · rw [if_pos c145] at h
                    refine xe_ts (dd := 123) (lo := 0) (hi := 9) (offs := #[56, 61, 66, 78, 90, 95, 100, 108, 113, 118]) (len := 56) (off := 108) (t := 124) (by decide +kernel) ha1 (by rw [if_neg c109, c145]; rfl) (by decide) ?_
                    refine xe_alr (ins := .aload_n 2) (len := 1) (i := 2) (by decide +kernel) rfl rfl rfl rfl rfl ?_
                    obtain ⟨v146, e147, h⟩ := xbnd h
                    refine xs_gi (i := 746) (c := 13) (k := 4) (by decide +kernel) (by decide) (by decide +kernel) e147 rfl ?_
                    cases h
                    exact xe_ret_i (ty := .int) (by decide +kernel) rfl rfl ⟨rfl, rfl, (xq_gi_in e147)⟩
                  · rw [if_neg c145] at h
                    by_cases c148 : (a1) = 8
                    · rw [if_pos c148] at h
                      refine xe_ts (dd := 123) (lo := 0) (hi := 9) (offs := #[56, 61, 66, 78, 90, 95, 100, 108, 113, 118]) (len := 56) (off := 113) (t := 129) (by decide +kernel) ha1 (by rw [if_neg c109, c148]; rfl) (by decide) ?_
                      refine xe_alr (ins := .aload_n 0) (len := 1) (i := 0) (by decide +kernel) rfl rfl rfl rfl rfl ?_
                      obtain ⟨v149, e150, h⟩ := xbnd h
                      refine xs_gi (i := 722) (c := 15) (k := 63) (by decide +kernel) (by decide) (by decide +kernel) e150 rfl ?_
                      cases h
                      exact xe_ret_i (ty := .int) (by decide +kernel) rfl rfl ⟨rfl, rfl, (xq_gi_in e150)⟩
                    · rw [if_neg c148] at h
                      have c151 : (a1) = 9 := by omega
                      refine xe_ts (dd := 123) (lo := 0) (hi := 9) (offs := #[56, 61, 66, 78, 90, 95, 100, 108, 113, 118]) (len := 56) (off := 118) (t := 134) (by decide +kernel) ha1 (by rw [if_neg c109, c151]; rfl) (by decide) ?_
                      refine xe_alr (ins := .aload_n 0) (len := 1) (i := 0) (by decide +kernel) rfl rfl rfl rfl rfl ?_
                      obtain ⟨v152, e153, h⟩ := xbnd h
                      refine xs_gi (i := 1131) (c := 15) (k := 73) (by decide +kernel) (by decide) (by decide +kernel) e153 rfl ?_
                      cases h
                      exact xe_ret_i (ty := .int) (by decide +kernel) rfl rfl ⟨rfl, rfl, (xq_gi_in e153)⟩
-- ChangeHouseModel.predicate
def xr_378 : xj_mR := (15, yX15_predicate_, cX15_predicate_, 4, (Option.some Jvm.ClassFile.FieldType.int), 2, false, (14, 72), (1, 12))
set_option maxRecDepth 20000 in
theorem xr_378_e : xj_row 378 = some xr_378 := rfl
def f378_24   (f : Nat) (x0 : Nat) (M : xj_M) : Option (Int × xj_M) := ((xq_is 15 (x0) M).bind fun _ => ((f321  f (x0) M).bind fun R103 => (some (R103.1, R103.2))))
theorem k378_24 {d f : Nat}     {x0 : Nat} {M : xj_M} {R : Int × xj_M}  (h : f378_24   f x0 M = some R) : xW (d + 113) (none, d + 113, none) xr_378 (24, [(0, xR_ x0)], [], M) (xQi R) := by
  unfold f378_24 at h
  refine xe_alr (ins := .aload_n 0) (len := 1) (i := 0) (by decide +kernel) rfl rfl rfl rfl rfl ?_
  obtain ⟨_, e102, h⟩ := xbnd h
  obtain ⟨R103, e101, h⟩ := xbnd h
  refine xs_cv (i := 903) (j := 321) (ar := []) (rest := []) (r2 := xr_321) (by decide +kernel) (by decide +kernel) (by decide +kernel) xr_321_e rfl (by decide) (by decide) e102 ?_
  refine xc_i (k321 (d := d + 112)   e101) rfl (fun hi104 => ?_)
  cases h
  exact xe_ret_i (ty := .int) (by decide +kernel) rfl rfl ⟨rfl, rfl, hi104⟩
def f378_143   (f : Nat) (y0 : Int) (M : xj_M) : Option (Int × xj_M) := (some (y0, M))
theorem k378_143 {d f : Nat}     {y0 : Int} {M : xj_M} {R : Int × xj_M} (hy0 : xin y0) (h : f378_143   f y0 M = some R) : xW (d + 113) (none, d + 113, none) xr_378 (143, [], [xI y0], M) (xQi R) := by
  unfold f378_143 at h
  cases h
  exact xe_ret_i (ty := .int) (by decide +kernel) rfl rfl ⟨rfl, rfl, hy0⟩
def f378_125   (f : Nat) (y0 : Int) (M : xj_M) : Option (Int × xj_M) := (some (y0, M))
theorem k378_125 {d f : Nat}     {y0 : Int} {M : xj_M} {R : Int × xj_M} (hy0 : xin y0) (h : f378_125   f y0 M = some R) : xW (d + 113) (none, d + 113, none) xr_378 (125, [], [xI y0], M) (xQi R) := by
  unfold f378_125 at h
  cases h
  exact xe_ret_i (ty := .int) (by decide +kernel) rfl rfl ⟨rfl, rfl, hy0⟩
def f378  (f : Nat) (a0 : Nat) (a1 : Int) (a2 : Int) (M : xj_M) : Option (Int × xj_M) := ((xq_pi 15 74 (a0) (0) M).bind fun M105 => ((xq_is 15 (a0) M105).bind fun _ => ((f296  f (a0) M105).bind fun M109 => (if (a1) < 0 then f378_24   f (a0) M109 else ((xq_gr 15 29 (a0) M109).bind fun v112 => ((xq_gi 14 8 (v112) M109).bind fun v114 => (if (a1) < (v114) then ((xq_gr 15 61 (a0) M109).bind fun v117 => ((xq_gi 15 62 (a0) M109).bind fun v119 => ((xq_ar (v117) (v119) M109).bind fun v121 => (if (a2) < 0 ∨ 7 < (a2) then (some (-1, M109)) else (if (a2) = 0 then ((xq_gr 15 29 (a0) M109).bind fun v125 => ((xq_gr 14 1 (v125) M109).bind fun v127 => ((xq_ai 3 (v127) (a1) M109).bind fun v129 => (some (v129, M109))))) else (if (a2) = 1 then ((xq_gr 15 29 (a0) M109).bind fun v132 => ((xq_gr 14 2 (v132) M109).bind fun v134 => ((xq_ai 3 (v134) (a1) M109).bind fun v136 => (some (v136, M109))))) else (if (a2) = 2 then ((xq_gr 15 29 (a0) M109).bind fun v139 => ((xq_gr 14 5 (v139) M109).bind fun v141 => ((xq_ab (v141) (a1) M109).bind fun v143 => (if (v143) = 0 then f378_125   f (0) M109 else f378_125   f (1) M109)))) else (if (a2) = 3 then ((xq_gr 15 29 (a0) M109).bind fun v147 => ((xq_gr 14 6 (v147) M109).bind fun v149 => ((xq_ab (v149) (a1) M109).bind fun v151 => (if (v151) = 0 then f378_143   f (0) M109 else f378_143   f (1) M109)))) else (if (a2) = 4 then ((xq_gr 15 29 (a0) M109).bind fun v155 => ((xq_gr 14 4 (v155) M109).bind fun v157 => ((xq_ai 3 (v157) (a1) M109).bind fun v159 => (some (v159, M109))))) else (if (a2) = 5 then ((xq_gr 13 21 (v121) M109).bind fun v162 => ((xq_ai 3 (v162) (a1) M109).bind fun v164 => (some (v164, M109)))) else (if (a2) = 6 then ((xq_gr 15 33 (a0) M109).bind fun v167 => ((xq_ai 3 (v167) (a1) M109).bind fun v169 => (some (v169, M109)))) else ((xq_gr 13 22 (v121) M109).bind fun v172 => ((xq_ai 3 (v172) (a1) M109).bind fun v174 => (some (v174, M109))))))))))))))) else f378_24   f (a0) M109)))))))
theorem k378 {d f : Nat}   {a0 : Nat} {a1 : Int} {a2 : Int} {M : xj_M} {R : Int × xj_M} (ha1 : xin a1) (ha2 : xin a2) (h : f378  f a0 a1 a2 M = some R) : xT (d + 114) 378 [xR_ a0, xI a1, xI a2] M (xQi R) := by
  refine xT_m xr_378_e (X := (none, d + 113, none)) rfl (xa_1 (xR_cat _) (xa_1 (xI_cat _) (xa_1 (xI_cat _) xa_n))) (by decide) ?_
  unfold f378 at h
  refine xe_alr (ins := .aload_n 0) (len := 1) (i := 0) (by decide +kernel) rfl rfl rfl rfl rfl ?_
  refine xe_iconst (n := 0) (by decide +kernel) rfl ?_
  obtain ⟨M105, e106, h⟩ := xbnd h
  refine xs_p (i := 699) (c := 15) (k := 74) (by decide +kernel) (by decide +kernel) (by decide +kernel) e106 rfl ?_
  refine xe_alr (ins := .aload_n 0) (len := 1) (i := 0) (by decide +kernel) rfl rfl rfl rfl rfl ?_
  obtain ⟨_, e108, h⟩ := xbnd h
  obtain ⟨M109, e107, h⟩ := xbnd h
  refine xs_cv (i := 884) (j := 296) (ar := []) (rest := []) (r2 := xr_296) (by decide +kernel) (by decide +kernel) (by decide +kernel) xr_296_e rfl (by decide) (by decide) e108 ?_
  refine xc_v (k296 (d := d + 0)   e107) rfl ?_
  refine xe_ldn (ins := .iload_n 1) (len := 1) (by decide +kernel) rfl rfl rfl rfl ?_
  refine xe_iflt (off := 14) (t := 24) (by decide +kernel) (by decide) rfl ha1 (fun c111 => ?_) (fun c111 => ?_)
  · rw [if_pos c111] at h
    refine xW_lv rfl (l := [(0, xR_ (a0))]) (xsb_of ⟨rfl, trivial⟩ (show [0, 1, 2].Nodup by decide)) ?_
    exact k378_24    h
  · rw [if_neg c111] at h
    refine xe_ldn (ins := .iload_n 1) (len := 1) (by decide +kernel) rfl rfl rfl rfl ?_
    refine xe_alr (ins := .aload_n 0) (len := 1) (i := 0) (by decide +kernel) rfl rfl rfl rfl rfl ?_
    obtain ⟨v112, e113, h⟩ := xbnd h
    refine xs_gr (i := 439) (c := 15) (k := 29) (by decide +kernel) (by decide) (by decide +kernel) e113 rfl ?_
    obtain ⟨v114, e115, h⟩ := xbnd h
    refine xs_gi (i := 166) (c := 14) (k := 8) (by decide +kernel) (by decide) (by decide +kernel) e115 rfl ?_
    refine xe_icmplt (off := 8) (t := 29) (by decide +kernel) (by decide) rfl ha1 (xq_gi_in e115) (fun c116 => ?_) (fun c116 => ?_)
    · rw [if_pos c116] at h
      refine xe_alr (ins := .aload_n 0) (len := 1) (i := 0) (by decide +kernel) rfl rfl rfl rfl rfl ?_
      obtain ⟨v117, e118, h⟩ := xbnd h
      refine xs_gr (i := 667) (c := 15) (k := 61) (by decide +kernel) (by decide) (by decide +kernel) e118 rfl ?_
      refine xe_alr (ins := .aload_n 0) (len := 1) (i := 0) (by decide +kernel) rfl rfl rfl rfl rfl ?_
      obtain ⟨v119, e120, h⟩ := xbnd h
      refine xs_gi (i := 664) (c := 15) (k := 62) (by decide +kernel) (by decide) (by decide +kernel) e120 rfl ?_
      obtain ⟨v121, e122, h⟩ := xbnd h
      refine xs_aald (by decide +kernel) (xq_gi_in e120) e122 rfl ?_
      refine xe_asr (ins := .astore_n 3) (len := 1) (i := 3) (by decide +kernel) rfl rfl rfl (by decide) (xk_k (show ¬ (0 : Nat) = 3 by decide) (Or.inl (show ¬ (0 + 1 : Nat) = 3 by decide)) (xk_k (show ¬ (1 : Nat) = 3 by decide) (Or.inl (show ¬ (1 + 1 : Nat) = 3 by decide)) (xk_k (show ¬ (2 : Nat) = 3 by decide) (Or.inr (xI_cat _)) xk_n))) rfl ?_
      refine xe_ldn (ins := .iload_n 2) (len := 1) (by decide +kernel) rfl rfl rfl rfl ?_
      by_cases c123 : (a2) < 0 ∨ 7 < (a2)
      · rw [if_pos c123] at h
        refine xe_ts (dd := 135) (lo := 0) (hi := 7) (offs := #[48, 58, 68, 86, 104, 114, 121, 128]) (len := 48) (off := 135) (t := 175) (by decide +kernel) ha2 (by rw [if_pos c123]) (by decide) ?_
        refine xe_iconst (n := -1) (by decide +kernel) rfl ?_
        cases h
        exact xe_ret_i (ty := .int) (by decide +kernel) rfl rfl ⟨rfl, rfl, (show xin (-1) by decide)⟩
      · rw [if_neg c123] at h
        by_cases c124 : (a2) = 0
        · rw [if_pos c124] at h
          refine xe_ts (dd := 135) (lo := 0) (hi := 7) (offs := #[48, 58, 68, 86, 104, 114, 121, 128]) (len := 48) (off := 48) (t := 88) (by decide +kernel) ha2 (by rw [if_neg c123, c124]; rfl) (by decide) ?_
          refine xe_alr (ins := .aload_n 0) (len := 1) (i := 0) (by decide +kernel) rfl rfl rfl rfl rfl ?_
          obtain ⟨v125, e126, h⟩ := xbnd h
          refine xs_gr (i := 439) (c := 15) (k := 29) (by decide +kernel) (by decide) (by decide +kernel) e126 rfl ?_
          obtain ⟨v127, e128, h⟩ := xbnd h
          refine xs_gr (i := 180) (c := 14) (k := 1) (by decide +kernel) (by decide) (by decide +kernel) e128 rfl ?_
          refine xe_ldn (ins := .iload_n 1) (len := 1) (by decide +kernel) rfl rfl rfl rfl ?_
          obtain ⟨v129, e130, h⟩ := xbnd h
          refine xs_iald rfl (by decide +kernel) ha1 e130 rfl ?_
          cases h
          exact xe_ret_i (ty := .int) (by decide +kernel) rfl rfl ⟨rfl, rfl, (xq_ai_in e130)⟩
        · rw [if_neg c124] at h
          by_cases c131 : (a2) = 1
          · rw [if_pos c131] at h
            refine xe_ts (dd := 135) (lo := 0) (hi := 7) (offs := #[48, 58, 68, 86, 104, 114, 121, 128]) (len := 48) (off := 58) (t := 98) (by decide +kernel) ha2 (by rw [if_neg c123, c131]; rfl) (by decide) ?_
            refine xe_alr (ins := .aload_n 0) (len := 1) (i := 0) (by decide +kernel) rfl rfl rfl rfl rfl ?_
            obtain ⟨v132, e133, h⟩ := xbnd h
            refine xs_gr (i := 439) (c := 15) (k := 29) (by decide +kernel) (by decide) (by decide +kernel) e133 rfl ?_
            obtain ⟨v134, e135, h⟩ := xbnd h
            refine xs_gr (i := 184) (c := 14) (k := 2) (by decide +kernel) (by decide) (by decide +kernel) e135 rfl ?_
            refine xe_ldn (ins := .iload_n 1) (len := 1) (by decide +kernel) rfl rfl rfl rfl ?_
            obtain ⟨v136, e137, h⟩ := xbnd h
            refine xs_iald rfl (by decide +kernel) ha1 e137 rfl ?_
            cases h
            exact xe_ret_i (ty := .int) (by decide +kernel) rfl rfl ⟨rfl, rfl, (xq_ai_in e137)⟩
          · rw [if_neg c131] at h
            by_cases c138 : (a2) = 2
            · rw [if_pos c138] at h
              refine xe_ts (dd := 135) (lo := 0) (hi := 7) (offs := #[48, 58, 68, 86, 104, 114, 121, 128]) (len := 48) (off := 68) (t := 108) (by decide +kernel) ha2 (by rw [if_neg c123, c138]; rfl) (by decide) ?_
              refine xe_alr (ins := .aload_n 0) (len := 1) (i := 0) (by decide +kernel) rfl rfl rfl rfl rfl ?_
              obtain ⟨v139, e140, h⟩ := xbnd h
              refine xs_gr (i := 439) (c := 15) (k := 29) (by decide +kernel) (by decide) (by decide +kernel) e140 rfl ?_
              obtain ⟨v141, e142, h⟩ := xbnd h
              refine xs_gr (i := 187) (c := 14) (k := 5) (by decide +kernel) (by decide) (by decide +kernel) e142 rfl ?_
              refine xe_ldn (ins := .iload_n 1) (len := 1) (by decide +kernel) rfl rfl rfl rfl ?_
              obtain ⟨v143, e144, h⟩ := xbnd h
              refine xs_bald (by decide +kernel) ha1 e144 rfl ?_
              refine xe_ifeq (off := 7) (t := 124) (by decide +kernel) (by decide) rfl (xq_ab_in e144) (fun c145 => ?_) (fun c145 => ?_)
              · rw [if_pos c145] at h
                refine xe_iconst (n := 0) (by decide +kernel) rfl ?_
                refine xW_lv rfl (l := []) (xsb_of trivial (show [3, 0, 1, 2].Nodup by decide)) ?_
                exact k378_125   (show xin (0) by decide) h
              · rw [if_neg c145] at h
                refine xe_iconst (n := 1) (by decide +kernel) rfl ?_
                refine xe_goto (off := 4) (nx := 125) (by decide +kernel) (by decide) ?_
                refine xW_lv rfl (l := []) (xsb_of trivial (show [3, 0, 1, 2].Nodup by decide)) ?_
                exact k378_125   (show xin (1) by decide) h
            · rw [if_neg c138] at h
              by_cases c146 : (a2) = 3
              · rw [if_pos c146] at h
                refine xe_ts (dd := 135) (lo := 0) (hi := 7) (offs := #[48, 58, 68, 86, 104, 114, 121, 128]) (len := 48) (off := 86) (t := 126) (by decide +kernel) ha2 (by rw [if_neg c123, c146]; rfl) (by decide) ?_
                refine xe_alr (ins := .aload_n 0) (len := 1) (i := 0) (by decide +kernel) rfl rfl rfl rfl rfl ?_
                obtain ⟨v147, e148, h⟩ := xbnd h
                refine xs_gr (i := 439) (c := 15) (k := 29) (by decide +kernel) (by decide) (by decide +kernel) e148 rfl ?_
                obtain ⟨v149, e150, h⟩ := xbnd h
                refine xs_gr (i := 191) (c := 14) (k := 6) (by decide +kernel) (by decide) (by decide +kernel) e150 rfl ?_
                refine xe_ldn (ins := .iload_n 1) (len := 1) (by decide +kernel) rfl rfl rfl rfl ?_
                obtain ⟨v151, e152, h⟩ := xbnd h
                refine xs_bald (by decide +kernel) ha1 e152 rfl ?_
                refine xe_ifeq (off := 7) (t := 142) (by decide +kernel) (by decide) rfl (xq_ab_in e152) (fun c153 => ?_) (fun c153 => ?_)
                · rw [if_pos c153] at h
                  refine xe_iconst (n := 0) (by decide +kernel) rfl ?_
                  refine xW_lv rfl (l := []) (xsb_of trivial (show [3, 0, 1, 2].Nodup by decide)) ?_
                  exact k378_143   (show xin (0) by decide) h
                · rw [if_neg c153] at h
                  refine xe_iconst (n := 1) (by decide +kernel) rfl ?_
                  refine xe_goto (off := 4) (nx := 143) (by decide +kernel) (by decide) ?_
                  refine xW_lv rfl (l := []) (xsb_of trivial (show [3, 0, 1, 2].Nodup by decide)) ?_
                  exact k378_143   (show xin (1) by decide) h
              · rw [if_neg c146] at h
                by_cases c154 : (a2) = 4
                · rw [if_pos c154] at h
                  refine xe_ts (dd := 135) (lo := 0) (hi := 7) (offs := #[48, 58, 68, 86, 104, 114, 121, 128]) (len := 48) (off := 104) (t := 144) (by decide +kernel) ha2 (by rw [if_neg c123, c154]; rfl) (by decide) ?_
                  refine xe_alr (ins := .aload_n 0) (len := 1) (i := 0) (by decide +kernel) rfl rfl rfl rfl rfl ?_
                  obtain ⟨v155, e156, h⟩ := xbnd h
                  refine xs_gr (i := 439) (c := 15) (k := 29) (by decide +kernel) (by decide) (by decide +kernel) e156 rfl ?_
                  obtain ⟨v157, e158, h⟩ := xbnd h
                  refine xs_gr (i := 427) (c := 14) (k := 4) (by decide +kernel) (by decide) (by decide +kernel) e158 rfl ?_
                  refine xe_ldn (ins := .iload_n 1) (len := 1) (by decide +kernel) rfl rfl rfl rfl ?_
                  obtain ⟨v159, e160, h⟩ := xbnd h
                  refine xs_iald rfl (by decide +kernel) ha1 e160 rfl ?_
                  cases h
                  exact xe_ret_i (ty := .int) (by decide +kernel) rfl rfl ⟨rfl, rfl, (xq_ai_in e160)⟩
                · rw [if_neg c154] at h
                  by_cases c161 : (a2) = 5
                  · rw [if_pos c161] at h
                    refine xe_ts (dd := 135) (lo := 0) (hi := 7) (offs := #[48, 58, 68, 86, 104, 114, 121, 128]) (len := 48) (off := 114) (t := 154) (by decide +kernel) ha2 (by rw [if_neg c123, c161]; rfl) (by decide) ?_
                    refine xe_alr (ins := .aload_n 3) (len := 1) (i := 3) (by decide +kernel) rfl rfl rfl rfl rfl ?_
                    obtain ⟨v162, e163, h⟩ := xbnd h
                    refine xs_gr (i := 749) (c := 13) (k := 21) (by decide +kernel) (by decide) (by decide +kernel) e163 rfl ?_
                    refine xe_ldn (ins := .iload_n 1) (len := 1) (by decide +kernel) rfl rfl rfl rfl ?_
                    obtain ⟨v164, e165, h⟩ := xbnd h
                    refine xs_iald rfl (by decide +kernel) ha1 e165 rfl ?_
                    cases h
                    exact xe_ret_i (ty := .int) (by decide +kernel) rfl rfl ⟨rfl, rfl, (xq_ai_in e165)⟩
                  · rw [if_neg c161] at h
                    by_cases c166 : (a2) = 6
                    · rw [if_pos c166] at h
                      refine xe_ts (dd := 135) (lo := 0) (hi := 7) (offs := #[48, 58, 68, 86, 104, 114, 121, 128]) (len := 48) (off := 121) (t := 161) (by decide +kernel) ha2 (by rw [if_neg c123, c166]; rfl) (by decide) ?_
                      refine xe_alr (ins := .aload_n 0) (len := 1) (i := 0) (by decide +kernel) rfl rfl rfl rfl rfl ?_
                      obtain ⟨v167, e168, h⟩ := xbnd h
                      refine xs_gr (i := 430) (c := 15) (k := 33) (by decide +kernel) (by decide) (by decide +kernel) e168 rfl ?_
                      refine xe_ldn (ins := .iload_n 1) (len := 1) (by decide +kernel) rfl rfl rfl rfl ?_
                      obtain ⟨v169, e170, h⟩ := xbnd h
                      refine xs_iald rfl (by decide +kernel) ha1 e170 rfl ?_
                      cases h
                      exact xe_ret_i (ty := .int) (by decide +kernel) rfl rfl ⟨rfl, rfl, (xq_ai_in e170)⟩
                    · rw [if_neg c166] at h
                      have c171 : (a2) = 7 := by omega
                      refine xe_ts (dd := 135) (lo := 0) (hi := 7) (offs := #[48, 58, 68, 86, 104, 114, 121, 128]) (len := 48) (off := 128) (t := 168) (by decide +kernel) ha2 (by rw [if_neg c123, c171]; rfl) (by decide) ?_
                      refine xe_alr (ins := .aload_n 3) (len := 1) (i := 3) (by decide +kernel) rfl rfl rfl rfl rfl ?_
                      obtain ⟨v172, e173, h⟩ := xbnd h
                      refine xs_gr (i := 806) (c := 13) (k := 22) (by decide +kernel) (by decide) (by decide +kernel) e173 rfl ?_
                      refine xe_ldn (ins := .iload_n 1) (len := 1) (by decide +kernel) rfl rfl rfl rfl ?_
                      obtain ⟨v174, e175, h⟩ := xbnd h
                      refine xs_iald rfl (by decide +kernel) ha1 e175 rfl ?_
                      cases h
                      exact xe_ret_i (ty := .int) (by decide +kernel) rfl rfl ⟨rfl, rfl, (xq_ai_in e175)⟩
    · rw [if_neg c116] at h
      refine xW_lv rfl (l := [(0, xR_ (a0))]) (xsb_of ⟨rfl, trivial⟩ (show [0, 1, 2].Nodup by decide)) ?_
      exact k378_24    h
-- ChangeHouseModel.edit
def xr_380 : xj_mR := (15, yX15_edit_, cX15_edit_, 4, (Option.some Jvm.ClassFile.FieldType.long), 2, false, (14, 80), (1, 12))
set_option maxRecDepth 20000 in
theorem xr_380_e : xj_row 380 = some xr_380 := rfl
def f380_55   (f : Nat) (x0 : Nat) (M : xj_M) : Option (Int × xj_M) := ((xq_is 15 (x0) M).bind fun _ => ((f321  f (x0) M).bind fun R103 => (some (R103.1, R103.2))))
theorem k380_55 {d f : Nat}     {x0 : Nat} {M : xj_M} {R : Int × xj_M}  (h : f380_55   f x0 M = some R) : xW (d + 113) (none, d + 113, none) xr_380 (55, [(0, xR_ x0)], [], M) (xQl R) := by
  unfold f380_55 at h
  refine xe_alr (ins := .aload_n 0) (len := 1) (i := 0) (by decide +kernel) rfl rfl rfl rfl rfl ?_
  obtain ⟨_, e102, h⟩ := xbnd h
  obtain ⟨R103, e101, h⟩ := xbnd h
  refine xs_cv (i := 903) (j := 321) (ar := []) (rest := []) (r2 := xr_321) (by decide +kernel) (by decide +kernel) (by decide +kernel) xr_321_e rfl (by decide) (by decide) e102 ?_
  refine xc_i (k321 (d := d + 112)   e101) rfl (fun hi104 => ?_)
  refine xe_i2l (by decide +kernel) rfl hi104 ?_
  cases h
  exact xe_ret_l (by decide +kernel) rfl ⟨rfl, rfl, (xin_N hi104)⟩
def f380_102   (f : Nat) (y0 : Int) (M : xj_M) : Option (Int × xj_M) := (some (y0, M))
theorem k380_102 {d f : Nat}     {y0 : Int} {M : xj_M} {R : Int × xj_M} (hy0 : xiN y0) (h : f380_102   f y0 M = some R) : xW (d + 113) (none, d + 113, none) xr_380 (102, [], [xZ y0], M) (xQl R) := by
  unfold f380_102 at h
  cases h
  exact xe_ret_l (by decide +kernel) rfl ⟨rfl, rfl, hy0⟩
def f380  (f : Nat) (a0 : Nat) (a1 : Int) (a2 : Int) (M : xj_M) : Option (Int × xj_M) := ((xq_pi 15 74 (a0) (0) M).bind fun M105 => ((xq_is 15 (a0) M105).bind fun _ => ((f296  f (a0) M105).bind fun M109 => ((xq_gr 15 61 (a0) M109).bind fun v111 => ((xq_gi 15 62 (a0) M109).bind fun v113 => ((xq_ar (v111) (v113) M109).bind fun v115 => (if (a1) < 0 then f380_55   f (a0) M109 else ((xq_gi 13 27 (v115) M109).bind fun v118 => (if (v118) ≤ (a1) then f380_55   f (a0) M109 else (if (a2) < 0 then f380_55   f (a0) M109 else ((xq_gr 15 29 (a0) M109).bind fun v122 => ((xq_gr 14 1 (v122) M109).bind fun v124 => ((xq_gr 13 24 (v115) M109).bind fun v126 => ((xq_ai 3 (v126) (a1) M109).bind fun v128 => ((xq_ai 3 (v124) (v128) M109).bind fun v130 => (if (a2) ≤ (xwr ((1) + (v130))) then (if ¬ (a2) = 0 then (if ¬ (a2) = (1) then ((xq_gr 13 26 (v115) M109).bind fun v135 => ((xq_al (v135) (xwr ((xwr ((xwr ((4) * (a1))) + (a2))) - (2))) M109).bind fun v137 => f380_102   f (v137) M109)) else ((xq_gr 13 25 (v115) M109).bind fun v139 => ((xq_ai 3 (v139) (a1) M109).bind fun v141 => f380_102   f (v141) M109))) else ((xq_gr 13 24 (v115) M109).bind fun v143 => ((xq_ai 3 (v143) (a1) M109).bind fun v145 => f380_102   f (v145) M109))) else f380_55   f (a0) M109))))))))))))))))
theorem k380 {d f : Nat}   {a0 : Nat} {a1 : Int} {a2 : Int} {M : xj_M} {R : Int × xj_M} (ha1 : xin a1) (ha2 : xin a2) (h : f380  f a0 a1 a2 M = some R) : xT (d + 114) 380 [xR_ a0, xI a1, xI a2] M (xQl R) := by
  refine xT_m xr_380_e (X := (none, d + 113, none)) rfl (xa_1 (xR_cat _) (xa_1 (xI_cat _) (xa_1 (xI_cat _) xa_n))) (by decide) ?_
  unfold f380 at h
  refine xe_alr (ins := .aload_n 0) (len := 1) (i := 0) (by decide +kernel) rfl rfl rfl rfl rfl ?_
  refine xe_iconst (n := 0) (by decide +kernel) rfl ?_
  obtain ⟨M105, e106, h⟩ := xbnd h
  refine xs_p (i := 699) (c := 15) (k := 74) (by decide +kernel) (by decide +kernel) (by decide +kernel) e106 rfl ?_
  refine xe_alr (ins := .aload_n 0) (len := 1) (i := 0) (by decide +kernel) rfl rfl rfl rfl rfl ?_
  obtain ⟨_, e108, h⟩ := xbnd h
  obtain ⟨M109, e107, h⟩ := xbnd h
  refine xs_cv (i := 884) (j := 296) (ar := []) (rest := []) (r2 := xr_296) (by decide +kernel) (by decide +kernel) (by decide +kernel) xr_296_e rfl (by decide) (by decide) e108 ?_
  refine xc_v (k296 (d := d + 0)   e107) rfl ?_
  refine xe_alr (ins := .aload_n 0) (len := 1) (i := 0) (by decide +kernel) rfl rfl rfl rfl rfl ?_
  obtain ⟨v111, e112, h⟩ := xbnd h
  refine xs_gr (i := 667) (c := 15) (k := 61) (by decide +kernel) (by decide) (by decide +kernel) e112 rfl ?_
  refine xe_alr (ins := .aload_n 0) (len := 1) (i := 0) (by decide +kernel) rfl rfl rfl rfl rfl ?_
  obtain ⟨v113, e114, h⟩ := xbnd h
  refine xs_gi (i := 664) (c := 15) (k := 62) (by decide +kernel) (by decide) (by decide +kernel) e114 rfl ?_
  obtain ⟨v115, e116, h⟩ := xbnd h
  refine xs_aald (by decide +kernel) (xq_gi_in e114) e116 rfl ?_
  refine xe_asr (ins := .astore_n 3) (len := 1) (i := 3) (by decide +kernel) rfl rfl rfl (by decide) (xk_k (show ¬ (0 : Nat) = 3 by decide) (Or.inl (show ¬ (0 + 1 : Nat) = 3 by decide)) (xk_k (show ¬ (1 : Nat) = 3 by decide) (Or.inl (show ¬ (1 + 1 : Nat) = 3 by decide)) (xk_k (show ¬ (2 : Nat) = 3 by decide) (Or.inr (xI_cat _)) xk_n))) rfl ?_
  refine xe_ldn (ins := .iload_n 1) (len := 1) (by decide +kernel) rfl rfl rfl rfl ?_
  refine xe_iflt (off := 35) (t := 55) (by decide +kernel) (by decide) rfl ha1 (fun c117 => ?_) (fun c117 => ?_)
  · rw [if_pos c117] at h
    refine xW_lv rfl (l := [(0, xR_ (a0))]) (xsb_of ⟨rfl, trivial⟩ (show [3, 0, 1, 2].Nodup by decide)) ?_
    exact k380_55    h
  · rw [if_neg c117] at h
    refine xe_ldn (ins := .iload_n 1) (len := 1) (by decide +kernel) rfl rfl rfl rfl ?_
    refine xe_alr (ins := .aload_n 3) (len := 1) (i := 3) (by decide +kernel) rfl rfl rfl rfl rfl ?_
    obtain ⟨v118, e119, h⟩ := xbnd h
    refine xs_gi (i := 828) (c := 13) (k := 27) (by decide +kernel) (by decide) (by decide +kernel) e119 rfl ?_
    refine xe_icmpge (off := 27) (t := 55) (by decide +kernel) (by decide) rfl ha1 (xq_gi_in e119) (fun c120 => ?_) (fun c120 => ?_)
    · rw [if_pos c120] at h
      refine xW_lv rfl (l := [(0, xR_ (a0))]) (xsb_of ⟨rfl, trivial⟩ (show [3, 0, 1, 2].Nodup by decide)) ?_
      exact k380_55    h
    · rw [if_neg c120] at h
      refine xe_ldn (ins := .iload_n 2) (len := 1) (by decide +kernel) rfl rfl rfl rfl ?_
      refine xe_iflt (off := 23) (t := 55) (by decide +kernel) (by decide) rfl ha2 (fun c121 => ?_) (fun c121 => ?_)
      · rw [if_pos c121] at h
        refine xW_lv rfl (l := [(0, xR_ (a0))]) (xsb_of ⟨rfl, trivial⟩ (show [3, 0, 1, 2].Nodup by decide)) ?_
        exact k380_55    h
      · rw [if_neg c121] at h
        refine xe_ldn (ins := .iload_n 2) (len := 1) (by decide +kernel) rfl rfl rfl rfl ?_
        refine xe_iconst (n := 1) (by decide +kernel) rfl ?_
        refine xe_alr (ins := .aload_n 0) (len := 1) (i := 0) (by decide +kernel) rfl rfl rfl rfl rfl ?_
        obtain ⟨v122, e123, h⟩ := xbnd h
        refine xs_gr (i := 439) (c := 15) (k := 29) (by decide +kernel) (by decide) (by decide +kernel) e123 rfl ?_
        obtain ⟨v124, e125, h⟩ := xbnd h
        refine xs_gr (i := 180) (c := 14) (k := 1) (by decide +kernel) (by decide) (by decide +kernel) e125 rfl ?_
        refine xe_alr (ins := .aload_n 3) (len := 1) (i := 3) (by decide +kernel) rfl rfl rfl rfl rfl ?_
        obtain ⟨v126, e127, h⟩ := xbnd h
        refine xs_gr (i := 825) (c := 13) (k := 24) (by decide +kernel) (by decide) (by decide +kernel) e127 rfl ?_
        refine xe_ldn (ins := .iload_n 1) (len := 1) (by decide +kernel) rfl rfl rfl rfl ?_
        obtain ⟨v128, e129, h⟩ := xbnd h
        refine xs_iald rfl (by decide +kernel) ha1 e129 rfl ?_
        obtain ⟨v130, e131, h⟩ := xbnd h
        refine xs_iald rfl (by decide +kernel) (xq_ai_in e129) e131 rfl ?_
        refine xe_iadd (by decide +kernel) rfl ?_
        refine xe_icmple (off := 9) (t := 61) (by decide +kernel) (by decide) rfl ha2 (xin_wr _) (fun c132 => ?_) (fun c132 => ?_)
        · rw [if_pos c132] at h
          refine xe_ldn (ins := .iload_n 2) (len := 1) (by decide +kernel) rfl rfl rfl rfl ?_
          refine xe_ifne (off := 13) (t := 75) (by decide +kernel) (by decide) rfl ha2 (fun c133 => ?_) (fun c133 => ?_)
          · rw [if_pos c133] at h
            refine xe_ldn (ins := .iload_n 2) (len := 1) (by decide +kernel) rfl rfl rfl rfl ?_
            refine xe_iconst (n := 1) (by decide +kernel) rfl ?_
            refine xe_icmpne (off := 13) (t := 90) (by decide +kernel) (by decide) rfl ha2 (show xin (1) by decide) (fun c134 => ?_) (fun c134 => ?_)
            · rw [if_pos c134] at h
              refine xe_alr (ins := .aload_n 3) (len := 1) (i := 3) (by decide +kernel) rfl rfl rfl rfl rfl ?_
              obtain ⟨v135, e136, h⟩ := xbnd h
              refine xs_gr (i := 834) (c := 13) (k := 26) (by decide +kernel) (by decide) (by decide +kernel) e136 rfl ?_
              refine xe_iconst (n := 4) (by decide +kernel) rfl ?_
              refine xe_ldn (ins := .iload_n 1) (len := 1) (by decide +kernel) rfl rfl rfl rfl ?_
              refine xe_imul (by decide +kernel) rfl ?_
              refine xe_ldn (ins := .iload_n 2) (len := 1) (by decide +kernel) rfl rfl rfl rfl ?_
              refine xe_iadd (by decide +kernel) rfl ?_
              refine xe_iconst (n := 2) (by decide +kernel) rfl ?_
              refine xe_isub (by decide +kernel) rfl ?_
              obtain ⟨v137, e138, h⟩ := xbnd h
              refine xs_lald (by decide +kernel) (xin_wr _) e138 rfl ?_
              refine xW_lv rfl (l := []) (xsb_of trivial (show [3, 0, 1, 2].Nodup by decide)) ?_
              exact k380_102   (xq_al_in e138) h
            · rw [if_neg c134] at h
              refine xe_alr (ins := .aload_n 3) (len := 1) (i := 3) (by decide +kernel) rfl rfl rfl rfl rfl ?_
              obtain ⟨v139, e140, h⟩ := xbnd h
              refine xs_gr (i := 831) (c := 13) (k := 25) (by decide +kernel) (by decide) (by decide +kernel) e140 rfl ?_
              refine xe_ldn (ins := .iload_n 1) (len := 1) (by decide +kernel) rfl rfl rfl rfl ?_
              obtain ⟨v141, e142, h⟩ := xbnd h
              refine xs_iald rfl (by decide +kernel) ha1 e142 rfl ?_
              refine xe_i2l (by decide +kernel) rfl (xq_ai_in e142) ?_
              refine xe_goto (off := 15) (nx := 102) (by decide +kernel) (by decide) ?_
              refine xW_lv rfl (l := []) (xsb_of trivial (show [3, 0, 1, 2].Nodup by decide)) ?_
              exact k380_102   (xin_N (xq_ai_in e142)) h
          · rw [if_neg c133] at h
            refine xe_alr (ins := .aload_n 3) (len := 1) (i := 3) (by decide +kernel) rfl rfl rfl rfl rfl ?_
            obtain ⟨v143, e144, h⟩ := xbnd h
            refine xs_gr (i := 825) (c := 13) (k := 24) (by decide +kernel) (by decide) (by decide +kernel) e144 rfl ?_
            refine xe_ldn (ins := .iload_n 1) (len := 1) (by decide +kernel) rfl rfl rfl rfl ?_
            obtain ⟨v145, e146, h⟩ := xbnd h
            refine xs_iald rfl (by decide +kernel) ha1 e146 rfl ?_
            refine xe_i2l (by decide +kernel) rfl (xq_ai_in e146) ?_
            refine xe_goto (off := 30) (nx := 102) (by decide +kernel) (by decide) ?_
            refine xW_lv rfl (l := []) (xsb_of trivial (show [3, 0, 1, 2].Nodup by decide)) ?_
            exact k380_102   (xin_N (xq_ai_in e146)) h
        · rw [if_neg c132] at h
          refine xW_lv rfl (l := [(0, xR_ (a0))]) (xsb_of ⟨rfl, trivial⟩ (show [3, 0, 1, 2].Nodup by decide)) ?_
          exact k380_55    h
-- ChangeHouseModel.keepInputs
def xr_299 : xj_mR := (15, yX15_keepInputs, cX15_keepInputs, 5, (Option.none : Option Jvm.ClassFile.FieldType), 1, false, (9, 116), (1, 12))
set_option maxRecDepth 20000 in
theorem xr_299_e : xj_row 299 = some xr_299 := rfl
def f299_173  (r31 : Nat → Nat → Int → xj_M → Option (xj_M)) (f : Nat) (x0 : Nat) (x1 : Nat) (x2 : Int) (M : xj_M) : Option (xj_M) := r31 (x0) (x1) (xwr ((x2) + (1))) M
theorem k299_173 {d f : Nat}  {r31 : Nat → Nat → Int → xj_M → Option (xj_M)}  (hr31 : ∀ {x0 : Nat} {x1 : Nat} {x2 : Int} {M : xj_M} {R : xj_M}, xin x2 → r31 x0 x1 x2 M = some R → xW (d + 112) (none, d + 112, none) xr_299 (31, [(0, xR_ x0), (1, xR_ x1), (2, xI x2)], [], M) (xQv R)) {x0 : Nat} {x1 : Nat} {x2 : Int} {M : xj_M} {R : xj_M} (hx2 : xin x2) (h : f299_173  r31 f x0 x1 x2 M = some R) : xW (d + 112) (none, d + 112, none) xr_299 (173, [(0, xR_ x0), (1, xR_ x1), (2, xI x2)], [], M) (xQv R) := by
  unfold f299_173 at h
  refine xe_iincr (i := 2) (n := 1) (by decide +kernel) (by decide) rfl (xk_k (show ¬ (0 : Nat) = 2 by decide) (Or.inl (show ¬ (0 + 1 : Nat) = 2 by decide)) (xk_k (show ¬ (1 : Nat) = 2 by decide) (Or.inr (xR_cat _)) (xk_d rfl xk_n))) rfl ?_
  refine xe_goto (off := -145) (nx := 31) (by decide +kernel) (by decide) ?_
  refine xW_lv rfl (l := [(0, xR_ (x0)), (1, xR_ (x1)), (2, xI (xwr ((x2) + (1))))]) (xsb_of ⟨rfl, rfl, rfl, trivial⟩ (show [2, 0, 1].Nodup by decide)) ?_
  exact hr31 (xin_wr _) h
def f299_31b  (r31 : Nat → Nat → Int → xj_M → Option (xj_M)) (f : Nat) (x0 : Nat) (x1 : Nat) (x2 : Int) (M : xj_M) : Option (xj_M) := ((xq_gr 13 0 (x1) M).bind fun v101 => ((xq_gi 12 3 (v101) M).bind fun v103 => (if (v103) ≤ (x2) then (some M) else ((xq_gr 15 29 (x0) M).bind fun v106 => ((xq_gr 13 0 (x1) M).bind fun v108 => ((xq_gr 12 0 (v108) M).bind fun v110 => ((xq_al (v110) (x2) M).bind fun v112 => ((xq_is 14 (v106) M).bind fun _ => ((f205  f (v106) (v112) M).bind fun R116 => ((xq_gr 15 30 (x0) R116.2).bind fun v118 => ((xq_gr 13 0 (x1) R116.2).bind fun v120 => ((xq_gr 12 0 (v120) R116.2).bind fun v122 => ((xq_al (v122) (x2) R116.2).bind fun v124 => ((xq_is 14 (v118) R116.2).bind fun _ => ((f205  f (v118) (v124) R116.2).bind fun R128 => (if (R116.1) = (-1) then f299_173  r31 f (x0) (x1) (x2) R128.2 else (if (R128.1) = (-1) then f299_173  r31 f (x0) (x1) (x2) R128.2 else ((xq_gr 15 29 (x0) R128.2).bind fun v132 => ((xq_gr 14 5 (v132) R128.2).bind fun v134 => ((xq_ab (v134) (R116.1) R128.2).bind fun v136 => (if (v136) = 0 then f299_173  r31 f (x0) (x1) (x2) R128.2 else ((xq_gr 15 30 (x0) R128.2).bind fun v139 => ((xq_gr 14 5 (v139) R128.2).bind fun v141 => ((xq_ab (v141) (R128.1) R128.2).bind fun v143 => (if (v143) = 0 then f299_173  r31 f (x0) (x1) (x2) R128.2 else ((xq_gr 15 29 (x0) R128.2).bind fun v146 => ((xq_gr 14 1 (v146) R128.2).bind fun v148 => ((xq_ai 3 (v148) (R116.1) R128.2).bind fun v150 => ((xq_gr 15 30 (x0) R128.2).bind fun v152 => ((xq_gr 14 1 (v152) R128.2).bind fun v154 => ((xq_ai 3 (v154) (R128.1) R128.2).bind fun v156 => (if ¬ (v150) = (v156) then f299_173  r31 f (x0) (x1) (x2) R128.2 else ((xq_gr 15 29 (x0) R128.2).bind fun v159 => ((xq_gr 14 2 (v159) R128.2).bind fun v161 => ((xq_ai 3 (v161) (R116.1) R128.2).bind fun v163 => ((xq_gr 15 30 (x0) R128.2).bind fun v165 => ((xq_gr 14 2 (v165) R128.2).bind fun v167 => ((xq_ai 3 (v167) (R128.1) R128.2).bind fun v169 => (if ¬ (v163) = (v169) then f299_173  r31 f (x0) (x1) (x2) R128.2 else ((xq_gr 13 0 (x1) R128.2).bind fun v172 => ((xq_gr 12 1 (v172) R128.2).bind fun v174 => ((xq_is 15 (x0) R128.2).bind fun _ => ((f264  f (x0) (R116.1) (v174) (xwr ((4) * (x2))) (0) R128.2).bind fun M178 => f299_173  r31 f (x0) (x1) (x2) M178)))))))))))))))))))))))))))))))))))))))))))
theorem k299_31b {d f : Nat}  {r31 : Nat → Nat → Int → xj_M → Option (xj_M)}  (hr31 : ∀ {x0 : Nat} {x1 : Nat} {x2 : Int} {M : xj_M} {R : xj_M}, xin x2 → r31 x0 x1 x2 M = some R → xW (d + 112) (none, d + 112, none) xr_299 (31, [(0, xR_ x0), (1, xR_ x1), (2, xI x2)], [], M) (xQv R)) {x0 : Nat} {x1 : Nat} {x2 : Int} {M : xj_M} {R : xj_M} (hx2 : xin x2) (h : f299_31b  r31 f x0 x1 x2 M = some R) : xW (d + 112) (none, d + 112, none) xr_299 (31, [(0, xR_ x0), (1, xR_ x1), (2, xI x2)], [], M) (xQv R) := by
  unfold f299_31b at h
  refine xe_ldn (ins := .iload_n 2) (len := 1) (by decide +kernel) rfl rfl rfl rfl ?_
  refine xe_alr (ins := .aload_n 1) (len := 1) (i := 1) (by decide +kernel) rfl rfl rfl rfl rfl ?_
  obtain ⟨v101, e102, h⟩ := xbnd h
  refine xs_gr (i := 679) (c := 13) (k := 0) (by decide +kernel) (by decide) (by decide +kernel) e102 rfl ?_
  obtain ⟨v103, e104, h⟩ := xbnd h
  refine xs_gi (i := 690) (c := 12) (k := 3) (by decide +kernel) (by decide) (by decide +kernel) e104 rfl ?_
  refine xe_icmpge (off := 140) (t := 179) (by decide +kernel) (by decide) rfl hx2 (xq_gi_in e104) (fun c105 => ?_) (fun c105 => ?_)
  · rw [if_pos c105] at h
    cases h
    exact xe_ret_v (by decide +kernel) rfl ⟨rfl, rfl⟩
  · rw [if_neg c105] at h
    refine xe_alr (ins := .aload_n 0) (len := 1) (i := 0) (by decide +kernel) rfl rfl rfl rfl rfl ?_
    obtain ⟨v106, e107, h⟩ := xbnd h
    refine xs_gr (i := 439) (c := 15) (k := 29) (by decide +kernel) (by decide) (by decide +kernel) e107 rfl ?_
    refine xe_alr (ins := .aload_n 1) (len := 1) (i := 1) (by decide +kernel) rfl rfl rfl rfl rfl ?_
    obtain ⟨v108, e109, h⟩ := xbnd h
    refine xs_gr (i := 679) (c := 13) (k := 0) (by decide +kernel) (by decide) (by decide +kernel) e109 rfl ?_
    obtain ⟨v110, e111, h⟩ := xbnd h
    refine xs_gr (i := 694) (c := 12) (k := 0) (by decide +kernel) (by decide) (by decide +kernel) e111 rfl ?_
    refine xe_ldn (ins := .iload_n 2) (len := 1) (by decide +kernel) rfl rfl rfl rfl ?_
    obtain ⟨v112, e113, h⟩ := xbnd h
    refine xs_lald (by decide +kernel) hx2 e113 rfl ?_
    obtain ⟨_, e115, h⟩ := xbnd h
    obtain ⟨R116, e114, h⟩ := xbnd h
    refine xs_cv (i := 213) (j := 205) (ar := [xZ (v112)]) (rest := []) (r2 := xr_205) (by decide +kernel) (by decide +kernel) (by decide +kernel) xr_205_e rfl (by decide) (by decide) e115 ?_
    refine xc_i (k205 (d := d + 111)  (xq_al_in e113) e114) rfl (fun hi117 => ?_)
    refine xe_isr (ins := .istore_n 3) (len := 1) (i := 3) (by decide +kernel) rfl rfl rfl (by decide) (xk_k (show ¬ (0 : Nat) = 3 by decide) (Or.inl (show ¬ (0 + 1 : Nat) = 3 by decide)) (xk_k (show ¬ (1 : Nat) = 3 by decide) (Or.inl (show ¬ (1 + 1 : Nat) = 3 by decide)) (xk_k (show ¬ (2 : Nat) = 3 by decide) (Or.inr (xI_cat _)) xk_n))) rfl ?_
    refine xe_alr (ins := .aload_n 0) (len := 1) (i := 0) (by decide +kernel) rfl rfl rfl rfl rfl ?_
    obtain ⟨v118, e119, h⟩ := xbnd h
    refine xs_gr (i := 774) (c := 15) (k := 30) (by decide +kernel) (by decide) (by decide +kernel) e119 rfl ?_
    refine xe_alr (ins := .aload_n 1) (len := 1) (i := 1) (by decide +kernel) rfl rfl rfl rfl rfl ?_
    obtain ⟨v120, e121, h⟩ := xbnd h
    refine xs_gr (i := 679) (c := 13) (k := 0) (by decide +kernel) (by decide) (by decide +kernel) e121 rfl ?_
    obtain ⟨v122, e123, h⟩ := xbnd h
    refine xs_gr (i := 694) (c := 12) (k := 0) (by decide +kernel) (by decide) (by decide +kernel) e123 rfl ?_
    refine xe_ldn (ins := .iload_n 2) (len := 1) (by decide +kernel) rfl rfl rfl rfl ?_
    obtain ⟨v124, e125, h⟩ := xbnd h
    refine xs_lald (by decide +kernel) hx2 e125 rfl ?_
    obtain ⟨_, e127, h⟩ := xbnd h
    obtain ⟨R128, e126, h⟩ := xbnd h
    refine xs_cv (i := 213) (j := 205) (ar := [xZ (v124)]) (rest := []) (r2 := xr_205) (by decide +kernel) (by decide +kernel) (by decide +kernel) xr_205_e rfl (by decide) (by decide) e127 ?_
    refine xc_i (k205 (d := d + 111)  (xq_al_in e125) e126) rfl (fun hi129 => ?_)
    refine xe_isr (ins := .istore 4) (len := 2) (i := 4) (by decide +kernel) rfl rfl rfl (by decide) (xk_k (show ¬ (3 : Nat) = 4 by decide) (Or.inr (xI_cat _)) (xk_k (show ¬ (0 : Nat) = 4 by decide) (Or.inl (show ¬ (0 + 1 : Nat) = 4 by decide)) (xk_k (show ¬ (1 : Nat) = 4 by decide) (Or.inl (show ¬ (1 + 1 : Nat) = 4 by decide)) (xk_k (show ¬ (2 : Nat) = 4 by decide) (Or.inl (show ¬ (2 + 1 : Nat) = 4 by decide)) xk_n)))) rfl ?_
    refine xe_ldn (ins := .iload_n 3) (len := 1) (by decide +kernel) rfl rfl rfl rfl ?_
    refine xe_iconst (n := -1) (by decide +kernel) rfl ?_
    refine xe_icmpeq (off := 94) (t := 173) (by decide +kernel) (by decide) rfl hi117 (show xin (-1) by decide) (fun c130 => ?_) (fun c130 => ?_)
    · rw [if_pos c130] at h
      refine xW_lv rfl (l := [(0, xR_ (x0)), (1, xR_ (x1)), (2, xI (x2))]) (xsb_of ⟨rfl, rfl, rfl, trivial⟩ (show [4, 3, 0, 1, 2].Nodup by decide)) ?_
      exact k299_173  hr31 hx2 h
    · rw [if_neg c130] at h
      refine xe_ldn (ins := .iload 4) (len := 2) (by decide +kernel) rfl rfl rfl rfl ?_
      refine xe_iconst (n := -1) (by decide +kernel) rfl ?_
      refine xe_icmpeq (off := 88) (t := 173) (by decide +kernel) (by decide) rfl hi129 (show xin (-1) by decide) (fun c131 => ?_) (fun c131 => ?_)
      · rw [if_pos c131] at h
        refine xW_lv rfl (l := [(0, xR_ (x0)), (1, xR_ (x1)), (2, xI (x2))]) (xsb_of ⟨rfl, rfl, rfl, trivial⟩ (show [4, 3, 0, 1, 2].Nodup by decide)) ?_
        exact k299_173  hr31 hx2 h
      · rw [if_neg c131] at h
        refine xe_alr (ins := .aload_n 0) (len := 1) (i := 0) (by decide +kernel) rfl rfl rfl rfl rfl ?_
        obtain ⟨v132, e133, h⟩ := xbnd h
        refine xs_gr (i := 439) (c := 15) (k := 29) (by decide +kernel) (by decide) (by decide +kernel) e133 rfl ?_
        obtain ⟨v134, e135, h⟩ := xbnd h
        refine xs_gr (i := 187) (c := 14) (k := 5) (by decide +kernel) (by decide) (by decide +kernel) e135 rfl ?_
        refine xe_ldn (ins := .iload_n 3) (len := 1) (by decide +kernel) rfl rfl rfl rfl ?_
        obtain ⟨v136, e137, h⟩ := xbnd h
        refine xs_bald (by decide +kernel) hi117 e137 rfl ?_
        refine xe_ifeq (off := 76) (t := 173) (by decide +kernel) (by decide) rfl (xq_ab_in e137) (fun c138 => ?_) (fun c138 => ?_)
        · rw [if_pos c138] at h
          refine xW_lv rfl (l := [(0, xR_ (x0)), (1, xR_ (x1)), (2, xI (x2))]) (xsb_of ⟨rfl, rfl, rfl, trivial⟩ (show [4, 3, 0, 1, 2].Nodup by decide)) ?_
          exact k299_173  hr31 hx2 h
        · rw [if_neg c138] at h
          refine xe_alr (ins := .aload_n 0) (len := 1) (i := 0) (by decide +kernel) rfl rfl rfl rfl rfl ?_
          obtain ⟨v139, e140, h⟩ := xbnd h
          refine xs_gr (i := 774) (c := 15) (k := 30) (by decide +kernel) (by decide) (by decide +kernel) e140 rfl ?_
          obtain ⟨v141, e142, h⟩ := xbnd h
          refine xs_gr (i := 187) (c := 14) (k := 5) (by decide +kernel) (by decide) (by decide +kernel) e142 rfl ?_
          refine xe_ldn (ins := .iload 4) (len := 2) (by decide +kernel) rfl rfl rfl rfl ?_
          obtain ⟨v143, e144, h⟩ := xbnd h
          refine xs_bald (by decide +kernel) hi129 e144 rfl ?_
          refine xe_ifeq (off := 63) (t := 173) (by decide +kernel) (by decide) rfl (xq_ab_in e144) (fun c145 => ?_) (fun c145 => ?_)
          · rw [if_pos c145] at h
            refine xW_lv rfl (l := [(0, xR_ (x0)), (1, xR_ (x1)), (2, xI (x2))]) (xsb_of ⟨rfl, rfl, rfl, trivial⟩ (show [4, 3, 0, 1, 2].Nodup by decide)) ?_
            exact k299_173  hr31 hx2 h
          · rw [if_neg c145] at h
            refine xe_alr (ins := .aload_n 0) (len := 1) (i := 0) (by decide +kernel) rfl rfl rfl rfl rfl ?_
            obtain ⟨v146, e147, h⟩ := xbnd h
            refine xs_gr (i := 439) (c := 15) (k := 29) (by decide +kernel) (by decide) (by decide +kernel) e147 rfl ?_
            obtain ⟨v148, e149, h⟩ := xbnd h
            refine xs_gr (i := 180) (c := 14) (k := 1) (by decide +kernel) (by decide) (by decide +kernel) e149 rfl ?_
            refine xe_ldn (ins := .iload_n 3) (len := 1) (by decide +kernel) rfl rfl rfl rfl ?_
            obtain ⟨v150, e151, h⟩ := xbnd h
            refine xs_iald rfl (by decide +kernel) hi117 e151 rfl ?_
            refine xe_alr (ins := .aload_n 0) (len := 1) (i := 0) (by decide +kernel) rfl rfl rfl rfl rfl ?_
            obtain ⟨v152, e153, h⟩ := xbnd h
            refine xs_gr (i := 774) (c := 15) (k := 30) (by decide +kernel) (by decide) (by decide +kernel) e153 rfl ?_
            obtain ⟨v154, e155, h⟩ := xbnd h
            refine xs_gr (i := 180) (c := 14) (k := 1) (by decide +kernel) (by decide) (by decide +kernel) e155 rfl ?_
            refine xe_ldn (ins := .iload 4) (len := 2) (by decide +kernel) rfl rfl rfl rfl ?_
            obtain ⟨v156, e157, h⟩ := xbnd h
            refine xs_iald rfl (by decide +kernel) hi129 e157 rfl ?_
            refine xe_icmpne (off := 41) (t := 173) (by decide +kernel) (by decide) rfl (xq_ai_in e151) (xq_ai_in e157) (fun c158 => ?_) (fun c158 => ?_)
            · rw [if_pos c158] at h
              refine xW_lv rfl (l := [(0, xR_ (x0)), (1, xR_ (x1)), (2, xI (x2))]) (xsb_of ⟨rfl, rfl, rfl, trivial⟩ (show [4, 3, 0, 1, 2].Nodup by decide)) ?_
              exact k299_173  hr31 hx2 h
            · rw [if_neg c158] at h
              refine xe_alr (ins := .aload_n 0) (len := 1) (i := 0) (by decide +kernel) rfl rfl rfl rfl rfl ?_
              obtain ⟨v159, e160, h⟩ := xbnd h
              refine xs_gr (i := 439) (c := 15) (k := 29) (by decide +kernel) (by decide) (by decide +kernel) e160 rfl ?_
              obtain ⟨v161, e162, h⟩ := xbnd h
              refine xs_gr (i := 184) (c := 14) (k := 2) (by decide +kernel) (by decide) (by decide +kernel) e162 rfl ?_
              refine xe_ldn (ins := .iload_n 3) (len := 1) (by decide +kernel) rfl rfl rfl rfl ?_
              obtain ⟨v163, e164, h⟩ := xbnd h
              refine xs_iald rfl (by decide +kernel) hi117 e164 rfl ?_
              refine xe_alr (ins := .aload_n 0) (len := 1) (i := 0) (by decide +kernel) rfl rfl rfl rfl rfl ?_
              obtain ⟨v165, e166, h⟩ := xbnd h
              refine xs_gr (i := 774) (c := 15) (k := 30) (by decide +kernel) (by decide) (by decide +kernel) e166 rfl ?_
              obtain ⟨v167, e168, h⟩ := xbnd h
              refine xs_gr (i := 184) (c := 14) (k := 2) (by decide +kernel) (by decide) (by decide +kernel) e168 rfl ?_
              refine xe_ldn (ins := .iload 4) (len := 2) (by decide +kernel) rfl rfl rfl rfl ?_
              obtain ⟨v169, e170, h⟩ := xbnd h
              refine xs_iald rfl (by decide +kernel) hi129 e170 rfl ?_
              refine xe_icmpne (off := 19) (t := 173) (by decide +kernel) (by decide) rfl (xq_ai_in e164) (xq_ai_in e170) (fun c171 => ?_) (fun c171 => ?_)
              · rw [if_pos c171] at h
                refine xW_lv rfl (l := [(0, xR_ (x0)), (1, xR_ (x1)), (2, xI (x2))]) (xsb_of ⟨rfl, rfl, rfl, trivial⟩ (show [4, 3, 0, 1, 2].Nodup by decide)) ?_
                exact k299_173  hr31 hx2 h
              · rw [if_neg c171] at h
                refine xe_alr (ins := .aload_n 0) (len := 1) (i := 0) (by decide +kernel) rfl rfl rfl rfl rfl ?_
                refine xe_ldn (ins := .iload_n 3) (len := 1) (by decide +kernel) rfl rfl rfl rfl ?_
                refine xe_alr (ins := .aload_n 1) (len := 1) (i := 1) (by decide +kernel) rfl rfl rfl rfl rfl ?_
                obtain ⟨v172, e173, h⟩ := xbnd h
                refine xs_gr (i := 679) (c := 13) (k := 0) (by decide +kernel) (by decide) (by decide +kernel) e173 rfl ?_
                obtain ⟨v174, e175, h⟩ := xbnd h
                refine xs_gr (i := 696) (c := 12) (k := 1) (by decide +kernel) (by decide) (by decide +kernel) e175 rfl ?_
                refine xe_iconst (n := 4) (by decide +kernel) rfl ?_
                refine xe_ldn (ins := .iload_n 2) (len := 1) (by decide +kernel) rfl rfl rfl rfl ?_
                refine xe_imul (by decide +kernel) rfl ?_
                refine xe_iconst (n := 0) (by decide +kernel) rfl ?_
                obtain ⟨_, e177, h⟩ := xbnd h
                obtain ⟨M178, e176, h⟩ := xbnd h
                refine xs_cv (i := 626) (j := 264) (ar := [xI (0), xI (xwr ((4) * (x2))), xR_ (v174), xI (R116.1)]) (rest := []) (r2 := xr_264) (by decide +kernel) (by decide +kernel) (by decide +kernel) xr_264_e rfl (by decide) (by decide) e177 ?_
                refine xc_v (k264 (d := d + 109)  hi117 (xin_wr _) (show xin (0) by decide) e176) rfl ?_
                refine xW_lv rfl (l := [(0, xR_ (x0)), (1, xR_ (x1)), (2, xI (x2))]) (xsb_of ⟨rfl, rfl, rfl, trivial⟩ (show [4, 3, 0, 1, 2].Nodup by decide)) ?_
                exact k299_173  hr31 hx2 h
def f299_31   (f : Nat) : Nat → Nat → Nat → Int → xj_M → Option (xj_M)
  | 0, _, _, _, _ => none
  | n + 1, x0, x1, x2, M => f299_31b   (f299_31   f n) f x0 x1 x2 M
theorem k299_31 {d f : Nat}     : ∀ {n : Nat} {x0 : Nat} {x1 : Nat} {x2 : Int} {M : xj_M} {R : xj_M}, xin x2 → f299_31   f n x0 x1 x2 M = some R → xW (d + 112) (none, d + 112, none) xr_299 (31, [(0, xR_ x0), (1, xR_ x1), (2, xI x2)], [], M) (xQv R) := by
  intro n
  induction n with
  | zero => intros; rename_i h; cases h
  | succ n ih => intros; rename_i h; exact k299_31b   ih (by assumption) h
def f299_10b  (r10 : Nat → Nat → Int → xj_M → Option (xj_M)) (f : Nat) (x0 : Nat) (x1 : Nat) (x2 : Int) (M : xj_M) : Option (xj_M) := (if (16) ≤ (x2) then f299_31   f f (x0) (x1) (0) M else ((xq_gr 15 33 (x0) M).bind fun v181 => ((xq_si (v181) (x2) (0) M).bind fun M183 => r10 (x0) (x1) (xwr ((x2) + (1))) M183)))
theorem k299_10b {d f : Nat}  {r10 : Nat → Nat → Int → xj_M → Option (xj_M)}  (hr10 : ∀ {x0 : Nat} {x1 : Nat} {x2 : Int} {M : xj_M} {R : xj_M}, xin x2 → r10 x0 x1 x2 M = some R → xW (d + 112) (none, d + 112, none) xr_299 (10, [(0, xR_ x0), (1, xR_ x1), (2, xI x2)], [], M) (xQv R)) {x0 : Nat} {x1 : Nat} {x2 : Int} {M : xj_M} {R : xj_M} (hx2 : xin x2) (h : f299_10b  r10 f x0 x1 x2 M = some R) : xW (d + 112) (none, d + 112, none) xr_299 (10, [(0, xR_ x0), (1, xR_ x1), (2, xI x2)], [], M) (xQv R) := by
  unfold f299_10b at h
  refine xe_ldn (ins := .iload_n 2) (len := 1) (by decide +kernel) rfl rfl rfl rfl ?_
  refine xe_bipush (n := 16) (by decide +kernel) (by decide) rfl ?_
  refine xe_icmpge (off := 16) (t := 29) (by decide +kernel) (by decide) rfl hx2 (show xin (16) by decide) (fun c180 => ?_) (fun c180 => ?_)
  · rw [if_pos c180] at h
    refine xe_iconst (n := 0) (by decide +kernel) rfl ?_
    refine xe_isr (ins := .istore_n 2) (len := 1) (i := 2) (by decide +kernel) rfl rfl rfl (by decide) (xk_k (show ¬ (0 : Nat) = 2 by decide) (Or.inl (show ¬ (0 + 1 : Nat) = 2 by decide)) (xk_k (show ¬ (1 : Nat) = 2 by decide) (Or.inr (xR_cat _)) (xk_d rfl xk_n))) rfl ?_
    refine xW_lv rfl (l := [(0, xR_ (x0)), (1, xR_ (x1)), (2, xI (0))]) (xsb_of ⟨rfl, rfl, rfl, trivial⟩ (show [2, 0, 1].Nodup by decide)) ?_
    exact k299_31   (show xin (0) by decide) h
  · rw [if_neg c180] at h
    refine xe_alr (ins := .aload_n 0) (len := 1) (i := 0) (by decide +kernel) rfl rfl rfl rfl rfl ?_
    obtain ⟨v181, e182, h⟩ := xbnd h
    refine xs_gr (i := 430) (c := 15) (k := 33) (by decide +kernel) (by decide) (by decide +kernel) e182 rfl ?_
    refine xe_ldn (ins := .iload_n 2) (len := 1) (by decide +kernel) rfl rfl rfl rfl ?_
    refine xe_iconst (n := 0) (by decide +kernel) rfl ?_
    obtain ⟨M183, e184, h⟩ := xbnd h
    refine xs_iast (by decide +kernel) hx2 e184 rfl ?_
    refine xe_iincr (i := 2) (n := 1) (by decide +kernel) (by decide) rfl (xk_k (show ¬ (0 : Nat) = 2 by decide) (Or.inl (show ¬ (0 + 1 : Nat) = 2 by decide)) (xk_k (show ¬ (1 : Nat) = 2 by decide) (Or.inr (xR_cat _)) (xk_d rfl xk_n))) rfl ?_
    refine xe_goto (off := -16) (nx := 10) (by decide +kernel) (by decide) ?_
    refine xW_lv rfl (l := [(0, xR_ (x0)), (1, xR_ (x1)), (2, xI (xwr ((x2) + (1))))]) (xsb_of ⟨rfl, rfl, rfl, trivial⟩ (show [2, 0, 1].Nodup by decide)) ?_
    exact hr10 (xin_wr _) h
def f299_10   (f : Nat) : Nat → Nat → Nat → Int → xj_M → Option (xj_M)
  | 0, _, _, _, _ => none
  | n + 1, x0, x1, x2, M => f299_10b   (f299_10   f n) f x0 x1 x2 M
theorem k299_10 {d f : Nat}     : ∀ {n : Nat} {x0 : Nat} {x1 : Nat} {x2 : Int} {M : xj_M} {R : xj_M}, xin x2 → f299_10   f n x0 x1 x2 M = some R → xW (d + 112) (none, d + 112, none) xr_299 (10, [(0, xR_ x0), (1, xR_ x1), (2, xI x2)], [], M) (xQv R) := by
  intro n
  induction n with
  | zero => intros; rename_i h; cases h
  | succ n ih => intros; rename_i h; exact k299_10b   ih (by assumption) h
def f299  (f : Nat) (a0 : Nat) (a1 : Nat) (M : xj_M) : Option (xj_M) := ((xq_gi 13 1 (a1) M).bind fun v185 => ((xq_is 15 (a0) M).bind fun _ => ((f300  f (a0) (v185) M).bind fun M189 => f299_10   f f (a0) (a1) (0) M189)))
theorem k299 {d f : Nat}   {a0 : Nat} {a1 : Nat} {M : xj_M} {R : xj_M}  (h : f299  f a0 a1 M = some R) : xT (d + 113) 299 [xR_ a0, xR_ a1] M (xQv R) := by
  refine xT_m xr_299_e (X := (none, d + 112, none)) rfl (xa_1 (xR_cat _) (xa_1 (xR_cat _) xa_n)) (by decide) ?_
  unfold f299 at h
  refine xe_alr (ins := .aload_n 0) (len := 1) (i := 0) (by decide +kernel) rfl rfl rfl rfl rfl ?_
  refine xe_alr (ins := .aload_n 1) (len := 1) (i := 1) (by decide +kernel) rfl rfl rfl rfl rfl ?_
  obtain ⟨v185, e186, h⟩ := xbnd h
  refine xs_gi (i := 671) (c := 13) (k := 1) (by decide +kernel) (by decide) (by decide +kernel) e186 rfl ?_
  obtain ⟨_, e188, h⟩ := xbnd h
  obtain ⟨M189, e187, h⟩ := xbnd h
  refine xs_cv (i := 771) (j := 300) (ar := [xI (v185)]) (rest := []) (r2 := xr_300) (by decide +kernel) (by decide +kernel) (by decide +kernel) xr_300_e rfl (by decide) (by decide) e188 ?_
  refine xc_v (k300 (d := d + 0)  (xq_gi_in e186) e187) rfl ?_
  refine xe_iconst (n := 0) (by decide +kernel) rfl ?_
  refine xe_isr (ins := .istore_n 2) (len := 1) (i := 2) (by decide +kernel) rfl rfl rfl (by decide) (xk_k (show ¬ (0 : Nat) = 2 by decide) (Or.inl (show ¬ (0 + 1 : Nat) = 2 by decide)) (xk_k (show ¬ (1 : Nat) = 2 by decide) (Or.inr (xR_cat _)) xk_n)) rfl ?_
  refine xW_lv rfl (l := [(0, xR_ (a0)), (1, xR_ (a1)), (2, xI (0))]) (xsb_of ⟨rfl, rfl, rfl, trivial⟩ (show [2, 0, 1].Nodup by decide)) ?_
  exact k299_10   (show xin (0) by decide) h
-- ChangeHouseModel.round
def xr_298 : xj_mR := (15, yX15_round, cX15_round, 4, (Option.some Jvm.ClassFile.FieldType.int), 0, false, (8, 120), (1, 12))
set_option maxRecDepth 20000 in
theorem xr_298_e : xj_row 298 = some xr_298 := rfl
def f298_222   (f : Nat) (x0 : Nat) (x1 : Nat) (x2 : Int) (M : xj_M) : Option (Int × xj_M) := ((xq_gi 13 2 (x1) M).bind fun v101 => ((xq_pi 13 2 (x1) (xwr ((v101) + (1))) M).bind fun M103 => ((xq_is 13 (x1) M103).bind fun _ => ((f203  f (x1) M103).bind fun M107 => ((xq_is 15 (x0) M107).bind fun _ => ((f304  f (x0) (x1) M107).bind fun R111 => ((xq_is 15 (x0) R111.2).bind fun _ => ((f305  f (x0) (x1) (x2) R111.2).bind fun M115 => ((xq_gr 13 0 (x1) M115).bind fun v117 => ((xq_gr 15 77 (x0) M115).bind fun v119 => ((xq_is 12 (v117) M115).bind fun _ => ((f194  f (v117) (v119) M115).bind fun M123 => ((xq_is 15 (x0) M123).bind fun _ => ((f306  f (x0) (x1) M123).bind fun M127 => ((xq_is 15 (x0) M127).bind fun _ => ((f354  f (x0) (x1) (x2) M127).bind fun M131 => ((xq_is 13 (x1) M131).bind fun _ => ((f202  f (x1) M131).bind fun M135 => ((xq_is 15 (x0) M135).bind fun _ => ((f308  f (x0) (x1) M135).bind fun M139 => ((xq_gi 15 64 (x0) M139).bind fun v141 => ((xq_pi 15 64 (x0) (xwr ((v141) + (1))) M139).bind fun M143 => (some (R111.1, M143))))))))))))))))))))))))
theorem k298_222 {d f : Nat}     {x0 : Nat} {x1 : Nat} {x2 : Int} {M : xj_M} {R : Int × xj_M} (hx2 : xin x2) (h : f298_222   f x0 x1 x2 M = some R) : xW (d + 259) (none, d + 259, none) xr_298 (222, [(0, xR_ x0), (1, xR_ x1), (2, xI x2)], [], M) (xQi R) := by
  unfold f298_222 at h
  refine xe_alr (ins := .aload_n 1) (len := 1) (i := 1) (by decide +kernel) rfl rfl rfl rfl rfl ?_
  refine xe_dupr (by decide +kernel) rfl ?_
  obtain ⟨v101, e102, h⟩ := xbnd h
  refine xs_gi (i := 740) (c := 13) (k := 2) (by decide +kernel) (by decide) (by decide +kernel) e102 rfl ?_
  refine xe_iconst (n := 1) (by decide +kernel) rfl ?_
  refine xe_iadd (by decide +kernel) rfl ?_
  obtain ⟨M103, e104, h⟩ := xbnd h
  refine xs_p (i := 740) (c := 13) (k := 2) (by decide +kernel) (by decide +kernel) (by decide +kernel) e104 rfl ?_
  refine xe_alr (ins := .aload_n 1) (len := 1) (i := 1) (by decide +kernel) rfl rfl rfl rfl rfl ?_
  obtain ⟨_, e106, h⟩ := xbnd h
  obtain ⟨M107, e105, h⟩ := xbnd h
  refine xs_cv (i := 751) (j := 203) (ar := []) (rest := []) (r2 := xr_203) (by decide +kernel) (by decide +kernel) (by decide +kernel) xr_203_e rfl (by decide) (by decide) e106 ?_
  refine xc_v (k203 (d := d + 258)   e105) rfl ?_
  refine xe_alr (ins := .aload_n 0) (len := 1) (i := 0) (by decide +kernel) rfl rfl rfl rfl rfl ?_
  refine xe_alr (ins := .aload_n 1) (len := 1) (i := 1) (by decide +kernel) rfl rfl rfl rfl rfl ?_
  obtain ⟨_, e110, h⟩ := xbnd h
  obtain ⟨R111, e109, h⟩ := xbnd h
  refine xs_cv (i := 754) (j := 304) (ar := [xR_ (x1)]) (rest := []) (r2 := xr_304) (by decide +kernel) (by decide +kernel) (by decide +kernel) xr_304_e rfl (by decide) (by decide) e110 ?_
  refine xc_i (k304 (d := d + 255)   e109) rfl (fun hi112 => ?_)
  refine xe_isr (ins := .istore_n 3) (len := 1) (i := 3) (by decide +kernel) rfl rfl rfl (by decide) (xk_k (show ¬ (0 : Nat) = 3 by decide) (Or.inl (show ¬ (0 + 1 : Nat) = 3 by decide)) (xk_k (show ¬ (1 : Nat) = 3 by decide) (Or.inl (show ¬ (1 + 1 : Nat) = 3 by decide)) (xk_k (show ¬ (2 : Nat) = 3 by decide) (Or.inr (xI_cat _)) xk_n))) rfl ?_
  refine xe_alr (ins := .aload_n 0) (len := 1) (i := 0) (by decide +kernel) rfl rfl rfl rfl rfl ?_
  refine xe_alr (ins := .aload_n 1) (len := 1) (i := 1) (by decide +kernel) rfl rfl rfl rfl rfl ?_
  refine xe_ldn (ins := .iload_n 2) (len := 1) (by decide +kernel) rfl rfl rfl rfl ?_
  obtain ⟨_, e114, h⟩ := xbnd h
  obtain ⟨M115, e113, h⟩ := xbnd h
  refine xs_cv (i := 758) (j := 305) (ar := [xI (x2), xR_ (x1)]) (rest := []) (r2 := xr_305) (by decide +kernel) (by decide +kernel) (by decide +kernel) xr_305_e rfl (by decide) (by decide) e114 ?_
  refine xc_v (k305 (d := d + 258)  hx2 e113) rfl ?_
  refine xe_alr (ins := .aload_n 1) (len := 1) (i := 1) (by decide +kernel) rfl rfl rfl rfl rfl ?_
  obtain ⟨v117, e118, h⟩ := xbnd h
  refine xs_gr (i := 679) (c := 13) (k := 0) (by decide +kernel) (by decide) (by decide +kernel) e118 rfl ?_
  refine xe_alr (ins := .aload_n 0) (len := 1) (i := 0) (by decide +kernel) rfl rfl rfl rfl rfl ?_
  obtain ⟨v119, e120, h⟩ := xbnd h
  refine xs_gr (i := 728) (c := 15) (k := 77) (by decide +kernel) (by decide) (by decide +kernel) e120 rfl ?_
  obtain ⟨_, e122, h⟩ := xbnd h
  obtain ⟨M123, e121, h⟩ := xbnd h
  refine xs_cv (i := 708) (j := 194) (ar := [xR_ (v119)]) (rest := []) (r2 := xr_194) (by decide +kernel) (by decide +kernel) (by decide +kernel) xr_194_e rfl (by decide) (by decide) e122 ?_
  refine xc_v (k194 (d := d + 258)   e121) rfl ?_
  refine xe_alr (ins := .aload_n 0) (len := 1) (i := 0) (by decide +kernel) rfl rfl rfl rfl rfl ?_
  refine xe_alr (ins := .aload_n 1) (len := 1) (i := 1) (by decide +kernel) rfl rfl rfl rfl rfl ?_
  obtain ⟨_, e126, h⟩ := xbnd h
  obtain ⟨M127, e125, h⟩ := xbnd h
  refine xs_cv (i := 762) (j := 306) (ar := [xR_ (x1)]) (rest := []) (r2 := xr_306) (by decide +kernel) (by decide +kernel) (by decide +kernel) xr_306_e rfl (by decide) (by decide) e126 ?_
  refine xc_v (k306 (d := d + 257)   e125) rfl ?_
  refine xe_alr (ins := .aload_n 0) (len := 1) (i := 0) (by decide +kernel) rfl rfl rfl rfl rfl ?_
  refine xe_alr (ins := .aload_n 1) (len := 1) (i := 1) (by decide +kernel) rfl rfl rfl rfl rfl ?_
  refine xe_ldn (ins := .iload_n 2) (len := 1) (by decide +kernel) rfl rfl rfl rfl ?_
  obtain ⟨_, e130, h⟩ := xbnd h
  obtain ⟨M131, e129, h⟩ := xbnd h
  refine xs_cv (i := 765) (j := 354) (ar := [xI (x2), xR_ (x1)]) (rest := []) (r2 := xr_354) (by decide +kernel) (by decide +kernel) (by decide +kernel) xr_354_e rfl (by decide) (by decide) e130 ?_
  refine xc_v (k354 (d := d + 0)  hx2 e129) rfl ?_
  refine xe_alr (ins := .aload_n 1) (len := 1) (i := 1) (by decide +kernel) rfl rfl rfl rfl rfl ?_
  obtain ⟨_, e134, h⟩ := xbnd h
  obtain ⟨M135, e133, h⟩ := xbnd h
  refine xs_cv (i := 725) (j := 202) (ar := []) (rest := []) (r2 := xr_202) (by decide +kernel) (by decide +kernel) (by decide +kernel) xr_202_e rfl (by decide) (by decide) e134 ?_
  refine xc_v (k202 (d := d + 258)   e133) rfl ?_
  refine xe_alr (ins := .aload_n 0) (len := 1) (i := 0) (by decide +kernel) rfl rfl rfl rfl rfl ?_
  refine xe_alr (ins := .aload_n 1) (len := 1) (i := 1) (by decide +kernel) rfl rfl rfl rfl rfl ?_
  obtain ⟨_, e138, h⟩ := xbnd h
  obtain ⟨M139, e137, h⟩ := xbnd h
  refine xs_cv (i := 768) (j := 308) (ar := [xR_ (x1)]) (rest := []) (r2 := xr_308) (by decide +kernel) (by decide +kernel) (by decide +kernel) xr_308_e rfl (by decide) (by decide) e138 ?_
  refine xc_v (k308 (d := d + 257)   e137) rfl ?_
  refine xe_alr (ins := .aload_n 0) (len := 1) (i := 0) (by decide +kernel) rfl rfl rfl rfl rfl ?_
  refine xe_dupr (by decide +kernel) rfl ?_
  obtain ⟨v141, e142, h⟩ := xbnd h
  refine xs_gi (i := 658) (c := 15) (k := 64) (by decide +kernel) (by decide) (by decide +kernel) e142 rfl ?_
  refine xe_iconst (n := 1) (by decide +kernel) rfl ?_
  refine xe_iadd (by decide +kernel) rfl ?_
  obtain ⟨M143, e144, h⟩ := xbnd h
  refine xs_p (i := 658) (c := 15) (k := 64) (by decide +kernel) (by decide +kernel) (by decide +kernel) e144 rfl ?_
  refine xe_ldn (ins := .iload_n 3) (len := 1) (by decide +kernel) rfl rfl rfl rfl ?_
  cases h
  exact xe_ret_i (ty := .int) (by decide +kernel) rfl rfl ⟨rfl, rfl, hi112⟩
def f298_203b  (r203 : Nat → Nat → Int → Int → xj_M → Option (Int × xj_M)) (f : Nat) (x0 : Nat) (x1 : Nat) (x2 : Int) (x3 : Int) (M : xj_M) : Option (Int × xj_M) := (if (16) ≤ (x3) then f298_222   f (x0) (x1) (x2) M else ((xq_gr 13 21 (x1) M).bind fun v146 => ((xq_si (v146) (x3) (0) M).bind fun M148 => r203 (x0) (x1) (x2) (xwr ((x3) + (1))) M148)))
theorem k298_203b {d f : Nat}  {r203 : Nat → Nat → Int → Int → xj_M → Option (Int × xj_M)}  (hr203 : ∀ {x0 : Nat} {x1 : Nat} {x2 : Int} {x3 : Int} {M : xj_M} {R : Int × xj_M}, xin x2 → xin x3 → r203 x0 x1 x2 x3 M = some R → xW (d + 259) (none, d + 259, none) xr_298 (203, [(0, xR_ x0), (1, xR_ x1), (2, xI x2), (3, xI x3)], [], M) (xQi R)) {x0 : Nat} {x1 : Nat} {x2 : Int} {x3 : Int} {M : xj_M} {R : Int × xj_M} (hx2 : xin x2) (hx3 : xin x3) (h : f298_203b  r203 f x0 x1 x2 x3 M = some R) : xW (d + 259) (none, d + 259, none) xr_298 (203, [(0, xR_ x0), (1, xR_ x1), (2, xI x2), (3, xI x3)], [], M) (xQi R) := by
  unfold f298_203b at h
  refine xe_ldn (ins := .iload_n 3) (len := 1) (by decide +kernel) rfl rfl rfl rfl ?_
  refine xe_bipush (n := 16) (by decide +kernel) (by decide) rfl ?_
  refine xe_icmpge (off := 16) (t := 222) (by decide +kernel) (by decide) rfl hx3 (show xin (16) by decide) (fun c145 => ?_) (fun c145 => ?_)
  · rw [if_pos c145] at h
    refine xW_lv rfl (l := [(0, xR_ (x0)), (1, xR_ (x1)), (2, xI (x2))]) (xsb_of ⟨rfl, rfl, rfl, trivial⟩ (show [0, 1, 2, 3].Nodup by decide)) ?_
    exact k298_222   hx2 h
  · rw [if_neg c145] at h
    refine xe_alr (ins := .aload_n 1) (len := 1) (i := 1) (by decide +kernel) rfl rfl rfl rfl rfl ?_
    obtain ⟨v146, e147, h⟩ := xbnd h
    refine xs_gr (i := 749) (c := 13) (k := 21) (by decide +kernel) (by decide) (by decide +kernel) e147 rfl ?_
    refine xe_ldn (ins := .iload_n 3) (len := 1) (by decide +kernel) rfl rfl rfl rfl ?_
    refine xe_iconst (n := 0) (by decide +kernel) rfl ?_
    obtain ⟨M148, e149, h⟩ := xbnd h
    refine xs_iast (by decide +kernel) hx3 e149 rfl ?_
    refine xe_iincr (i := 3) (n := 1) (by decide +kernel) (by decide) rfl (xk_k (show ¬ (0 : Nat) = 3 by decide) (Or.inl (show ¬ (0 + 1 : Nat) = 3 by decide)) (xk_k (show ¬ (1 : Nat) = 3 by decide) (Or.inl (show ¬ (1 + 1 : Nat) = 3 by decide)) (xk_k (show ¬ (2 : Nat) = 3 by decide) (Or.inr (xI_cat _)) (xk_d rfl xk_n)))) rfl ?_
    refine xe_goto (off := -16) (nx := 203) (by decide +kernel) (by decide) ?_
    refine xW_lv rfl (l := [(0, xR_ (x0)), (1, xR_ (x1)), (2, xI (x2)), (3, xI (xwr ((x3) + (1))))]) (xsb_of ⟨rfl, rfl, rfl, rfl, trivial⟩ (show [3, 0, 1, 2].Nodup by decide)) ?_
    exact hr203 hx2 (xin_wr _) h
def f298_203   (f : Nat) : Nat → Nat → Nat → Int → Int → xj_M → Option (Int × xj_M)
  | 0, _, _, _, _, _ => none
  | n + 1, x0, x1, x2, x3, M => f298_203b   (f298_203   f n) f x0 x1 x2 x3 M
theorem k298_203 {d f : Nat}     : ∀ {n : Nat} {x0 : Nat} {x1 : Nat} {x2 : Int} {x3 : Int} {M : xj_M} {R : Int × xj_M}, xin x2 → xin x3 → f298_203   f n x0 x1 x2 x3 M = some R → xW (d + 259) (none, d + 259, none) xr_298 (203, [(0, xR_ x0), (1, xR_ x1), (2, xI x2), (3, xI x3)], [], M) (xQi R) := by
  intro n
  induction n with
  | zero => intros; rename_i h; cases h
  | succ n ih => intros; rename_i h; exact k298_203b   ih (by assumption) (by assumption) h
def f298_90b  (r90 : Nat → Nat → Int → Int → xj_M → Option (Int × xj_M)) (f : Nat) (x0 : Nat) (x1 : Nat) (x2 : Int) (x3 : Int) (M : xj_M) : Option (Int × xj_M) := ((xq_gi 13 33 (x1) M).bind fun v150 => (if (v150) ≤ (x3) then ((xq_is 15 (x0) M).bind fun _ => ((f290  f (x0) M).bind fun R155 => (if ¬ (R155.1) = 0 then ((xq_gr 15 77 (x0) R155.2).bind fun v158 => ((xq_is 15 (x0) R155.2).bind fun _ => ((f302  f (x0) (v158) R155.2).bind fun M162 => (if (x2) = 0 then f298_222   f (x0) (x1) (x2) M162 else ((xq_gr 13 14 (x1) M162).bind fun v165 => ((xq_gi 13 17 (x1) M162).bind fun v167 => ((xq_gi 13 2 (x1) M162).bind fun v169 => ((xq_si (v165) (v167) (xwr ((v169) + (1))) M162).bind fun M171 => ((xq_gr 13 15 (x1) M171).bind fun v173 => ((xq_gi 13 17 (x1) M171).bind fun v175 => ((xq_gi 13 1 (x1) M171).bind fun v177 => ((xq_si (v173) (v175) (v177) M171).bind fun M179 => ((xq_gi 13 17 (x1) M179).bind fun v181 => ((xq_pi 13 17 (x1) (xwr ((v181) + (1))) M179).bind fun M183 => ((xq_gi 13 34 (x1) M183).bind fun v185 => ((xq_pi 13 1 (x1) (v185) M183).bind fun M187 => ((xq_gi 13 4 (x1) M187).bind fun v189 => ((xq_pi 13 4 (x1) (xwr ((v189) + (1))) M187).bind fun M191 => f298_203   f f (x0) (x1) (x2) (0) M191)))))))))))))))))) else ((xq_gi 15 63 (x0) R155.2).bind fun v193 => ((xq_pi 15 63 (x0) (xwr ((v193) + (1))) R155.2).bind fun M195 => ((xq_is 13 (x1) M195).bind fun _ => ((f202  f (x1) M195).bind fun M199 => (some (-1, M199))))))))) else ((xq_is 15 (x0) M).bind fun _ => ((f301  f (x0) (x1) (x3) M).bind fun M203 => r90 (x0) (x1) (x2) (xwr ((x3) + (1))) M203))))
theorem k298_90b {d f : Nat}  {r90 : Nat → Nat → Int → Int → xj_M → Option (Int × xj_M)}  (hr90 : ∀ {x0 : Nat} {x1 : Nat} {x2 : Int} {x3 : Int} {M : xj_M} {R : Int × xj_M}, xin x2 → xin x3 → r90 x0 x1 x2 x3 M = some R → xW (d + 259) (none, d + 259, none) xr_298 (90, [(0, xR_ x0), (1, xR_ x1), (2, xI x2), (3, xI x3)], [], M) (xQi R)) {x0 : Nat} {x1 : Nat} {x2 : Int} {x3 : Int} {M : xj_M} {R : Int × xj_M} (hx2 : xin x2) (hx3 : xin x3) (h : f298_90b  r90 f x0 x1 x2 x3 M = some R) : xW (d + 259) (none, d + 259, none) xr_298 (90, [(0, xR_ x0), (1, xR_ x1), (2, xI x2), (3, xI x3)], [], M) (xQi R) := by
  unfold f298_90b at h
  refine xe_ldn (ins := .iload_n 3) (len := 1) (by decide +kernel) rfl rfl rfl rfl ?_
  refine xe_alr (ins := .aload_n 1) (len := 1) (i := 1) (by decide +kernel) rfl rfl rfl rfl rfl ?_
  obtain ⟨v150, e151, h⟩ := xbnd h
  refine xs_gi (i := 715) (c := 13) (k := 33) (by decide +kernel) (by decide) (by decide +kernel) e151 rfl ?_
  refine xe_icmpge (off := 15) (t := 110) (by decide +kernel) (by decide) rfl hx3 (xq_gi_in e151) (fun c152 => ?_) (fun c152 => ?_)
  · rw [if_pos c152] at h
    refine xe_alr (ins := .aload_n 0) (len := 1) (i := 0) (by decide +kernel) rfl rfl rfl rfl rfl ?_
    obtain ⟨_, e154, h⟩ := xbnd h
    obtain ⟨R155, e153, h⟩ := xbnd h
    refine xs_cv (i := 687) (j := 290) (ar := []) (rest := []) (r2 := xr_290) (by decide +kernel) (by decide +kernel) (by decide +kernel) xr_290_e rfl (by decide) (by decide) e154 ?_
    refine xc_i (k290 (d := d + 172)   e153) rfl (fun hi156 => ?_)
    refine xe_ifne (off := 19) (t := 133) (by decide +kernel) (by decide) rfl hi156 (fun c157 => ?_) (fun c157 => ?_)
    · rw [if_pos c157] at h
      refine xe_alr (ins := .aload_n 0) (len := 1) (i := 0) (by decide +kernel) rfl rfl rfl rfl rfl ?_
      refine xe_alr (ins := .aload_n 0) (len := 1) (i := 0) (by decide +kernel) rfl rfl rfl rfl rfl ?_
      obtain ⟨v158, e159, h⟩ := xbnd h
      refine xs_gr (i := 728) (c := 15) (k := 77) (by decide +kernel) (by decide) (by decide +kernel) e159 rfl ?_
      obtain ⟨_, e161, h⟩ := xbnd h
      obtain ⟨M162, e160, h⟩ := xbnd h
      refine xs_cv (i := 731) (j := 302) (ar := [xR_ (v158)]) (rest := []) (r2 := xr_302) (by decide +kernel) (by decide +kernel) (by decide +kernel) xr_302_e rfl (by decide) (by decide) e161 ?_
      refine xc_v (k302 (d := d + 255)   e160) rfl ?_
      refine xe_ldn (ins := .iload_n 2) (len := 1) (by decide +kernel) rfl rfl rfl rfl ?_
      refine xe_ifeq (off := 80) (t := 222) (by decide +kernel) (by decide) rfl hx2 (fun c164 => ?_) (fun c164 => ?_)
      · rw [if_pos c164] at h
        refine xW_lv rfl (l := [(0, xR_ (x0)), (1, xR_ (x1)), (2, xI (x2))]) (xsb_of ⟨rfl, rfl, rfl, trivial⟩ (show [0, 1, 2, 3].Nodup by decide)) ?_
        exact k298_222   hx2 h
      · rw [if_neg c164] at h
        refine xe_alr (ins := .aload_n 1) (len := 1) (i := 1) (by decide +kernel) rfl rfl rfl rfl rfl ?_
        obtain ⟨v165, e166, h⟩ := xbnd h
        refine xs_gr (i := 734) (c := 13) (k := 14) (by decide +kernel) (by decide) (by decide +kernel) e166 rfl ?_
        refine xe_alr (ins := .aload_n 1) (len := 1) (i := 1) (by decide +kernel) rfl rfl rfl rfl rfl ?_
        obtain ⟨v167, e168, h⟩ := xbnd h
        refine xs_gi (i := 737) (c := 13) (k := 17) (by decide +kernel) (by decide) (by decide +kernel) e168 rfl ?_
        refine xe_alr (ins := .aload_n 1) (len := 1) (i := 1) (by decide +kernel) rfl rfl rfl rfl rfl ?_
        obtain ⟨v169, e170, h⟩ := xbnd h
        refine xs_gi (i := 740) (c := 13) (k := 2) (by decide +kernel) (by decide) (by decide +kernel) e170 rfl ?_
        refine xe_iconst (n := 1) (by decide +kernel) rfl ?_
        refine xe_iadd (by decide +kernel) rfl ?_
        obtain ⟨M171, e172, h⟩ := xbnd h
        refine xs_iast (by decide +kernel) (xq_gi_in e168) e172 rfl ?_
        refine xe_alr (ins := .aload_n 1) (len := 1) (i := 1) (by decide +kernel) rfl rfl rfl rfl rfl ?_
        obtain ⟨v173, e174, h⟩ := xbnd h
        refine xs_gr (i := 743) (c := 13) (k := 15) (by decide +kernel) (by decide) (by decide +kernel) e174 rfl ?_
        refine xe_alr (ins := .aload_n 1) (len := 1) (i := 1) (by decide +kernel) rfl rfl rfl rfl rfl ?_
        obtain ⟨v175, e176, h⟩ := xbnd h
        refine xs_gi (i := 737) (c := 13) (k := 17) (by decide +kernel) (by decide) (by decide +kernel) e176 rfl ?_
        refine xe_alr (ins := .aload_n 1) (len := 1) (i := 1) (by decide +kernel) rfl rfl rfl rfl rfl ?_
        obtain ⟨v177, e178, h⟩ := xbnd h
        refine xs_gi (i := 671) (c := 13) (k := 1) (by decide +kernel) (by decide) (by decide +kernel) e178 rfl ?_
        obtain ⟨M179, e180, h⟩ := xbnd h
        refine xs_iast (by decide +kernel) (xq_gi_in e176) e180 rfl ?_
        refine xe_alr (ins := .aload_n 1) (len := 1) (i := 1) (by decide +kernel) rfl rfl rfl rfl rfl ?_
        refine xe_dupr (by decide +kernel) rfl ?_
        obtain ⟨v181, e182, h⟩ := xbnd h
        refine xs_gi (i := 737) (c := 13) (k := 17) (by decide +kernel) (by decide) (by decide +kernel) e182 rfl ?_
        refine xe_iconst (n := 1) (by decide +kernel) rfl ?_
        refine xe_iadd (by decide +kernel) rfl ?_
        obtain ⟨M183, e184, h⟩ := xbnd h
        refine xs_p (i := 737) (c := 13) (k := 17) (by decide +kernel) (by decide +kernel) (by decide +kernel) e184 rfl ?_
        refine xe_alr (ins := .aload_n 1) (len := 1) (i := 1) (by decide +kernel) rfl rfl rfl rfl rfl ?_
        refine xe_alr (ins := .aload_n 1) (len := 1) (i := 1) (by decide +kernel) rfl rfl rfl rfl rfl ?_
        obtain ⟨v185, e186, h⟩ := xbnd h
        refine xs_gi (i := 702) (c := 13) (k := 34) (by decide +kernel) (by decide) (by decide +kernel) e186 rfl ?_
        obtain ⟨M187, e188, h⟩ := xbnd h
        refine xs_p (i := 671) (c := 13) (k := 1) (by decide +kernel) (by decide +kernel) (by decide +kernel) e188 rfl ?_
        refine xe_alr (ins := .aload_n 1) (len := 1) (i := 1) (by decide +kernel) rfl rfl rfl rfl rfl ?_
        refine xe_dupr (by decide +kernel) rfl ?_
        obtain ⟨v189, e190, h⟩ := xbnd h
        refine xs_gi (i := 746) (c := 13) (k := 4) (by decide +kernel) (by decide) (by decide +kernel) e190 rfl ?_
        refine xe_iconst (n := 1) (by decide +kernel) rfl ?_
        refine xe_iadd (by decide +kernel) rfl ?_
        obtain ⟨M191, e192, h⟩ := xbnd h
        refine xs_p (i := 746) (c := 13) (k := 4) (by decide +kernel) (by decide +kernel) (by decide +kernel) e192 rfl ?_
        refine xe_iconst (n := 0) (by decide +kernel) rfl ?_
        refine xe_isr (ins := .istore_n 3) (len := 1) (i := 3) (by decide +kernel) rfl rfl rfl (by decide) (xk_k (show ¬ (0 : Nat) = 3 by decide) (Or.inl (show ¬ (0 + 1 : Nat) = 3 by decide)) (xk_k (show ¬ (1 : Nat) = 3 by decide) (Or.inl (show ¬ (1 + 1 : Nat) = 3 by decide)) (xk_k (show ¬ (2 : Nat) = 3 by decide) (Or.inr (xI_cat _)) (xk_d rfl xk_n)))) rfl ?_
        refine xW_lv rfl (l := [(0, xR_ (x0)), (1, xR_ (x1)), (2, xI (x2)), (3, xI (0))]) (xsb_of ⟨rfl, rfl, rfl, rfl, trivial⟩ (show [3, 0, 1, 2].Nodup by decide)) ?_
        exact k298_203   hx2 (show xin (0) by decide) h
    · rw [if_neg c157] at h
      refine xe_alr (ins := .aload_n 0) (len := 1) (i := 0) (by decide +kernel) rfl rfl rfl rfl rfl ?_
      refine xe_dupr (by decide +kernel) rfl ?_
      obtain ⟨v193, e194, h⟩ := xbnd h
      refine xs_gi (i := 722) (c := 15) (k := 63) (by decide +kernel) (by decide) (by decide +kernel) e194 rfl ?_
      refine xe_iconst (n := 1) (by decide +kernel) rfl ?_
      refine xe_iadd (by decide +kernel) rfl ?_
      obtain ⟨M195, e196, h⟩ := xbnd h
      refine xs_p (i := 722) (c := 15) (k := 63) (by decide +kernel) (by decide +kernel) (by decide +kernel) e196 rfl ?_
      refine xe_alr (ins := .aload_n 1) (len := 1) (i := 1) (by decide +kernel) rfl rfl rfl rfl rfl ?_
      obtain ⟨_, e198, h⟩ := xbnd h
      obtain ⟨M199, e197, h⟩ := xbnd h
      refine xs_cv (i := 725) (j := 202) (ar := []) (rest := []) (r2 := xr_202) (by decide +kernel) (by decide +kernel) (by decide +kernel) xr_202_e rfl (by decide) (by decide) e198 ?_
      refine xc_v (k202 (d := d + 258)   e197) rfl ?_
      refine xe_iconst (n := -1) (by decide +kernel) rfl ?_
      cases h
      exact xe_ret_i (ty := .int) (by decide +kernel) rfl rfl ⟨rfl, rfl, (show xin (-1) by decide)⟩
  · rw [if_neg c152] at h
    refine xe_alr (ins := .aload_n 0) (len := 1) (i := 0) (by decide +kernel) rfl rfl rfl rfl rfl ?_
    refine xe_alr (ins := .aload_n 1) (len := 1) (i := 1) (by decide +kernel) rfl rfl rfl rfl rfl ?_
    refine xe_ldn (ins := .iload_n 3) (len := 1) (by decide +kernel) rfl rfl rfl rfl ?_
    obtain ⟨_, e202, h⟩ := xbnd h
    obtain ⟨M203, e201, h⟩ := xbnd h
    refine xs_cv (i := 718) (j := 301) (ar := [xI (x3), xR_ (x1)]) (rest := []) (r2 := xr_301) (by decide +kernel) (by decide +kernel) (by decide +kernel) xr_301_e rfl (by decide) (by decide) e202 ?_
    refine xc_v (k301 (d := d + 255)  hx3 e201) rfl ?_
    refine xe_iincr (i := 3) (n := 1) (by decide +kernel) (by decide) rfl (xk_k (show ¬ (0 : Nat) = 3 by decide) (Or.inl (show ¬ (0 + 1 : Nat) = 3 by decide)) (xk_k (show ¬ (1 : Nat) = 3 by decide) (Or.inl (show ¬ (1 + 1 : Nat) = 3 by decide)) (xk_k (show ¬ (2 : Nat) = 3 by decide) (Or.inr (xI_cat _)) (xk_d rfl xk_n)))) rfl ?_
    refine xe_goto (off := -17) (nx := 90) (by decide +kernel) (by decide) ?_
    refine xW_lv rfl (l := [(0, xR_ (x0)), (1, xR_ (x1)), (2, xI (x2)), (3, xI (xwr ((x3) + (1))))]) (xsb_of ⟨rfl, rfl, rfl, rfl, trivial⟩ (show [3, 0, 1, 2].Nodup by decide)) ?_
    exact hr90 hx2 (xin_wr _) h
def f298_90   (f : Nat) : Nat → Nat → Nat → Int → Int → xj_M → Option (Int × xj_M)
  | 0, _, _, _, _, _ => none
  | n + 1, x0, x1, x2, x3, M => f298_90b   (f298_90   f n) f x0 x1 x2 x3 M
theorem k298_90 {d f : Nat}     : ∀ {n : Nat} {x0 : Nat} {x1 : Nat} {x2 : Int} {x3 : Int} {M : xj_M} {R : Int × xj_M}, xin x2 → xin x3 → f298_90   f n x0 x1 x2 x3 M = some R → xW (d + 259) (none, d + 259, none) xr_298 (90, [(0, xR_ x0), (1, xR_ x1), (2, xI x2), (3, xI x3)], [], M) (xQi R) := by
  intro n
  induction n with
  | zero => intros; rename_i h; cases h
  | succ n ih => intros; rename_i h; exact k298_90b   ih (by assumption) (by assumption) h
def f298_88   (f : Nat) (x0 : Nat) (x1 : Nat) (x2 : Int) (M : xj_M) : Option (Int × xj_M) := f298_90   f f (x0) (x1) (x2) (0) M
theorem k298_88 {d f : Nat}     {x0 : Nat} {x1 : Nat} {x2 : Int} {M : xj_M} {R : Int × xj_M} (hx2 : xin x2) (h : f298_88   f x0 x1 x2 M = some R) : xW (d + 259) (none, d + 259, none) xr_298 (88, [(0, xR_ x0), (1, xR_ x1), (2, xI x2)], [], M) (xQi R) := by
  unfold f298_88 at h
  refine xe_iconst (n := 0) (by decide +kernel) rfl ?_
  refine xe_isr (ins := .istore_n 3) (len := 1) (i := 3) (by decide +kernel) rfl rfl rfl (by decide) (xk_k (show ¬ (0 : Nat) = 3 by decide) (Or.inl (show ¬ (0 + 1 : Nat) = 3 by decide)) (xk_k (show ¬ (1 : Nat) = 3 by decide) (Or.inl (show ¬ (1 + 1 : Nat) = 3 by decide)) (xk_k (show ¬ (2 : Nat) = 3 by decide) (Or.inr (xI_cat _)) xk_n))) rfl ?_
  refine xW_lv rfl (l := [(0, xR_ (x0)), (1, xR_ (x1)), (2, xI (x2)), (3, xI (0))]) (xsb_of ⟨rfl, rfl, rfl, rfl, trivial⟩ (show [3, 0, 1, 2].Nodup by decide)) ?_
  exact k298_90   hx2 (show xin (0) by decide) h
def f298_54   (f : Nat) (x0 : Nat) (x1 : Nat) (x2 : Int) (y0 : Int) (y1 : Nat) (y2 : Nat) (M : xj_M) : Option (Int × xj_M) := ((xq_is 15 (y2) M).bind fun _ => ((f295  f (y2) (y1) (y0) M).bind fun M207 => ((xq_gr 15 76 (x0) M207).bind fun v209 => ((xq_gr 13 0 (x1) M207).bind fun v211 => ((xq_is 12 (v209) M207).bind fun _ => ((f194  f (v209) (v211) M207).bind fun M215 => (if (x2) = 0 then ((xq_gr 13 0 (x1) M215).bind fun v218 => ((xq_is 15 (x0) M215).bind fun _ => ((f297  f (x0) (v218) M215).bind fun M222 => f298_88   f (x0) (x1) (x2) M222))) else ((xq_is 15 (x0) M215).bind fun _ => ((f299  f (x0) (x1) M215).bind fun M226 => f298_88   f (x0) (x1) (x2) M226)))))))))
theorem k298_54 {d f : Nat}     {x0 : Nat} {x1 : Nat} {x2 : Int} {y0 : Int} {y1 : Nat} {y2 : Nat} {M : xj_M} {R : Int × xj_M} (hx2 : xin x2) (hy0 : xin y0) (h : f298_54   f x0 x1 x2 y0 y1 y2 M = some R) : xW (d + 259) (none, d + 259, none) xr_298 (54, [(0, xR_ x0), (1, xR_ x1), (2, xI x2)], [xI y0, xR_ y1, xR_ y2], M) (xQi R) := by
  unfold f298_54 at h
  obtain ⟨_, e206, h⟩ := xbnd h
  obtain ⟨M207, e205, h⟩ := xbnd h
  refine xs_cv (i := 676) (j := 295) (ar := [xI (y0), xR_ (y1)]) (rest := []) (r2 := xr_295) (by decide +kernel) (by decide +kernel) (by decide +kernel) xr_295_e rfl (by decide) (by decide) e206 ?_
  refine xc_v (k295 (d := d + 147)  hy0 e205) rfl ?_
  refine xe_alr (ins := .aload_n 0) (len := 1) (i := 0) (by decide +kernel) rfl rfl rfl rfl rfl ?_
  obtain ⟨v209, e210, h⟩ := xbnd h
  refine xs_gr (i := 705) (c := 15) (k := 76) (by decide +kernel) (by decide) (by decide +kernel) e210 rfl ?_
  refine xe_alr (ins := .aload_n 1) (len := 1) (i := 1) (by decide +kernel) rfl rfl rfl rfl rfl ?_
  obtain ⟨v211, e212, h⟩ := xbnd h
  refine xs_gr (i := 679) (c := 13) (k := 0) (by decide +kernel) (by decide) (by decide +kernel) e212 rfl ?_
  obtain ⟨_, e214, h⟩ := xbnd h
  obtain ⟨M215, e213, h⟩ := xbnd h
  refine xs_cv (i := 708) (j := 194) (ar := [xR_ (v211)]) (rest := []) (r2 := xr_194) (by decide +kernel) (by decide +kernel) (by decide +kernel) xr_194_e rfl (by decide) (by decide) e214 ?_
  refine xc_v (k194 (d := d + 258)   e213) rfl ?_
  refine xe_ldn (ins := .iload_n 2) (len := 1) (by decide +kernel) rfl rfl rfl rfl ?_
  refine xe_ifeq (off := 11) (t := 80) (by decide +kernel) (by decide) rfl hx2 (fun c217 => ?_) (fun c217 => ?_)
  · rw [if_pos c217] at h
    refine xe_alr (ins := .aload_n 0) (len := 1) (i := 0) (by decide +kernel) rfl rfl rfl rfl rfl ?_
    refine xe_alr (ins := .aload_n 1) (len := 1) (i := 1) (by decide +kernel) rfl rfl rfl rfl rfl ?_
    obtain ⟨v218, e219, h⟩ := xbnd h
    refine xs_gr (i := 679) (c := 13) (k := 0) (by decide +kernel) (by decide) (by decide +kernel) e219 rfl ?_
    obtain ⟨_, e221, h⟩ := xbnd h
    obtain ⟨M222, e220, h⟩ := xbnd h
    refine xs_cv (i := 683) (j := 297) (ar := [xR_ (v218)]) (rest := []) (r2 := xr_297) (by decide +kernel) (by decide +kernel) (by decide +kernel) xr_297_e rfl (by decide) (by decide) e221 ?_
    refine xc_v (k297 (d := d + 255)   e220) rfl ?_
    refine xW_lv rfl (l := [(0, xR_ (x0)), (1, xR_ (x1)), (2, xI (x2))]) (xsb_of ⟨rfl, rfl, rfl, trivial⟩ (show [0, 1, 2].Nodup by decide)) ?_
    exact k298_88   hx2 h
  · rw [if_neg c217] at h
    refine xe_alr (ins := .aload_n 0) (len := 1) (i := 0) (by decide +kernel) rfl rfl rfl rfl rfl ?_
    refine xe_alr (ins := .aload_n 1) (len := 1) (i := 1) (by decide +kernel) rfl rfl rfl rfl rfl ?_
    obtain ⟨_, e225, h⟩ := xbnd h
    obtain ⟨M226, e224, h⟩ := xbnd h
    refine xs_cv (i := 711) (j := 299) (ar := [xR_ (x1)]) (rest := []) (r2 := xr_299) (by decide +kernel) (by decide +kernel) (by decide +kernel) xr_299_e rfl (by decide) (by decide) e225 ?_
    refine xc_v (k299 (d := d + 146)   e224) rfl ?_
    refine xe_goto (off := 11) (nx := 88) (by decide +kernel) (by decide) ?_
    refine xW_lv rfl (l := [(0, xR_ (x0)), (1, xR_ (x1)), (2, xI (x2))]) (xsb_of ⟨rfl, rfl, rfl, trivial⟩ (show [0, 1, 2].Nodup by decide)) ?_
    exact k298_88   hx2 h
def f298_28   (f : Nat) (x0 : Nat) (x1 : Nat) (y0 : Int) (M : xj_M) : Option (Int × xj_M) := ((xq_pi 15 65 (x0) (-1) M).bind fun M228 => ((xq_gr 15 29 (x0) M228).bind fun v230 => (if (y0) = 0 then ((xq_gi 13 1 (x1) M228).bind fun v233 => f298_54   f (x0) (x1) (y0) (v233) (v230) (x0) M228) else ((xq_gi 13 34 (x1) M228).bind fun v235 => f298_54   f (x0) (x1) (y0) (v235) (v230) (x0) M228))))
theorem k298_28 {d f : Nat}     {x0 : Nat} {x1 : Nat} {y0 : Int} {M : xj_M} {R : Int × xj_M} (hy0 : xin y0) (h : f298_28   f x0 x1 y0 M = some R) : xW (d + 259) (none, d + 259, none) xr_298 (28, [(0, xR_ x0), (1, xR_ x1)], [xI y0], M) (xQi R) := by
  unfold f298_28 at h
  refine xe_isr (ins := .istore_n 2) (len := 1) (i := 2) (by decide +kernel) rfl rfl rfl (by decide) (xk_k (show ¬ (0 : Nat) = 2 by decide) (Or.inl (show ¬ (0 + 1 : Nat) = 2 by decide)) (xk_k (show ¬ (1 : Nat) = 2 by decide) (Or.inr (xR_cat _)) xk_n)) rfl ?_
  refine xe_alr (ins := .aload_n 0) (len := 1) (i := 0) (by decide +kernel) rfl rfl rfl rfl rfl ?_
  refine xe_iconst (n := -1) (by decide +kernel) rfl ?_
  obtain ⟨M228, e229, h⟩ := xbnd h
  refine xs_p (i := 655) (c := 15) (k := 65) (by decide +kernel) (by decide +kernel) (by decide +kernel) e229 rfl ?_
  refine xe_alr (ins := .aload_n 0) (len := 1) (i := 0) (by decide +kernel) rfl rfl rfl rfl rfl ?_
  refine xe_alr (ins := .aload_n 0) (len := 1) (i := 0) (by decide +kernel) rfl rfl rfl rfl rfl ?_
  obtain ⟨v230, e231, h⟩ := xbnd h
  refine xs_gr (i := 439) (c := 15) (k := 29) (by decide +kernel) (by decide) (by decide +kernel) e231 rfl ?_
  refine xe_ldn (ins := .iload_n 2) (len := 1) (by decide +kernel) rfl rfl rfl rfl ?_
  refine xe_ifeq (off := 10) (t := 50) (by decide +kernel) (by decide) rfl hy0 (fun c232 => ?_) (fun c232 => ?_)
  · rw [if_pos c232] at h
    refine xe_alr (ins := .aload_n 1) (len := 1) (i := 1) (by decide +kernel) rfl rfl rfl rfl rfl ?_
    obtain ⟨v233, e234, h⟩ := xbnd h
    refine xs_gi (i := 671) (c := 13) (k := 1) (by decide +kernel) (by decide) (by decide +kernel) e234 rfl ?_
    refine xW_lv rfl (l := [(0, xR_ (x0)), (1, xR_ (x1)), (2, xI (y0))]) (xsb_of ⟨rfl, rfl, rfl, trivial⟩ (show [2, 0, 1].Nodup by decide)) ?_
    exact k298_54   hy0 (xq_gi_in e234) h
  · rw [if_neg c232] at h
    refine xe_alr (ins := .aload_n 1) (len := 1) (i := 1) (by decide +kernel) rfl rfl rfl rfl rfl ?_
    obtain ⟨v235, e236, h⟩ := xbnd h
    refine xs_gi (i := 702) (c := 13) (k := 34) (by decide +kernel) (by decide) (by decide +kernel) e236 rfl ?_
    refine xe_goto (off := 7) (nx := 54) (by decide +kernel) (by decide) ?_
    refine xW_lv rfl (l := [(0, xR_ (x0)), (1, xR_ (x1)), (2, xI (y0))]) (xsb_of ⟨rfl, rfl, rfl, trivial⟩ (show [2, 0, 1].Nodup by decide)) ?_
    exact k298_54   hy0 (xq_gi_in e236) h
def f298  (f : Nat) (a0 : Nat) (M : xj_M) : Option (Int × xj_M) := ((xq_pi 15 74 (a0) (0) M).bind fun M237 => ((xq_gr 15 61 (a0) M237).bind fun v239 => ((xq_gi 15 62 (a0) M237).bind fun v241 => ((xq_ar (v239) (v241) M237).bind fun v243 => ((xq_gi 13 34 (v243) M237).bind fun v245 => (if (v245) = (-1) then f298_28   f (a0) (v243) (0) M237 else f298_28   f (a0) (v243) (1) M237))))))
theorem k298 {d f : Nat}   {a0 : Nat} {M : xj_M} {R : Int × xj_M}  (h : f298  f a0 M = some R) : xT (d + 260) 298 [xR_ a0] M (xQi R) := by
  refine xT_m xr_298_e (X := (none, d + 259, none)) rfl (xa_1 (xR_cat _) xa_n) (by decide) ?_
  unfold f298 at h
  refine xe_alr (ins := .aload_n 0) (len := 1) (i := 0) (by decide +kernel) rfl rfl rfl rfl rfl ?_
  refine xe_iconst (n := 0) (by decide +kernel) rfl ?_
  obtain ⟨M237, e238, h⟩ := xbnd h
  refine xs_p (i := 699) (c := 15) (k := 74) (by decide +kernel) (by decide +kernel) (by decide +kernel) e238 rfl ?_
  refine xe_alr (ins := .aload_n 0) (len := 1) (i := 0) (by decide +kernel) rfl rfl rfl rfl rfl ?_
  obtain ⟨v239, e240, h⟩ := xbnd h
  refine xs_gr (i := 667) (c := 15) (k := 61) (by decide +kernel) (by decide) (by decide +kernel) e240 rfl ?_
  refine xe_alr (ins := .aload_n 0) (len := 1) (i := 0) (by decide +kernel) rfl rfl rfl rfl rfl ?_
  obtain ⟨v241, e242, h⟩ := xbnd h
  refine xs_gi (i := 664) (c := 15) (k := 62) (by decide +kernel) (by decide) (by decide +kernel) e242 rfl ?_
  obtain ⟨v243, e244, h⟩ := xbnd h
  refine xs_aald (by decide +kernel) (xq_gi_in e242) e244 rfl ?_
  refine xe_asr (ins := .astore_n 1) (len := 1) (i := 1) (by decide +kernel) rfl rfl rfl (by decide) (xk_k (show ¬ (0 : Nat) = 1 by decide) (Or.inr (xR_cat _)) xk_n) rfl ?_
  refine xe_alr (ins := .aload_n 1) (len := 1) (i := 1) (by decide +kernel) rfl rfl rfl rfl rfl ?_
  obtain ⟨v245, e246, h⟩ := xbnd h
  refine xs_gi (i := 702) (c := 13) (k := 34) (by decide +kernel) (by decide) (by decide +kernel) e246 rfl ?_
  refine xe_iconst (n := -1) (by decide +kernel) rfl ?_
  refine xe_icmpeq (off := 7) (t := 27) (by decide +kernel) (by decide) rfl (xq_gi_in e246) (show xin (-1) by decide) (fun c247 => ?_) (fun c247 => ?_)
  · rw [if_pos c247] at h
    refine xe_iconst (n := 0) (by decide +kernel) rfl ?_
    refine xW_lv rfl (l := [(0, xR_ (a0)), (1, xR_ (v243))]) (xsb_of ⟨rfl, rfl, trivial⟩ (show [1, 0].Nodup by decide)) ?_
    exact k298_28   (show xin (0) by decide) h
  · rw [if_neg c247] at h
    refine xe_iconst (n := 1) (by decide +kernel) rfl ?_
    refine xe_goto (off := 4) (nx := 28) (by decide +kernel) (by decide) ?_
    refine xW_lv rfl (l := [(0, xR_ (a0)), (1, xR_ (v243))]) (xsb_of ⟨rfl, rfl, trivial⟩ (show [1, 0].Nodup by decide)) ?_
    exact k298_28   (show xin (1) by decide) h
