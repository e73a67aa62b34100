/-! Mirrors (written by mk_mir.py) -/
-- ChangeHouse$Reader.readExpression
def xr_53 : xj_mR := (4, yX4_readExpression, cX4_readExpression, 5, (Option.none : Option Jvm.ClassFile.FieldType), 1, false, (5, 64), (1, 3))
set_option maxRecDepth 20000 in
theorem xr_53_e : xj_row 53 = some xr_53 := rfl
def f53_202  (r9 : Nat → Int → Int → Int → xj_M → Option ((Nat ⊕ Unit) × xj_M)) (f : Nat) (x0 : Nat) (x1 : Int) (x2 : Int) (x3 : Int) (M : xj_M) : Option ((Nat ⊕ Unit) × xj_M) := r9 (x0) (x1) (x2) (xwr ((x3) + (1))) M
theorem k53_202 {d f : Nat}  {r9 : Nat → Int → Int → Int → xj_M → Option ((Nat ⊕ Unit) × xj_M)}  (hr9 : ∀ {x0 : Nat} {x1 : Int} {x2 : Int} {x3 : Int} {M : xj_M} {R : (Nat ⊕ Unit) × xj_M}, xin x1 → xin x2 → xin x3 → r9 x0 x1 x2 x3 M = some R → xW (d + 8) (none, d + 8, none) xr_53 (9, [(0, xR_ x0), (1, xI x1), (2, xI x2), (3, xI x3)], [], M) (xQtv R)) {x0 : Nat} {x1 : Int} {x2 : Int} {x3 : Int} {M : xj_M} {R : (Nat ⊕ Unit) × xj_M} (hx1 : xin x1) (hx2 : xin x2) (hx3 : xin x3) (h : f53_202  r9 f x0 x1 x2 x3 M = some R) : xW (d + 8) (none, d + 8, none) xr_53 (202, [(0, xR_ x0), (1, xI x1), (2, xI x2), (3, xI x3)], [], M) (xQtv R) := by
  unfold f53_202 at h
  refine xe_iincr (i := 3) (n := 1) (by decide +kernel) (by decide) rfl (xk_k (show ¬ (0 : Nat) = 3 by decide) (Or.inl (show ¬ (0 + 1 : Nat) = 3 by decide)) (xk_k (show ¬ (1 : Nat) = 3 by decide) (Or.inl (show ¬ (1 + 1 : Nat) = 3 by decide)) (xk_k (show ¬ (2 : Nat) = 3 by decide) (Or.inr (xI_cat _)) (xk_d rfl xk_n)))) rfl ?_
  refine xe_goto (off := -196) (nx := 9) (by decide +kernel) (by decide) ?_
  refine xW_lv rfl (l := [(0, xR_ (x0)), (1, xI (x1)), (2, xI (x2)), (3, xI (xwr ((x3) + (1))))]) (xsb_of ⟨rfl, rfl, rfl, rfl, trivial⟩ (show [3, 0, 1, 2].Nodup by decide)) ?_
  exact hr9 hx1 hx2 (xin_wr _) h
def f53_59  (r9 : Nat → Int → Int → Int → xj_M → Option ((Nat ⊕ Unit) × xj_M)) (f : Nat) (x0 : Nat) (x1 : Int) (x2 : Int) (x3 : Int) (x4 : Int) (M : xj_M) : Option ((Nat ⊕ Unit) × xj_M) := ((xq_is 4 (x0) M).bind fun _ => ((f60 f (x0) (x4) M).bind fun R103 => xth R103 (fun _ => f53_202  r9 f (x0) (x1) (x2) (x3) R103.2)))
theorem k53_59 {d f : Nat}  {r9 : Nat → Int → Int → Int → xj_M → Option ((Nat ⊕ Unit) × xj_M)}  (hr9 : ∀ {x0 : Nat} {x1 : Int} {x2 : Int} {x3 : Int} {M : xj_M} {R : (Nat ⊕ Unit) × xj_M}, xin x1 → xin x2 → xin x3 → r9 x0 x1 x2 x3 M = some R → xW (d + 8) (none, d + 8, none) xr_53 (9, [(0, xR_ x0), (1, xI x1), (2, xI x2), (3, xI x3)], [], M) (xQtv R)) {x0 : Nat} {x1 : Int} {x2 : Int} {x3 : Int} {x4 : Int} {M : xj_M} {R : (Nat ⊕ Unit) × xj_M} (hx1 : xin x1) (hx2 : xin x2) (hx3 : xin x3) (hx4 : xin x4) (h : f53_59  r9 f x0 x1 x2 x3 x4 M = some R) : xW (d + 8) (none, d + 8, none) xr_53 (59, [(0, xR_ x0), (1, xI x1), (2, xI x2), (3, xI x3), (4, xI x4)], [], M) (xQtv R) := by
  unfold f53_59 at h
  refine xe_alr (ins := .aload_n 0) (len := 1) (i := 0) (by decide +kernel) rfl rfl rfl rfl rfl ?_
  refine xe_ldn (ins := .iload 4) (len := 2) (by decide +kernel) rfl rfl rfl rfl ?_
  obtain ⟨_, e102, h⟩ := xbnd h
  obtain ⟨R103, e101, h⟩ := xbnd h
  refine xs2_cv (kd := 0) (jj := 60) (by decide) (i := 280) (j := 60) (ar := [xI (x4)]) (rest := []) (r2 := xr_60) (by decide +kernel) (by decide +kernel) (by decide +kernel) xr_60_e rfl (by decide) (by decide) e102 ?_
  refine xct_v (k60 (d := d + 1) hx4 e101) rfl (fun e1 g105 => ?_) (fun g105 => ?_)
  · rw [xth_l g105] at h; cases h; exact xK_thr rfl ⟨rfl, rfl⟩
  · rw [xth_r g105] at h
    refine xe_goto (off := 137) (nx := 202) (by decide +kernel) (by decide) ?_
    refine xW_lv rfl (l := [(0, xR_ (x0)), (1, xI (x1)), (2, xI (x2)), (3, xI (x3))]) (xsb_of ⟨rfl, rfl, rfl, rfl, trivial⟩ (show [0, 1, 2, 3, 4].Nodup by decide)) ?_
    exact k53_202  hr9 hx1 hx2 hx3 h
def f53_139  (r9 : Nat → Int → Int → Int → xj_M → Option ((Nat ⊕ Unit) × xj_M)) (f : Nat) (x0 : Nat) (x1 : Int) (x3 : Int) (M : xj_M) : Option ((Nat ⊕ Unit) × xj_M) := f53_202  r9 f (x0) (x1) (0) (x3) M
theorem k53_139 {d f : Nat}  {r9 : Nat → Int → Int → Int → xj_M → Option ((Nat ⊕ Unit) × xj_M)}  (hr9 : ∀ {x0 : Nat} {x1 : Int} {x2 : Int} {x3 : Int} {M : xj_M} {R : (Nat ⊕ Unit) × xj_M}, xin x1 → xin x2 → xin x3 → r9 x0 x1 x2 x3 M = some R → xW (d + 8) (none, d + 8, none) xr_53 (9, [(0, xR_ x0), (1, xI x1), (2, xI x2), (3, xI x3)], [], M) (xQtv R)) {x0 : Nat} {x1 : Int} {x3 : Int} {M : xj_M} {R : (Nat ⊕ Unit) × xj_M} (hx1 : xin x1) (hx3 : xin x3) (h : f53_139  r9 f x0 x1 x3 M = some R) : xW (d + 8) (none, d + 8, none) xr_53 (139, [(0, xR_ x0), (1, xI x1), (3, xI x3)], [], M) (xQtv R) := by
  unfold f53_139 at h
  refine xe_iconst (n := 0) (by decide +kernel) rfl ?_
  refine xe_isr (ins := .istore_n 2) (len := 1) (i := 2) (by decide +kernel) rfl rfl rfl (by decide) (xk_k (show ¬ (0 : Nat) = 2 by decide) (Or.inl (show ¬ (0 + 1 : Nat) = 2 by decide)) (xk_k (show ¬ (1 : Nat) = 2 by decide) (Or.inr (xI_cat _)) (xk_k (show ¬ (3 : Nat) = 2 by decide) (Or.inl (show ¬ (3 + 1 : Nat) = 2 by decide)) xk_n))) rfl ?_
  refine xe_goto (off := 61) (nx := 202) (by decide +kernel) (by decide) ?_
  refine xW_lv rfl (l := [(0, xR_ (x0)), (1, xI (x1)), (2, xI (0)), (3, xI (x3))]) (xsb_of ⟨rfl, rfl, rfl, rfl, trivial⟩ (show [2, 0, 1, 3].Nodup by decide)) ?_
  exact k53_202  hr9 hx1 (show xin (0) by decide) hx3 h
def f53_124  (r9 : Nat → Int → Int → Int → xj_M → Option ((Nat ⊕ Unit) × xj_M)) (f : Nat) (x0 : Nat) (x1 : Int) (x3 : Int) (y0 : Int) (y1 : Int) (y2 : Nat) (M : xj_M) : Option ((Nat ⊕ Unit) × xj_M) := ((xq_is 4 (y2) M).bind fun _ => ((f56  f (y2) (y1) (y0) M).bind fun M109 => f53_139  r9 f (x0) (x1) (x3) M109))
theorem k53_124 {d f : Nat}  {r9 : Nat → Int → Int → Int → xj_M → Option ((Nat ⊕ Unit) × xj_M)}  (hr9 : ∀ {x0 : Nat} {x1 : Int} {x2 : Int} {x3 : Int} {M : xj_M} {R : (Nat ⊕ Unit) × xj_M}, xin x1 → xin x2 → xin x3 → r9 x0 x1 x2 x3 M = some R → xW (d + 8) (none, d + 8, none) xr_53 (9, [(0, xR_ x0), (1, xI x1), (2, xI x2), (3, xI x3)], [], M) (xQtv R)) {x0 : Nat} {x1 : Int} {x3 : Int} {y0 : Int} {y1 : Int} {y2 : Nat} {M : xj_M} {R : (Nat ⊕ Unit) × xj_M} (hx1 : xin x1) (hx3 : xin x3) (hy0 : xiN y0) (hy1 : xin y1) (h : f53_124  r9 f x0 x1 x3 y0 y1 y2 M = some R) : xW (d + 8) (none, d + 8, none) xr_53 (124, [(0, xR_ x0), (1, xI x1), (3, xI x3)], [xZ y0, xI y1, xR_ y2], M) (xQtv R) := by
  unfold f53_124 at h
  obtain ⟨_, e108, h⟩ := xbnd h
  obtain ⟨M109, e107, h⟩ := xbnd h
  refine xs_cv (i := 286) (j := 56) (ar := [xZ (y0), xI (y1)]) (rest := []) (r2 := xr_56) (by decide +kernel) (by decide +kernel) (by decide +kernel) xr_56_e rfl (by decide) (by decide) e108 ?_
  refine xc_v (k56 (d := d + 7)  hy1 hy0 e107) rfl ?_
  refine xe_goto (off := 12) (nx := 139) (by decide +kernel) (by decide) ?_
  refine xW_lv rfl (l := [(0, xR_ (x0)), (1, xI (x1)), (3, xI (x3))]) (xsb_of ⟨rfl, rfl, rfl, trivial⟩ (show [0, 1, 3].Nodup by decide)) ?_
  exact k53_139  hr9 hx1 hx3 h
def f53_99  (r9 : Nat → Int → Int → Int → xj_M → Option ((Nat ⊕ Unit) × xj_M)) (f : Nat) (x0 : Nat) (x1 : Int) (x3 : Int) (x4 : Int) (M : xj_M) : Option ((Nat ⊕ Unit) × xj_M) := (if ¬ (x4) = (2) then ((xq_is 4 (x0) M).bind fun _ => ((f51 f (x0) M).bind fun R114 => xth R114 (fun v115 => ((xq_is 4 (x0) R114.2).bind fun _ => ((f56  f (x0) (1) (v115) R114.2).bind fun M120 => f53_139  r9 f (x0) (x1) (x3) M120))))) else (if (x1) = 0 then ((xq_is 4 (x0) M).bind fun _ => ((f49 f (x0) M).bind fun R125 => xth R125 (fun v126 => f53_124  r9 f (x0) (x1) (x3) (v126) (2) (x0) R125.2))) else ((xq_is 4 (x0) M).bind fun _ => ((f52 f (x0) M).bind fun R131 => xth R131 (fun v132 => f53_124  r9 f (x0) (x1) (x3) (v132) (2) (x0) R131.2)))))
theorem k53_99 {d f : Nat}  {r9 : Nat → Int → Int → Int → xj_M → Option ((Nat ⊕ Unit) × xj_M)}  (hr9 : ∀ {x0 : Nat} {x1 : Int} {x2 : Int} {x3 : Int} {M : xj_M} {R : (Nat ⊕ Unit) × xj_M}, xin x1 → xin x2 → xin x3 → r9 x0 x1 x2 x3 M = some R → xW (d + 8) (none, d + 8, none) xr_53 (9, [(0, xR_ x0), (1, xI x1), (2, xI x2), (3, xI x3)], [], M) (xQtv R)) {x0 : Nat} {x1 : Int} {x3 : Int} {x4 : Int} {M : xj_M} {R : (Nat ⊕ Unit) × xj_M} (hx1 : xin x1) (hx3 : xin x3) (hx4 : xin x4) (h : f53_99  r9 f x0 x1 x3 x4 M = some R) : xW (d + 8) (none, d + 8, none) xr_53 (99, [(0, xR_ x0), (1, xI x1), (3, xI x3), (4, xI x4)], [], M) (xQtv R) := by
  unfold f53_99 at h
  refine xe_ldn (ins := .iload 4) (len := 2) (by decide +kernel) rfl rfl rfl rfl ?_
  refine xe_iconst (n := 2) (by decide +kernel) rfl ?_
  refine xe_icmpne (off := 28) (t := 130) (by decide +kernel) (by decide) rfl hx4 (show xin (2) by decide) (fun c111 => ?_) (fun c111 => ?_)
  · rw [if_pos c111] at h
    refine xe_alr (ins := .aload_n 0) (len := 1) (i := 0) (by decide +kernel) rfl rfl rfl rfl rfl ?_
    refine xe_iconst (n := 1) (by decide +kernel) rfl ?_
    refine xe_alr (ins := .aload_n 0) (len := 1) (i := 0) (by decide +kernel) rfl rfl rfl rfl rfl ?_
    obtain ⟨_, e113, h⟩ := xbnd h
    obtain ⟨R114, e112, h⟩ := xbnd h
    refine xs2_cv (kd := 0) (jj := 51) (by decide) (i := 107) (j := 51) (ar := []) (rest := [xI (1), xR_ (x0)]) (r2 := xr_51) (by decide +kernel) (by decide +kernel) (by decide +kernel) xr_51_e rfl (by decide) (by simp only [List.map_cons, List.map_nil, List.sum_cons, List.sum_nil, xR_cat, xI_cat, xZ_cat]; decide) e113 ?_
    refine xct_l (k51 (d := d + 1)  e112) rfl (fun e1 g116 => ?_) (fun v115 g116 hi117 => ?_)
    · rw [xth_l g116] at h; cases h; exact xK_thr rfl ⟨rfl, rfl⟩
    · rw [xth_r g116] at h
      obtain ⟨_, e119, h⟩ := xbnd h
      obtain ⟨M120, e118, h⟩ := xbnd h
      refine xs_cv (i := 286) (j := 56) (ar := [xZ (v115), xI (1)]) (rest := []) (r2 := xr_56) (by decide +kernel) (by decide +kernel) (by decide +kernel) xr_56_e rfl (by decide) (by decide) e119 ?_
      refine xc_v (k56 (d := d + 7)  (show xin (1) by decide) hi117 e118) rfl ?_
      refine xW_lv rfl (l := [(0, xR_ (x0)), (1, xI (x1)), (3, xI (x3))]) (xsb_of ⟨rfl, rfl, rfl, trivial⟩ (show [0, 1, 3, 4].Nodup by decide)) ?_
      exact k53_139  hr9 hx1 hx3 h
  · rw [if_neg c111] at h
    refine xe_alr (ins := .aload_n 0) (len := 1) (i := 0) (by decide +kernel) rfl rfl rfl rfl rfl ?_
    refine xe_iconst (n := 2) (by decide +kernel) rfl ?_
    refine xe_ldn (ins := .iload_n 1) (len := 1) (by decide +kernel) rfl rfl rfl rfl ?_
    refine xe_ifeq (off := 11) (t := 119) (by decide +kernel) (by decide) rfl hx1 (fun c122 => ?_) (fun c122 => ?_)
    · rw [if_pos c122] at h
      refine xe_alr (ins := .aload_n 0) (len := 1) (i := 0) (by decide +kernel) rfl rfl rfl rfl rfl ?_
      obtain ⟨_, e124, h⟩ := xbnd h
      obtain ⟨R125, e123, h⟩ := xbnd h
      refine xs2_cv (kd := 0) (jj := 49) (by decide) (i := 219) (j := 49) (ar := []) (rest := [xI (2), xR_ (x0)]) (r2 := xr_49) (by decide +kernel) (by decide +kernel) (by decide +kernel) xr_49_e rfl (by decide) (by simp only [List.map_cons, List.map_nil, List.sum_cons, List.sum_nil, xR_cat, xI_cat, xZ_cat]; decide) e124 ?_
      refine xct_i (k49 (d := d + 1)  e123) rfl (fun e1 g127 => ?_) (fun v126 g127 hi128 => ?_)
      · rw [xth_l g127] at h; cases h; exact xK_thr rfl ⟨rfl, rfl⟩
      · rw [xth_r g127] at h
        refine xe_i2l (by decide +kernel) rfl hi128 ?_
        refine xW_lv rfl (l := [(0, xR_ (x0)), (1, xI (x1)), (3, xI (x3))]) (xsb_of ⟨rfl, rfl, rfl, trivial⟩ (show [0, 1, 3, 4].Nodup by decide)) ?_
        exact k53_124  hr9 hx1 hx3 (xin_N hi128) (show xin (2) by decide) h
    · rw [if_neg c122] at h
      refine xe_alr (ins := .aload_n 0) (len := 1) (i := 0) (by decide +kernel) rfl rfl rfl rfl rfl ?_
      obtain ⟨_, e130, h⟩ := xbnd h
      obtain ⟨R131, e129, h⟩ := xbnd h
      refine xs2_cv (kd := 0) (jj := 52) (by decide) (i := 121) (j := 52) (ar := []) (rest := [xI (2), xR_ (x0)]) (r2 := xr_52) (by decide +kernel) (by decide +kernel) (by decide +kernel) xr_52_e rfl (by decide) (by simp only [List.map_cons, List.map_nil, List.sum_cons, List.sum_nil, xR_cat, xI_cat, xZ_cat]; decide) e130 ?_
      refine xct_i (k52 (d := d + 1)  e129) rfl (fun e1 g133 => ?_) (fun v132 g133 hi134 => ?_)
      · rw [xth_l g133] at h; cases h; exact xK_thr rfl ⟨rfl, rfl⟩
      · rw [xth_r g133] at h
        refine xe_i2l (by decide +kernel) rfl hi134 ?_
        refine xe_goto (off := 8) (nx := 124) (by decide +kernel) (by decide) ?_
        refine xW_lv rfl (l := [(0, xR_ (x0)), (1, xI (x1)), (3, xI (x3))]) (xsb_of ⟨rfl, rfl, rfl, trivial⟩ (show [0, 1, 3, 4].Nodup by decide)) ?_
        exact k53_124  hr9 hx1 hx3 (xin_N hi134) (show xin (2) by decide) h
def f53_208   (f : Nat)  (M : xj_M) : Option ((Nat ⊕ Unit) × xj_M) := (some (.inr (), M))
theorem k53_208 {d f : Nat}      {M : xj_M} {R : (Nat ⊕ Unit) × xj_M}  (h : f53_208   f  M = some R) : xW (d + 8) (none, d + 8, none) xr_53 (208, [], [], M) (xQtv R) := by
  unfold f53_208 at h
  cases h
  exact xe_ret_v (by decide +kernel) rfl ⟨rfl, rfl⟩
def f53_68  (r9 : Nat → Int → Int → Int → xj_M → Option ((Nat ⊕ Unit) × xj_M)) (f : Nat) (x0 : Nat) (x1 : Int) (x2 : Int) (x3 : Int) (x4 : Int) (M : xj_M) : Option ((Nat ⊕ Unit) × xj_M) := (if (x2) = 0 then ((f55  f (x4) M).bind fun R137 => (if (R137.1) ≤ 0 then ((xq_is 4 (x0) R137.2).bind fun _ => ((f59  f (x0) (1) R137.2).bind fun M142 => ((xq_gi 4 12 (x0) M142).bind fun v144 => (if ¬ (v144) = 0 then ((xq_is 4 (x0) M142).bind fun _ => ((f61 f (x0) (x4) M142).bind fun R149 => xth R149 (fun v150 => ((xq_is 4 (x0) R149.2).bind fun _ => ((f37  f (x0) R149.2).bind fun M155 => f53_202  r9 f (x0) (x1) (v150) (x3) M155))))) else f53_208   f  M142)))) else ((f55  f (x4) R137.2).bind fun R158 => ((xq_is 4 (x0) R158.2).bind fun _ => ((f59  f (x0) (R158.1) R158.2).bind fun M162 => ((xq_is 4 (x0) M162).bind fun _ => ((f57  f (x0) (x4) M162).bind fun M166 => ((xq_is 4 (x0) M166).bind fun _ => ((f37  f (x0) M166).bind fun M170 => f53_202  r9 f (x0) (x1) (1) (x3) M170))))))))) else (if (x1) = 0 then f53_99  r9 f (x0) (x1) (x3) (x4) M else (if (x4) < (10) then f53_99  r9 f (x0) (x1) (x3) (x4) M else (if (13) < (x4) then f53_99  r9 f (x0) (x1) (x3) (x4) M else ((xq_is 4 (x0) M).bind fun _ => ((f54 f (x0) (x4) M).bind fun R177 => xth R177 (fun _ => f53_139  r9 f (x0) (x1) (x3) R177.2)))))))
theorem k53_68 {d f : Nat}  {r9 : Nat → Int → Int → Int → xj_M → Option ((Nat ⊕ Unit) × xj_M)}  (hr9 : ∀ {x0 : Nat} {x1 : Int} {x2 : Int} {x3 : Int} {M : xj_M} {R : (Nat ⊕ Unit) × xj_M}, xin x1 → xin x2 → xin x3 → r9 x0 x1 x2 x3 M = some R → xW (d + 8) (none, d + 8, none) xr_53 (9, [(0, xR_ x0), (1, xI x1), (2, xI x2), (3, xI x3)], [], M) (xQtv R)) {x0 : Nat} {x1 : Int} {x2 : Int} {x3 : Int} {x4 : Int} {M : xj_M} {R : (Nat ⊕ Unit) × xj_M} (hx1 : xin x1) (hx2 : xin x2) (hx3 : xin x3) (hx4 : xin x4) (h : f53_68  r9 f x0 x1 x2 x3 x4 M = some R) : xW (d + 8) (none, d + 8, none) xr_53 (68, [(0, xR_ x0), (1, xI x1), (2, xI x2), (3, xI x3), (4, xI x4)], [], M) (xQtv R) := by
  unfold f53_68 at h
  refine xe_ldn (ins := .iload_n 2) (len := 1) (by decide +kernel) rfl rfl rfl rfl ?_
  refine xe_ifeq (off := 75) (t := 144) (by decide +kernel) (by decide) rfl hx2 (fun c135 => ?_) (fun c135 => ?_)
  · rw [if_pos c135] at h
    refine xe_ldn (ins := .iload 4) (len := 2) (by decide +kernel) rfl rfl rfl rfl ?_
    obtain ⟨R137, e136, h⟩ := xbnd h
    refine xs_cs (kd := 2) (by decide) (i := 290) (j := 55) (ar := [xI (x4)]) (rest := []) (r2 := xr_55) (by decide +kernel) (by decide +kernel) (by decide +kernel) xr_55_e rfl (by decide) ?_
    refine xc_i (k55 (d := d + 7)  hx4 e136) rfl (fun hi138 => ?_)
    refine xe_ifle (off := 27) (t := 176) (by decide +kernel) (by decide) rfl hi138 (fun c139 => ?_) (fun c139 => ?_)
    · rw [if_pos c139] at h
      refine xe_alr (ins := .aload_n 0) (len := 1) (i := 0) (by decide +kernel) rfl rfl rfl rfl rfl ?_
      refine xe_iconst (n := 1) (by decide +kernel) rfl ?_
      obtain ⟨_, e141, h⟩ := xbnd h
      obtain ⟨M142, e140, h⟩ := xbnd h
      refine xs_cv (i := 293) (j := 59) (ar := [xI (1)]) (rest := []) (r2 := xr_59) (by decide +kernel) (by decide +kernel) (by decide +kernel) xr_59_e rfl (by decide) (by decide) e141 ?_
      refine xc_v (k59 (d := d + 6)  (show xin (1) by decide) e140) rfl ?_
      refine xe_alr (ins := .aload_n 0) (len := 1) (i := 0) (by decide +kernel) rfl rfl rfl rfl rfl ?_
      obtain ⟨v144, e145, h⟩ := xbnd h
      refine xs_gi (i := 274) (c := 4) (k := 12) (by decide +kernel) (by decide) (by decide +kernel) e145 rfl ?_
      refine xe_ifne (off := 6) (t := 191) (by decide +kernel) (by decide) rfl (xq_gi_in e145) (fun c146 => ?_) (fun c146 => ?_)
      · rw [if_pos c146] at h
        refine xe_alr (ins := .aload_n 0) (len := 1) (i := 0) (by decide +kernel) rfl rfl rfl rfl rfl ?_
        refine xe_ldn (ins := .iload 4) (len := 2) (by decide +kernel) rfl rfl rfl rfl ?_
        obtain ⟨_, e148, h⟩ := xbnd h
        obtain ⟨R149, e147, h⟩ := xbnd h
        refine xs2_cv (kd := 0) (jj := 61) (by decide) (i := 299) (j := 61) (ar := [xI (x4)]) (rest := []) (r2 := xr_61) (by decide +kernel) (by decide +kernel) (by decide +kernel) xr_61_e rfl (by decide) (by decide) e148 ?_
        refine xct_i (k61 (d := d + 1) hx4 e147) rfl (fun e1 g151 => ?_) (fun v150 g151 hi152 => ?_)
        · rw [xth_l g151] at h; cases h; exact xK_thr rfl ⟨rfl, rfl⟩
        · rw [xth_r g151] at h
          refine xe_isr (ins := .istore_n 2) (len := 1) (i := 2) (by decide +kernel) rfl rfl rfl (by decide) (xk_k (show ¬ (0 : Nat) = 2 by decide) (Or.inl (show ¬ (0 + 1 : Nat) = 2 by decide)) (xk_k (show ¬ (1 : Nat) = 2 by decide) (Or.inr (xI_cat _)) (xk_d rfl (xk_k (show ¬ (3 : Nat) = 2 by decide) (Or.inl (show ¬ (3 + 1 : Nat) = 2 by decide)) (xk_k (show ¬ (4 : Nat) = 2 by decide) (Or.inl (show ¬ (4 + 1 : Nat) = 2 by decide)) xk_n))))) rfl ?_
          refine xe_alr (ins := .aload_n 0) (len := 1) (i := 0) (by decide +kernel) rfl rfl rfl rfl rfl ?_
          obtain ⟨_, e154, h⟩ := xbnd h
          obtain ⟨M155, e153, h⟩ := xbnd h
          refine xs_cv (i := 73) (j := 37) (ar := []) (rest := []) (r2 := xr_37) (by decide +kernel) (by decide +kernel) (by decide +kernel) xr_37_e rfl (by decide) (by decide) e154 ?_
          refine xc_v (k37 (d := d + 7)   e153) rfl ?_
          refine xW_lv rfl (l := [(0, xR_ (x0)), (1, xI (x1)), (2, xI (v150)), (3, xI (x3))]) (xsb_of ⟨rfl, rfl, rfl, rfl, trivial⟩ (show [2, 0, 1, 3, 4].Nodup by decide)) ?_
          exact k53_202  hr9 hx1 hi152 hx3 h
      · rw [if_neg c146] at h
        refine xe_goto (off := 20) (nx := 208) (by decide +kernel) (by decide) ?_
        refine xW_lv rfl (l := []) (xsb_of trivial (show [0, 1, 2, 3, 4].Nodup by decide)) ?_
        exact k53_208    h
    · rw [if_neg c139] at h
      refine xe_alr (ins := .aload_n 0) (len := 1) (i := 0) (by decide +kernel) rfl rfl rfl rfl rfl ?_
      refine xe_ldn (ins := .iload 4) (len := 2) (by decide +kernel) rfl rfl rfl rfl ?_
      obtain ⟨R158, e157, h⟩ := xbnd h
      refine xs_cs (kd := 2) (by decide) (i := 290) (j := 55) (ar := [xI (x4)]) (rest := [xR_ (x0)]) (r2 := xr_55) (by decide +kernel) (by decide +kernel) (by decide +kernel) xr_55_e rfl (by simp only [List.map_cons, List.map_nil, List.sum_cons, List.sum_nil, xR_cat, xI_cat, xZ_cat]; decide) ?_
      refine xc_i (k55 (d := d + 7)  hx4 e157) rfl (fun hi159 => ?_)
      obtain ⟨_, e161, h⟩ := xbnd h
      obtain ⟨M162, e160, h⟩ := xbnd h
      refine xs_cv (i := 293) (j := 59) (ar := [xI (R158.1)]) (rest := []) (r2 := xr_59) (by decide +kernel) (by decide +kernel) (by decide +kernel) xr_59_e rfl (by decide) (by decide) e161 ?_
      refine xc_v (k59 (d := d + 6)  hi159 e160) rfl ?_
      refine xe_alr (ins := .aload_n 0) (len := 1) (i := 0) (by decide +kernel) rfl rfl rfl rfl rfl ?_
      refine xe_ldn (ins := .iload 4) (len := 2) (by decide +kernel) rfl rfl rfl rfl ?_
      obtain ⟨_, e165, h⟩ := xbnd h
      obtain ⟨M166, e164, h⟩ := xbnd h
      refine xs_cv (i := 296) (j := 57) (ar := [xI (x4)]) (rest := []) (r2 := xr_57) (by decide +kernel) (by decide +kernel) (by decide +kernel) xr_57_e rfl (by decide) (by decide) e165 ?_
      refine xc_v (k57 (d := d + 7)  hx4 e164) rfl ?_
      refine xe_alr (ins := .aload_n 0) (len := 1) (i := 0) (by decide +kernel) rfl rfl rfl rfl rfl ?_
      obtain ⟨_, e169, h⟩ := xbnd h
      obtain ⟨M170, e168, h⟩ := xbnd h
      refine xs_cv (i := 73) (j := 37) (ar := []) (rest := []) (r2 := xr_37) (by decide +kernel) (by decide +kernel) (by decide +kernel) xr_37_e rfl (by decide) (by decide) e169 ?_
      refine xc_v (k37 (d := d + 7)   e168) rfl ?_
      refine xe_iconst (n := 1) (by decide +kernel) rfl ?_
      refine xe_isr (ins := .istore_n 2) (len := 1) (i := 2) (by decide +kernel) rfl rfl rfl (by decide) (xk_k (show ¬ (0 : Nat) = 2 by decide) (Or.inl (show ¬ (0 + 1 : Nat) = 2 by decide)) (xk_k (show ¬ (1 : Nat) = 2 by decide) (Or.inr (xI_cat _)) (xk_d rfl (xk_k (show ¬ (3 : Nat) = 2 by decide) (Or.inl (show ¬ (3 + 1 : Nat) = 2 by decide)) (xk_k (show ¬ (4 : Nat) = 2 by decide) (Or.inl (show ¬ (4 + 1 : Nat) = 2 by decide)) xk_n))))) rfl ?_
      refine xe_goto (off := 29) (nx := 202) (by decide +kernel) (by decide) ?_
      refine xW_lv rfl (l := [(0, xR_ (x0)), (1, xI (x1)), (2, xI (1)), (3, xI (x3))]) (xsb_of ⟨rfl, rfl, rfl, rfl, trivial⟩ (show [2, 0, 1, 3, 4].Nodup by decide)) ?_
      exact k53_202  hr9 hx1 (show xin (1) by decide) hx3 h
  · rw [if_neg c135] at h
    refine xe_ldn (ins := .iload_n 1) (len := 1) (by decide +kernel) rfl rfl rfl rfl ?_
    refine xe_ifeq (off := 26) (t := 99) (by decide +kernel) (by decide) rfl hx1 (fun c172 => ?_) (fun c172 => ?_)
    · rw [if_pos c172] at h
      refine xW_lv rfl (l := [(0, xR_ (x0)), (1, xI (x1)), (3, xI (x3)), (4, xI (x4))]) (xsb_of ⟨rfl, rfl, rfl, rfl, trivial⟩ (show [0, 1, 2, 3, 4].Nodup by decide)) ?_
      exact k53_99  hr9 hx1 hx3 hx4 h
    · rw [if_neg c172] at h
      refine xe_ldn (ins := .iload 4) (len := 2) (by decide +kernel) rfl rfl rfl rfl ?_
      refine xe_bipush (n := 10) (by decide +kernel) (by decide) rfl ?_
      refine xe_icmplt (off := 19) (t := 99) (by decide +kernel) (by decide) rfl hx4 (show xin (10) by decide) (fun c173 => ?_) (fun c173 => ?_)
      · rw [if_pos c173] at h
        refine xW_lv rfl (l := [(0, xR_ (x0)), (1, xI (x1)), (3, xI (x3)), (4, xI (x4))]) (xsb_of ⟨rfl, rfl, rfl, rfl, trivial⟩ (show [0, 1, 2, 3, 4].Nodup by decide)) ?_
        exact k53_99  hr9 hx1 hx3 hx4 h
      · rw [if_neg c173] at h
        refine xe_ldn (ins := .iload 4) (len := 2) (by decide +kernel) rfl rfl rfl rfl ?_
        refine xe_bipush (n := 13) (by decide +kernel) (by decide) rfl ?_
        refine xe_icmpgt (off := 12) (t := 99) (by decide +kernel) (by decide) rfl hx4 (show xin (13) by decide) (fun c174 => ?_) (fun c174 => ?_)
        · rw [if_pos c174] at h
          refine xW_lv rfl (l := [(0, xR_ (x0)), (1, xI (x1)), (3, xI (x3)), (4, xI (x4))]) (xsb_of ⟨rfl, rfl, rfl, rfl, trivial⟩ (show [0, 1, 2, 3, 4].Nodup by decide)) ?_
          exact k53_99  hr9 hx1 hx3 hx4 h
        · rw [if_neg c174] at h
          refine xe_alr (ins := .aload_n 0) (len := 1) (i := 0) (by decide +kernel) rfl rfl rfl rfl rfl ?_
          refine xe_ldn (ins := .iload 4) (len := 2) (by decide +kernel) rfl rfl rfl rfl ?_
          obtain ⟨_, e176, h⟩ := xbnd h
          obtain ⟨R177, e175, h⟩ := xbnd h
          refine xs2_cv (kd := 0) (jj := 54) (by decide) (i := 283) (j := 54) (ar := [xI (x4)]) (rest := []) (r2 := xr_54) (by decide +kernel) (by decide +kernel) (by decide +kernel) xr_54_e rfl (by decide) (by decide) e176 ?_
          refine xct_v (k54 (d := d + 0) hx4 e175) rfl (fun e1 g179 => ?_) (fun g179 => ?_)
          · rw [xth_l g179] at h; cases h; exact xK_thr rfl ⟨rfl, rfl⟩
          · rw [xth_r g179] at h
            refine xe_goto (off := 43) (nx := 139) (by decide +kernel) (by decide) ?_
            refine xW_lv rfl (l := [(0, xR_ (x0)), (1, xI (x1)), (3, xI (x3))]) (xsb_of ⟨rfl, rfl, rfl, trivial⟩ (show [0, 1, 2, 3, 4].Nodup by decide)) ?_
            exact k53_139  hr9 hx1 hx3 h
def f53_9b  (r9 : Nat → Int → Int → Int → xj_M → Option ((Nat ⊕ Unit) × xj_M)) (f : Nat) (x0 : Nat) (x1 : Int) (x2 : Int) (x3 : Int) (M : xj_M) : Option ((Nat ⊕ Unit) × xj_M) := (if (3000) < (x3) then f53_208   f  M else ((xq_gr 4 0 (x0) M).bind fun v182 => ((xq_gr 8 3 (v182) M).bind fun v184 => ((xq_gi 4 1 (x0) M).bind fun v186 => ((xq_ai 3 (v184) (v186) M).bind fun v188 => (if (x2) = 0 then f53_68  r9 f (x0) (x1) (x2) (x3) (v188) M else (if (v188) = (40) then f53_59  r9 f (x0) (x1) (x2) (x3) (v188) M else (if (x1) = 0 then f53_68  r9 f (x0) (x1) (x2) (x3) (v188) M else ((xq_gr 4 0 (x0) M).bind fun v193 => ((xq_gi 4 1 (x0) M).bind fun v195 => ((xq_is 8 (v193) M).bind fun _ => ((f125  f (v193) (v195) M).bind fun R199 => (if (R199.1) = 0 then f53_68  r9 f (x0) (x1) (x2) (x3) (v188) R199.2 else f53_59  r9 f (x0) (x1) (x2) (x3) (v188) R199.2)))))))))))))
theorem k53_9b {d f : Nat}  {r9 : Nat → Int → Int → Int → xj_M → Option ((Nat ⊕ Unit) × xj_M)}  (hr9 : ∀ {x0 : Nat} {x1 : Int} {x2 : Int} {x3 : Int} {M : xj_M} {R : (Nat ⊕ Unit) × xj_M}, xin x1 → xin x2 → xin x3 → r9 x0 x1 x2 x3 M = some R → xW (d + 8) (none, d + 8, none) xr_53 (9, [(0, xR_ x0), (1, xI x1), (2, xI x2), (3, xI x3)], [], M) (xQtv R)) {x0 : Nat} {x1 : Int} {x2 : Int} {x3 : Int} {M : xj_M} {R : (Nat ⊕ Unit) × xj_M} (hx1 : xin x1) (hx2 : xin x2) (hx3 : xin x3) (h : f53_9b  r9 f x0 x1 x2 x3 M = some R) : xW (d + 8) (none, d + 8, none) xr_53 (9, [(0, xR_ x0), (1, xI x1), (2, xI x2), (3, xI x3)], [], M) (xQtv R) := by
  unfold f53_9b at h
  refine xe_ldn (ins := .iload_n 3) (len := 1) (by decide +kernel) rfl rfl rfl rfl ?_
  refine xe_sipush (n := 3000) (by decide +kernel) (by decide) rfl ?_
  refine xe_icmpgt (off := 195) (t := 208) (by decide +kernel) (by decide) rfl hx3 (show xin (3000) by decide) (fun c181 => ?_) (fun c181 => ?_)
  · rw [if_pos c181] at h
    refine xW_lv rfl (l := []) (xsb_of trivial (show [0, 1, 2, 3].Nodup by decide)) ?_
    exact k53_208    h
  · rw [if_neg c181] at h
    refine xe_alr (ins := .aload_n 0) (len := 1) (i := 0) (by decide +kernel) rfl rfl rfl rfl rfl ?_
    obtain ⟨v182, e183, h⟩ := xbnd h
    refine xs_gr (i := 43) (c := 4) (k := 0) (by decide +kernel) (by decide) (by decide +kernel) e183 rfl ?_
    obtain ⟨v184, e185, h⟩ := xbnd h
    refine xs_gr (i := 51) (c := 8) (k := 3) (by decide +kernel) (by decide) (by decide +kernel) e185 rfl ?_
    refine xe_alr (ins := .aload_n 0) (len := 1) (i := 0) (by decide +kernel) rfl rfl rfl rfl rfl ?_
    obtain ⟨v186, e187, h⟩ := xbnd h
    refine xs_gi (i := 54) (c := 4) (k := 1) (by decide +kernel) (by decide) (by decide +kernel) e187 rfl ?_
    obtain ⟨v188, e189, h⟩ := xbnd h
    refine xs_iald rfl (by decide +kernel) (xq_gi_in e187) e189 rfl ?_
    refine xe_isr (ins := .istore 4) (len := 2) (i := 4) (by decide +kernel) rfl rfl rfl (by decide) (xk_k (show ¬ (0 : Nat) = 4 by decide) (Or.inl (show ¬ (0 + 1 : Nat) = 4 by decide)) (xk_k (show ¬ (1 : Nat) = 4 by decide) (Or.inl (show ¬ (1 + 1 : Nat) = 4 by decide)) (xk_k (show ¬ (2 : Nat) = 4 by decide) (Or.inl (show ¬ (2 + 1 : Nat) = 4 by decide)) (xk_k (show ¬ (3 : Nat) = 4 by decide) (Or.inr (xI_cat _)) xk_n)))) rfl ?_
    refine xe_ldn (ins := .iload_n 2) (len := 1) (by decide +kernel) rfl rfl rfl rfl ?_
    refine xe_ifeq (off := 37) (t := 68) (by decide +kernel) (by decide) rfl hx2 (fun c190 => ?_) (fun c190 => ?_)
    · rw [if_pos c190] at h
      refine xW_lv rfl (l := [(0, xR_ (x0)), (1, xI (x1)), (2, xI (x2)), (3, xI (x3)), (4, xI (v188))]) (xsb_of ⟨rfl, rfl, rfl, rfl, rfl, trivial⟩ (show [4, 0, 1, 2, 3].Nodup by decide)) ?_
      exact k53_68  hr9 hx1 hx2 hx3 (xq_ai_in e189) h
    · rw [if_neg c190] at h
      refine xe_ldn (ins := .iload 4) (len := 2) (by decide +kernel) rfl rfl rfl rfl ?_
      refine xe_bipush (n := 40) (by decide +kernel) (by decide) rfl ?_
      refine xe_icmpeq (off := 21) (t := 59) (by decide +kernel) (by decide) rfl (xq_ai_in e189) (show xin (40) by decide) (fun c191 => ?_) (fun c191 => ?_)
      · rw [if_pos c191] at h
        refine xW_lv rfl (l := [(0, xR_ (x0)), (1, xI (x1)), (2, xI (x2)), (3, xI (x3)), (4, xI (v188))]) (xsb_of ⟨rfl, rfl, rfl, rfl, rfl, trivial⟩ (show [4, 0, 1, 2, 3].Nodup by decide)) ?_
        exact k53_59  hr9 hx1 hx2 hx3 (xq_ai_in e189) h
      · rw [if_neg c191] at h
        refine xe_ldn (ins := .iload_n 1) (len := 1) (by decide +kernel) rfl rfl rfl rfl ?_
        refine xe_ifeq (off := 26) (t := 68) (by decide +kernel) (by decide) rfl hx1 (fun c192 => ?_) (fun c192 => ?_)
        · rw [if_pos c192] at h
          refine xW_lv rfl (l := [(0, xR_ (x0)), (1, xI (x1)), (2, xI (x2)), (3, xI (x3)), (4, xI (v188))]) (xsb_of ⟨rfl, rfl, rfl, rfl, rfl, trivial⟩ (show [4, 0, 1, 2, 3].Nodup by decide)) ?_
          exact k53_68  hr9 hx1 hx2 hx3 (xq_ai_in e189) h
        · rw [if_neg c192] at h
          refine xe_alr (ins := .aload_n 0) (len := 1) (i := 0) (by decide +kernel) rfl rfl rfl rfl rfl ?_
          obtain ⟨v193, e194, h⟩ := xbnd h
          refine xs_gr (i := 43) (c := 4) (k := 0) (by decide +kernel) (by decide) (by decide +kernel) e194 rfl ?_
          refine xe_alr (ins := .aload_n 0) (len := 1) (i := 0) (by decide +kernel) rfl rfl rfl rfl rfl ?_
          obtain ⟨v195, e196, h⟩ := xbnd h
          refine xs_gi (i := 54) (c := 4) (k := 1) (by decide +kernel) (by decide) (by decide +kernel) e196 rfl ?_
          obtain ⟨_, e198, h⟩ := xbnd h
          obtain ⟨R199, e197, h⟩ := xbnd h
          refine xs_cv (i := 277) (j := 125) (ar := [xI (v195)]) (rest := []) (r2 := xr_125) (by decide +kernel) (by decide +kernel) (by decide +kernel) xr_125_e rfl (by decide) (by decide) e198 ?_
          refine xc_i (k125 (d := d + 2)  (xq_gi_in e196) e197) rfl (fun hi200 => ?_)
          refine xe_ifeq (off := 12) (t := 68) (by decide +kernel) (by decide) rfl hi200 (fun c201 => ?_) (fun c201 => ?_)
          · rw [if_pos c201] at h
            refine xW_lv rfl (l := [(0, xR_ (x0)), (1, xI (x1)), (2, xI (x2)), (3, xI (x3)), (4, xI (v188))]) (xsb_of ⟨rfl, rfl, rfl, rfl, rfl, trivial⟩ (show [4, 0, 1, 2, 3].Nodup by decide)) ?_
            exact k53_68  hr9 hx1 hx2 hx3 (xq_ai_in e189) h
          · rw [if_neg c201] at h
            refine xW_lv rfl (l := [(0, xR_ (x0)), (1, xI (x1)), (2, xI (x2)), (3, xI (x3)), (4, xI (v188))]) (xsb_of ⟨rfl, rfl, rfl, rfl, rfl, trivial⟩ (show [4, 0, 1, 2, 3].Nodup by decide)) ?_
            exact k53_59  hr9 hx1 hx2 hx3 (xq_ai_in e189) h
def f53_9   (f : Nat) : Nat → Nat → Int → Int → Int → xj_M → Option ((Nat ⊕ Unit) × xj_M)
  | 0, _, _, _, _, _ => none
  | n + 1, x0, x1, x2, x3, M => f53_9b   (f53_9   f n) f x0 x1 x2 x3 M
theorem k53_9 {d f : Nat}     : ∀ {n : Nat} {x0 : Nat} {x1 : Int} {x2 : Int} {x3 : Int} {M : xj_M} {R : (Nat ⊕ Unit) × xj_M}, xin x1 → xin x2 → xin x3 → f53_9   f n x0 x1 x2 x3 M = some R → xW (d + 8) (none, d + 8, none) xr_53 (9, [(0, xR_ x0), (1, xI x1), (2, xI x2), (3, xI x3)], [], M) (xQtv R) := by
  intro n
  induction n with
  | zero => intros; rename_i h; cases h
  | succ n ih => intros; rename_i h; exact k53_9b   ih (by assumption) (by assumption) (by assumption) h
def f53  (f : Nat) (a0 : Nat) (a1 : Int) (M : xj_M) : Option ((Nat ⊕ Unit) × xj_M) := ((xq_pi 4 12 (a0) (0) M).bind fun M202 => f53_9   f f (a0) (a1) (1) (0) M202)
theorem k53 {d f : Nat}   {a0 : Nat} {a1 : Int} {M : xj_M} {R : (Nat ⊕ Unit) × xj_M} (ha1 : xin a1) (h : f53  f a0 a1 M = some R) : xT (d + 9) 53 [xR_ a0, xI a1] M (xQtv R) := by
  refine xT_m xr_53_e (X := (none, d + 8, none)) rfl (xa_1 (xR_cat _) (xa_1 (xI_cat _) xa_n)) (by decide) ?_
  unfold f53 at h
  refine xe_alr (ins := .aload_n 0) (len := 1) (i := 0) (by decide +kernel) rfl rfl rfl rfl rfl ?_
  refine xe_iconst (n := 0) (by decide +kernel) rfl ?_
  obtain ⟨M202, e203, h⟩ := xbnd h
  refine xs_p (i := 274) (c := 4) (k := 12) (by decide +kernel) (by decide +kernel) (by decide +kernel) e203 rfl ?_
  refine xe_iconst (n := 1) (by decide +kernel) rfl ?_
  refine xe_isr (ins := .istore_n 2) (len := 1) (i := 2) (by decide +kernel) rfl rfl rfl (by decide) (xk_k (show ¬ (0 : Nat) = 2 by decide) (Or.inl (show ¬ (0 + 1 : Nat) = 2 by decide)) (xk_k (show ¬ (1 : Nat) = 2 by decide) (Or.inr (xI_cat _)) xk_n)) rfl ?_
  refine xe_iconst (n := 0) (by decide +kernel) rfl ?_
  refine xe_isr (ins := .istore_n 3) (len := 1) (i := 3) (by decide +kernel) rfl rfl rfl (by decide) (xk_k (show ¬ (2 : Nat) = 3 by decide) (Or.inr (xI_cat _)) (xk_k (show ¬ (0 : Nat) = 3 by decide) (Or.inl (show ¬ (0 + 1 : Nat) = 3 by decide)) (xk_k (show ¬ (1 : Nat) = 3 by decide) (Or.inl (show ¬ (1 + 1 : Nat) = 3 by decide)) xk_n))) rfl ?_
  refine xW_lv rfl (l := [(0, xR_ (a0)), (1, xI (a1)), (2, xI (1)), (3, xI (0))]) (xsb_of ⟨rfl, rfl, rfl, rfl, trivial⟩ (show [3, 2, 0, 1].Nodup by decide)) ?_
  exact k53_9   ha1 (show xin (1) by decide) (show xin (0) by decide) h
-- ChangeHouse$Sheet.worth
def xr_105 : xj_mR := (7, yX7_worth, cX7_worth, 9, (Option.some Jvm.ClassFile.FieldType.long), 1, false, (7, 85), (1, 7))
set_option maxRecDepth 20000 in
theorem xr_105_e : xj_row 105 = some xr_105 := rfl
def f105_229  (r4 : Nat → Nat → Int → Int → xj_M → Option (Int × xj_M)) (f : Nat) (x0 : Nat) (x1 : Nat) (x2 : Int) (x3 : Int) (x5 : Int) (M : xj_M) : Option (Int × xj_M) := r4 (x0) (x1) (x2) (xwr ((xmax (x3) (x5)) + (1))) M
theorem k105_229 {d f : Nat}  {r4 : Nat → Nat → Int → Int → xj_M → Option (Int × xj_M)}  (hr4 : ∀ {x0 : Nat} {x1 : Nat} {x2 : Int} {x3 : Int} {M : xj_M} {R : Int × xj_M}, xin x2 → xin x3 → r4 x0 x1 x2 x3 M = some R → xW (d + 3) (none, d + 3, none) xr_105 (4, [(0, xR_ x0), (1, xR_ x1), (2, xI x2), (3, xI x3)], [], M) (xQl R)) {x0 : Nat} {x1 : Nat} {x2 : Int} {x3 : Int} {x5 : Int} {M : xj_M} {R : Int × xj_M} (hx2 : xin x2) (hx3 : xin x3) (hx5 : xin x5) (h : f105_229  r4 f x0 x1 x2 x3 x5 M = some R) : xW (d + 3) (none, d + 3, none) xr_105 (229, [(0, xR_ x0), (1, xR_ x1), (2, xI x2), (3, xI x3), (5, xI x5)], [], M) (xQl R) := by
  unfold f105_229 at h
  refine xe_ldn (ins := .iload_n 3) (len := 1) (by decide +kernel) rfl rfl rfl rfl ?_
  refine xe_ldn (ins := .iload 5) (len := 2) (by decide +kernel) rfl rfl rfl rfl ?_
  refine xe_xmxi (i := 131) (by decide +kernel) (by decide +kernel) (by decide +kernel) (by rfl) rfl hx3 hx5 ?_
  refine xe_isr (ins := .istore_n 3) (len := 1) (i := 3) (by decide +kernel) rfl rfl rfl (by decide) (xk_k (show ¬ (0 : Nat) = 3 by decide) (Or.inl (show ¬ (0 + 1 : Nat) = 3 by decide)) (xk_k (show ¬ (1 : Nat) = 3 by decide) (Or.inl (show ¬ (1 + 1 : Nat) = 3 by decide)) (xk_k (show ¬ (2 : Nat) = 3 by decide) (Or.inr (xI_cat _)) (xk_d rfl (xk_k (show ¬ (5 : Nat) = 3 by decide) (Or.inl (show ¬ (5 + 1 : Nat) = 3 by decide)) xk_n))))) rfl ?_
  refine xe_iincr (i := 3) (n := 1) (by decide +kernel) (by decide) rfl (xk_d rfl (xk_k (show ¬ (0 : Nat) = 3 by decide) (Or.inl (show ¬ (0 + 1 : Nat) = 3 by decide)) (xk_k (show ¬ (1 : Nat) = 3 by decide) (Or.inl (show ¬ (1 + 1 : Nat) = 3 by decide)) (xk_k (show ¬ (2 : Nat) = 3 by decide) (Or.inr (xI_cat _)) (xk_k (show ¬ (5 : Nat) = 3 by decide) (Or.inl (show ¬ (5 + 1 : Nat) = 3 by decide)) xk_n))))) rfl ?_
  refine xe_goto (off := -235) (nx := 4) (by decide +kernel) (by decide) ?_
  refine xW_lv rfl (l := [(0, xR_ (x0)), (1, xR_ (x1)), (2, xI (x2)), (3, xI (xwr ((xmax (x3) (x5)) + (1))))]) (xsb_of ⟨rfl, rfl, rfl, rfl, trivial⟩ (show [3, 0, 1, 2, 5].Nodup by decide)) ?_
  exact hr4 hx2 (xin_wr _) h
def f105_136  (r4 : Nat → Nat → Int → Int → xj_M → Option (Int × xj_M)) (f : Nat) (x0 : Nat) (x1 : Nat) (x2 : Int) (x3 : Int) (y0 : Int) (M : xj_M) : Option (Int × xj_M) := f105_229  r4 f (x0) (x1) (x2) (x3) (y0) M
theorem k105_136 {d f : Nat}  {r4 : Nat → Nat → Int → Int → xj_M → Option (Int × xj_M)}  (hr4 : ∀ {x0 : Nat} {x1 : Nat} {x2 : Int} {x3 : Int} {M : xj_M} {R : Int × xj_M}, xin x2 → xin x3 → r4 x0 x1 x2 x3 M = some R → xW (d + 3) (none, d + 3, none) xr_105 (4, [(0, xR_ x0), (1, xR_ x1), (2, xI x2), (3, xI x3)], [], M) (xQl R)) {x0 : Nat} {x1 : Nat} {x2 : Int} {x3 : Int} {y0 : Int} {M : xj_M} {R : Int × xj_M} (hx2 : xin x2) (hx3 : xin x3) (hy0 : xin y0) (h : f105_136  r4 f x0 x1 x2 x3 y0 M = some R) : xW (d + 3) (none, d + 3, none) xr_105 (136, [(0, xR_ x0), (1, xR_ x1), (2, xI x2), (3, xI x3)], [xI y0], M) (xQl R) := by
  unfold f105_136 at h
  refine xe_isr (ins := .istore 5) (len := 2) (i := 5) (by decide +kernel) rfl rfl rfl (by decide) (xk_k (show ¬ (0 : Nat) = 5 by decide) (Or.inl (show ¬ (0 + 1 : Nat) = 5 by decide)) (xk_k (show ¬ (1 : Nat) = 5 by decide) (Or.inl (show ¬ (1 + 1 : Nat) = 5 by decide)) (xk_k (show ¬ (2 : Nat) = 5 by decide) (Or.inl (show ¬ (2 + 1 : Nat) = 5 by decide)) (xk_k (show ¬ (3 : Nat) = 5 by decide) (Or.inl (show ¬ (3 + 1 : Nat) = 5 by decide)) xk_n)))) rfl ?_
  refine xe_goto (off := 91) (nx := 229) (by decide +kernel) (by decide) ?_
  refine xW_lv rfl (l := [(0, xR_ (x0)), (1, xR_ (x1)), (2, xI (x2)), (3, xI (x3)), (5, xI (y0))]) (xsb_of ⟨rfl, rfl, rfl, rfl, rfl, trivial⟩ (show [5, 0, 1, 2, 3].Nodup by decide)) ?_
  exact k105_229  hr4 hx2 hx3 hy0 h
def f105_97  (r4 : Nat → Nat → Int → Int → xj_M → Option (Int × xj_M)) (f : Nat) (x0 : Nat) (x1 : Nat) (x3 : Int) (x6 : Int) (x8 : Int) (y0 : Int) (y1 : Int) (M : xj_M) : Option (Int × xj_M) := (if (x8) = 0 then (if ¬ (x6) = (0) then f105_136  r4 f (x0) (x1) (xwr ((y1) - (y0))) (x3) (x3) M else ((xq_gr 0 1 (x1) M).bind fun v103 => ((xq_al (v103) (x3) M).bind fun v105 => f105_136  r4 f (x0) (x1) (xwr ((y1) - (y0))) (x3) (xwr ((xwr (v105)) - (1))) M))) else ((xq_gr 0 1 (x1) M).bind fun v107 => ((xq_al (v107) (x3) M).bind fun v109 => f105_136  r4 f (x0) (x1) (xwr ((y1) - (y0))) (x3) (xwr ((xwr (v109)) - (2))) M)))
theorem k105_97 {d f : Nat}  {r4 : Nat → Nat → Int → Int → xj_M → Option (Int × xj_M)}  (hr4 : ∀ {x0 : Nat} {x1 : Nat} {x2 : Int} {x3 : Int} {M : xj_M} {R : Int × xj_M}, xin x2 → xin x3 → r4 x0 x1 x2 x3 M = some R → xW (d + 3) (none, d + 3, none) xr_105 (4, [(0, xR_ x0), (1, xR_ x1), (2, xI x2), (3, xI x3)], [], M) (xQl R)) {x0 : Nat} {x1 : Nat} {x3 : Int} {x6 : Int} {x8 : Int} {y0 : Int} {y1 : Int} {M : xj_M} {R : Int × xj_M} (hx3 : xin x3) (hx6 : xiN x6) (hx8 : xin x8) (hy0 : xin y0) (hy1 : xin y1) (h : f105_97  r4 f x0 x1 x3 x6 x8 y0 y1 M = some R) : xW (d + 3) (none, d + 3, none) xr_105 (97, [(0, xR_ x0), (1, xR_ x1), (3, xI x3), (6, xZ x6), (8, xI x8)], [xI y0, xI y1], M) (xQl R) := by
  unfold f105_97 at h
  refine xe_isub (by decide +kernel) rfl ?_
  refine xe_isr (ins := .istore_n 2) (len := 1) (i := 2) (by decide +kernel) rfl rfl rfl (by decide) (xk_k (show ¬ (0 : Nat) = 2 by decide) (Or.inl (show ¬ (0 + 1 : Nat) = 2 by decide)) (xk_k (show ¬ (1 : Nat) = 2 by decide) (Or.inr (xR_cat _)) (xk_k (show ¬ (3 : Nat) = 2 by decide) (Or.inl (show ¬ (3 + 1 : Nat) = 2 by decide)) (xk_k (show ¬ (6 : Nat) = 2 by decide) (Or.inl (show ¬ (6 + 1 : Nat) = 2 by decide)) (xk_k (show ¬ (8 : Nat) = 2 by decide) (Or.inl (show ¬ (8 + 1 : Nat) = 2 by decide)) xk_n))))) rfl ?_
  refine xe_ldn (ins := .iload 8) (len := 2) (by decide +kernel) rfl rfl rfl rfl ?_
  refine xe_ifeq (off := 15) (t := 116) (by decide +kernel) (by decide) rfl hx8 (fun c101 => ?_) (fun c101 => ?_)
  · rw [if_pos c101] at h
    refine xe_ldn (ins := .lload 6) (len := 2) (by decide +kernel) rfl rfl rfl rfl ?_
    refine xe_lconst (n := 0) (z := 0) (by decide +kernel) rfl rfl ?_
    refine xe_lcmp (by decide +kernel) rfl hx6 (show xiN (0) by decide) ?_
    refine xe_ifne (off := 15) (t := 135) (by decide +kernel) (by decide) rfl (xin_cmp8 _ _) (fun c102 => ?_) (fun c102 => ?_)
    · have c102 := xcmp8_ne.mp c102; rw [if_pos c102] at h
      refine xe_ldn (ins := .iload_n 3) (len := 1) (by decide +kernel) rfl rfl rfl rfl ?_
      refine xW_lv rfl (l := [(0, xR_ (x0)), (1, xR_ (x1)), (2, xI (xwr ((y1) - (y0)))), (3, xI (x3))]) (xsb_of ⟨rfl, rfl, rfl, rfl, trivial⟩ (show [2, 0, 1, 3, 6, 8].Nodup by decide)) ?_
      exact k105_136  hr4 (xin_wr _) hx3 hx3 h
    · have c102 := (not_congr xcmp8_ne).mp c102; rw [if_neg c102] at h
      refine xe_alr (ins := .aload_n 1) (len := 1) (i := 1) (by decide +kernel) rfl rfl rfl rfl rfl ?_
      obtain ⟨v103, e104, h⟩ := xbnd h
      refine xs_gr (i := 112) (c := 0) (k := 1) (by decide +kernel) (by decide) (by decide +kernel) e104 rfl ?_
      refine xe_ldn (ins := .iload_n 3) (len := 1) (by decide +kernel) rfl rfl rfl rfl ?_
      obtain ⟨v105, e106, h⟩ := xbnd h
      refine xs_lald (by decide +kernel) hx3 e106 rfl ?_
      refine xe_l2i (by decide +kernel) rfl ?_
      refine xe_iconst (n := 1) (by decide +kernel) rfl ?_
      refine xe_isub (by decide +kernel) rfl ?_
      refine xe_goto (off := 4) (nx := 136) (by decide +kernel) (by decide) ?_
      refine xW_lv rfl (l := [(0, xR_ (x0)), (1, xR_ (x1)), (2, xI (xwr ((y1) - (y0)))), (3, xI (x3))]) (xsb_of ⟨rfl, rfl, rfl, rfl, trivial⟩ (show [2, 0, 1, 3, 6, 8].Nodup by decide)) ?_
      exact k105_136  hr4 (xin_wr _) hx3 (xin_wr _) h
  · rw [if_neg c101] at h
    refine xe_alr (ins := .aload_n 1) (len := 1) (i := 1) (by decide +kernel) rfl rfl rfl rfl rfl ?_
    obtain ⟨v107, e108, h⟩ := xbnd h
    refine xs_gr (i := 112) (c := 0) (k := 1) (by decide +kernel) (by decide) (by decide +kernel) e108 rfl ?_
    refine xe_ldn (ins := .iload_n 3) (len := 1) (by decide +kernel) rfl rfl rfl rfl ?_
    obtain ⟨v109, e110, h⟩ := xbnd h
    refine xs_lald (by decide +kernel) hx3 e110 rfl ?_
    refine xe_l2i (by decide +kernel) rfl ?_
    refine xe_iconst (n := 2) (by decide +kernel) rfl ?_
    refine xe_isub (by decide +kernel) rfl ?_
    refine xe_goto (off := 23) (nx := 136) (by decide +kernel) (by decide) ?_
    refine xW_lv rfl (l := [(0, xR_ (x0)), (1, xR_ (x1)), (2, xI (xwr ((y1) - (y0)))), (3, xI (x3))]) (xsb_of ⟨rfl, rfl, rfl, rfl, trivial⟩ (show [2, 0, 1, 3, 6, 8].Nodup by decide)) ?_
    exact k105_136  hr4 (xin_wr _) hx3 (xin_wr _) h
def f105_84  (r4 : Nat → Nat → Int → Int → xj_M → Option (Int × xj_M)) (f : Nat) (x0 : Nat) (x1 : Nat) (x2 : Int) (x3 : Int) (x6 : Int) (y0 : Int) (M : xj_M) : Option (Int × xj_M) := (if (y0) = 0 then f105_97  r4 f (x0) (x1) (x3) (x6) (y0) (1) (x2) M else f105_97  r4 f (x0) (x1) (x3) (x6) (y0) (0) (x2) M)
theorem k105_84 {d f : Nat}  {r4 : Nat → Nat → Int → Int → xj_M → Option (Int × xj_M)}  (hr4 : ∀ {x0 : Nat} {x1 : Nat} {x2 : Int} {x3 : Int} {M : xj_M} {R : Int × xj_M}, xin x2 → xin x3 → r4 x0 x1 x2 x3 M = some R → xW (d + 3) (none, d + 3, none) xr_105 (4, [(0, xR_ x0), (1, xR_ x1), (2, xI x2), (3, xI x3)], [], M) (xQl R)) {x0 : Nat} {x1 : Nat} {x2 : Int} {x3 : Int} {x6 : Int} {y0 : Int} {M : xj_M} {R : Int × xj_M} (hx2 : xin x2) (hx3 : xin x3) (hx6 : xiN x6) (hy0 : xin y0) (h : f105_84  r4 f x0 x1 x2 x3 x6 y0 M = some R) : xW (d + 3) (none, d + 3, none) xr_105 (84, [(0, xR_ x0), (1, xR_ x1), (2, xI x2), (3, xI x3), (6, xZ x6)], [xI y0], M) (xQl R) := by
  unfold f105_84 at h
  refine xe_isr (ins := .istore 8) (len := 2) (i := 8) (by decide +kernel) rfl rfl rfl (by decide) (xk_k (show ¬ (0 : Nat) = 8 by decide) (Or.inl (show ¬ (0 + 1 : Nat) = 8 by decide)) (xk_k (show ¬ (1 : Nat) = 8 by decide) (Or.inl (show ¬ (1 + 1 : Nat) = 8 by decide)) (xk_k (show ¬ (2 : Nat) = 8 by decide) (Or.inl (show ¬ (2 + 1 : Nat) = 8 by decide)) (xk_k (show ¬ (3 : Nat) = 8 by decide) (Or.inl (show ¬ (3 + 1 : Nat) = 8 by decide)) (xk_k (show ¬ (6 : Nat) = 8 by decide) (Or.inl (show ¬ (6 + 1 : Nat) = 8 by decide)) xk_n))))) rfl ?_
  refine xe_ldn (ins := .iload_n 2) (len := 1) (by decide +kernel) rfl rfl rfl rfl ?_
  refine xe_ldn (ins := .iload 8) (len := 2) (by decide +kernel) rfl rfl rfl rfl ?_
  refine xe_ifeq (off := 7) (t := 96) (by decide +kernel) (by decide) rfl hy0 (fun c111 => ?_) (fun c111 => ?_)
  · rw [if_pos c111] at h
    refine xe_iconst (n := 1) (by decide +kernel) rfl ?_
    refine xW_lv rfl (l := [(0, xR_ (x0)), (1, xR_ (x1)), (3, xI (x3)), (6, xZ (x6)), (8, xI (y0))]) (xsb_of ⟨rfl, rfl, rfl, rfl, rfl, trivial⟩ (show [8, 0, 1, 2, 3, 6].Nodup by decide)) ?_
    exact k105_97  hr4 hx3 hx6 hy0 (show xin (1) by decide) hx2 h
  · rw [if_neg c111] at h
    refine xe_iconst (n := 0) (by decide +kernel) rfl ?_
    refine xe_goto (off := 4) (nx := 97) (by decide +kernel) (by decide) ?_
    refine xW_lv rfl (l := [(0, xR_ (x0)), (1, xR_ (x1)), (3, xI (x3)), (6, xZ (x6)), (8, xI (y0))]) (xsb_of ⟨rfl, rfl, rfl, rfl, rfl, trivial⟩ (show [8, 0, 1, 2, 3, 6].Nodup by decide)) ?_
    exact k105_97  hr4 hx3 hx6 hy0 (show xin (0) by decide) hx2 h
def f105_187  (r4 : Nat → Nat → Int → Int → xj_M → Option (Int × xj_M)) (f : Nat) (x0 : Nat) (x1 : Nat) (x2 : Int) (x3 : Int) (x4 : Int) (x5 : Int) (M : xj_M) : Option (Int × xj_M) := (if (x4) ≤ (15) then f105_229  r4 f (x0) (x1) (x2) (x3) (x5) M else (if (x2) ≤ (1) then f105_229  r4 f (x0) (x1) (x2) (x3) (x5) M else ((xq_gr 7 4 (x0) M).bind fun v114 => ((xq_gr 7 4 (x0) M).bind fun v116 => ((xq_al (v116) (xwr ((xwr ((x2) + (-1))) - (1))) M).bind fun v118 => ((xq_gr 7 4 (x0) M).bind fun v120 => ((xq_al (v120) (xwr ((x2) + (-1))) M).bind fun v122 => ((f192  f (x4) (v118) (v122) M).bind fun R125 => ((xq_sl (v114) (xwr ((xwr ((x2) + (-1))) - (1))) (R125.1) R125.2).bind fun M127 => f105_229  r4 f (x0) (x1) (xwr ((x2) + (-1))) (x3) (x5) M127)))))))))
theorem k105_187 {d f : Nat}  {r4 : Nat → Nat → Int → Int → xj_M → Option (Int × xj_M)}  (hr4 : ∀ {x0 : Nat} {x1 : Nat} {x2 : Int} {x3 : Int} {M : xj_M} {R : Int × xj_M}, xin x2 → xin x3 → r4 x0 x1 x2 x3 M = some R → xW (d + 3) (none, d + 3, none) xr_105 (4, [(0, xR_ x0), (1, xR_ x1), (2, xI x2), (3, xI x3)], [], M) (xQl R)) {x0 : Nat} {x1 : Nat} {x2 : Int} {x3 : Int} {x4 : Int} {x5 : Int} {M : xj_M} {R : Int × xj_M} (hx2 : xin x2) (hx3 : xin x3) (hx4 : xin x4) (hx5 : xin x5) (h : f105_187  r4 f x0 x1 x2 x3 x4 x5 M = some R) : xW (d + 3) (none, d + 3, none) xr_105 (187, [(0, xR_ x0), (1, xR_ x1), (2, xI x2), (3, xI x3), (4, xI x4), (5, xI x5)], [], M) (xQl R) := by
  unfold f105_187 at h
  refine xe_ldn (ins := .iload 4) (len := 2) (by decide +kernel) rfl rfl rfl rfl ?_
  refine xe_bipush (n := 15) (by decide +kernel) (by decide) rfl ?_
  refine xe_icmple (off := 38) (t := 229) (by decide +kernel) (by decide) rfl hx4 (show xin (15) by decide) (fun c112 => ?_) (fun c112 => ?_)
  · rw [if_pos c112] at h
    refine xW_lv rfl (l := [(0, xR_ (x0)), (1, xR_ (x1)), (2, xI (x2)), (3, xI (x3)), (5, xI (x5))]) (xsb_of ⟨rfl, rfl, rfl, rfl, rfl, trivial⟩ (show [0, 1, 2, 3, 4, 5].Nodup by decide)) ?_
    exact k105_229  hr4 hx2 hx3 hx5 h
  · rw [if_neg c112] at h
    refine xe_ldn (ins := .iload_n 2) (len := 1) (by decide +kernel) rfl rfl rfl rfl ?_
    refine xe_iconst (n := 1) (by decide +kernel) rfl ?_
    refine xe_icmple (off := 33) (t := 229) (by decide +kernel) (by decide) rfl hx2 (show xin (1) by decide) (fun c113 => ?_) (fun c113 => ?_)
    · rw [if_pos c113] at h
      refine xW_lv rfl (l := [(0, xR_ (x0)), (1, xR_ (x1)), (2, xI (x2)), (3, xI (x3)), (5, xI (x5))]) (xsb_of ⟨rfl, rfl, rfl, rfl, rfl, trivial⟩ (show [0, 1, 2, 3, 4, 5].Nodup by decide)) ?_
      exact k105_229  hr4 hx2 hx3 hx5 h
    · rw [if_neg c113] at h
      refine xe_iincr (i := 2) (n := -1) (by decide +kernel) (by decide) rfl (xk_k (show ¬ (0 : Nat) = 2 by decide) (Or.inl (show ¬ (0 + 1 : Nat) = 2 by decide)) (xk_k (show ¬ (1 : Nat) = 2 by decide) (Or.inr (xR_cat _)) (xk_d rfl (xk_k (show ¬ (3 : Nat) = 2 by decide) (Or.inl (show ¬ (3 + 1 : Nat) = 2 by decide)) (xk_k (show ¬ (4 : Nat) = 2 by decide) (Or.inl (show ¬ (4 + 1 : Nat) = 2 by decide)) (xk_k (show ¬ (5 : Nat) = 2 by decide) (Or.inl (show ¬ (5 + 1 : Nat) = 2 by decide)) xk_n)))))) rfl ?_
      refine xe_alr (ins := .aload_n 0) (len := 1) (i := 0) (by decide +kernel) rfl rfl rfl rfl rfl ?_
      obtain ⟨v114, e115, h⟩ := xbnd h
      refine xs_gr (i := 18) (c := 7) (k := 4) (by decide +kernel) (by decide) (by decide +kernel) e115 rfl ?_
      refine xe_ldn (ins := .iload_n 2) (len := 1) (by decide +kernel) rfl rfl rfl rfl ?_
      refine xe_iconst (n := 1) (by decide +kernel) rfl ?_
      refine xe_isub (by decide +kernel) rfl ?_
      refine xe_ldn (ins := .iload 4) (len := 2) (by decide +kernel) rfl rfl rfl rfl ?_
      refine xe_alr (ins := .aload_n 0) (len := 1) (i := 0) (by decide +kernel) rfl rfl rfl rfl rfl ?_
      obtain ⟨v116, e117, h⟩ := xbnd h
      refine xs_gr (i := 18) (c := 7) (k := 4) (by decide +kernel) (by decide) (by decide +kernel) e117 rfl ?_
      refine xe_ldn (ins := .iload_n 2) (len := 1) (by decide +kernel) rfl rfl rfl rfl ?_
      refine xe_iconst (n := 1) (by decide +kernel) rfl ?_
      refine xe_isub (by decide +kernel) rfl ?_
      obtain ⟨v118, e119, h⟩ := xbnd h
      refine xs_lald (by decide +kernel) (xin_wr _) e119 rfl ?_
      refine xe_alr (ins := .aload_n 0) (len := 1) (i := 0) (by decide +kernel) rfl rfl rfl rfl rfl ?_
      obtain ⟨v120, e121, h⟩ := xbnd h
      refine xs_gr (i := 18) (c := 7) (k := 4) (by decide +kernel) (by decide) (by decide +kernel) e121 rfl ?_
      refine xe_ldn (ins := .iload_n 2) (len := 1) (by decide +kernel) rfl rfl rfl rfl ?_
      obtain ⟨v122, e123, h⟩ := xbnd h
      refine xs_lald (by decide +kernel) (xin_wr _) e123 rfl ?_
      obtain ⟨R125, e124, h⟩ := xbnd h
      refine xs_cs (kd := 5) (by decide) (i := 127) (j := 192) (ar := [xZ (v122), xZ (v118), xI (x4)]) (rest := [xI (xwr ((xwr ((x2) + (-1))) - (1))), xR_ (v114)]) (r2 := xr_192) (by decide +kernel) (by decide +kernel) (by decide +kernel) xr_192_e rfl (by simp only [List.map_cons, List.map_nil, List.sum_cons, List.sum_nil, xR_cat, xI_cat, xZ_cat]; decide) ?_
      refine xc_l (k192 (d := d + 2)  hx4 (xq_al_in e119) (xq_al_in e123) e124) rfl (fun hi126 => ?_)
      obtain ⟨M127, e128, h⟩ := xbnd h
      refine xs_last (by decide +kernel) (xin_wr _) e128 rfl ?_
      refine xW_lv rfl (l := [(0, xR_ (x0)), (1, xR_ (x1)), (2, xI (xwr ((x2) + (-1)))), (3, xI (x3)), (5, xI (x5))]) (xsb_of ⟨rfl, rfl, rfl, rfl, rfl, trivial⟩ (show [2, 0, 1, 3, 4, 5].Nodup by decide)) ?_
      exact k105_229  hr4 (xin_wr _) hx3 hx5 h
def f105_141  (r4 : Nat → Nat → Int → Int → xj_M → Option (Int × xj_M)) (f : Nat) (x0 : Nat) (x1 : Nat) (x2 : Int) (x3 : Int) (x4 : Int) (x5 : Int) (M : xj_M) : Option (Int × xj_M) := (if (13) < (x4) then f105_187  r4 f (x0) (x1) (x2) (x3) (x4) (x5) M else (if (32) ≤ (x2) then f105_187  r4 f (x0) (x1) (x2) (x3) (x4) (x5) M else ((xq_gr 7 4 (x0) M).bind fun v131 => ((xq_gr 0 0 (x1) M).bind fun v133 => ((xq_ai 3 (v133) (x3) M).bind fun v135 => ((xq_gr 0 1 (x1) M).bind fun v137 => ((xq_al (v137) (x3) M).bind fun v139 => ((xq_is 7 (x0) M).bind fun _ => ((f106  f (x0) (x4) (xshr (v135) (8)) (v139) M).bind fun R143 => ((xq_sl (v131) (x2) (R143.1) R143.2).bind fun M145 => f105_229  r4 f (x0) (x1) (xwr ((x2) + (1))) (x3) (x5) M145))))))))))
theorem k105_141 {d f : Nat}  {r4 : Nat → Nat → Int → Int → xj_M → Option (Int × xj_M)}  (hr4 : ∀ {x0 : Nat} {x1 : Nat} {x2 : Int} {x3 : Int} {M : xj_M} {R : Int × xj_M}, xin x2 → xin x3 → r4 x0 x1 x2 x3 M = some R → xW (d + 3) (none, d + 3, none) xr_105 (4, [(0, xR_ x0), (1, xR_ x1), (2, xI x2), (3, xI x3)], [], M) (xQl R)) {x0 : Nat} {x1 : Nat} {x2 : Int} {x3 : Int} {x4 : Int} {x5 : Int} {M : xj_M} {R : Int × xj_M} (hx2 : xin x2) (hx3 : xin x3) (hx4 : xin x4) (hx5 : xin x5) (h : f105_141  r4 f x0 x1 x2 x3 x4 x5 M = some R) : xW (d + 3) (none, d + 3, none) xr_105 (141, [(0, xR_ x0), (1, xR_ x1), (2, xI x2), (3, xI x3), (4, xI x4), (5, xI x5)], [], M) (xQl R) := by
  unfold f105_141 at h
  refine xe_ldn (ins := .iload 4) (len := 2) (by decide +kernel) rfl rfl rfl rfl ?_
  refine xe_bipush (n := 13) (by decide +kernel) (by decide) rfl ?_
  refine xe_icmpgt (off := 42) (t := 187) (by decide +kernel) (by decide) rfl hx4 (show xin (13) by decide) (fun c129 => ?_) (fun c129 => ?_)
  · rw [if_pos c129] at h
    refine xW_lv rfl (l := [(0, xR_ (x0)), (1, xR_ (x1)), (2, xI (x2)), (3, xI (x3)), (4, xI (x4)), (5, xI (x5))]) (xsb_of ⟨rfl, rfl, rfl, rfl, rfl, rfl, trivial⟩ (show [0, 1, 2, 3, 4, 5].Nodup by decide)) ?_
    exact k105_187  hr4 hx2 hx3 hx4 hx5 h
  · rw [if_neg c129] at h
    refine xe_ldn (ins := .iload_n 2) (len := 1) (by decide +kernel) rfl rfl rfl rfl ?_
    refine xe_bipush (n := 32) (by decide +kernel) (by decide) rfl ?_
    refine xe_icmpge (off := 36) (t := 187) (by decide +kernel) (by decide) rfl hx2 (show xin (32) by decide) (fun c130 => ?_) (fun c130 => ?_)
    · rw [if_pos c130] at h
      refine xW_lv rfl (l := [(0, xR_ (x0)), (1, xR_ (x1)), (2, xI (x2)), (3, xI (x3)), (4, xI (x4)), (5, xI (x5))]) (xsb_of ⟨rfl, rfl, rfl, rfl, rfl, rfl, trivial⟩ (show [0, 1, 2, 3, 4, 5].Nodup by decide)) ?_
      exact k105_187  hr4 hx2 hx3 hx4 hx5 h
    · rw [if_neg c130] at h
      refine xe_alr (ins := .aload_n 0) (len := 1) (i := 0) (by decide +kernel) rfl rfl rfl rfl rfl ?_
      obtain ⟨v131, e132, h⟩ := xbnd h
      refine xs_gr (i := 18) (c := 7) (k := 4) (by decide +kernel) (by decide) (by decide +kernel) e132 rfl ?_
      refine xe_ldn (ins := .iload_n 2) (len := 1) (by decide +kernel) rfl rfl rfl rfl ?_
      refine xe_alr (ins := .aload_n 0) (len := 1) (i := 0) (by decide +kernel) rfl rfl rfl rfl rfl ?_
      refine xe_ldn (ins := .iload 4) (len := 2) (by decide +kernel) rfl rfl rfl rfl ?_
      refine xe_alr (ins := .aload_n 1) (len := 1) (i := 1) (by decide +kernel) rfl rfl rfl rfl rfl ?_
      obtain ⟨v133, e134, h⟩ := xbnd h
      refine xs_gr (i := 105) (c := 0) (k := 0) (by decide +kernel) (by decide) (by decide +kernel) e134 rfl ?_
      refine xe_ldn (ins := .iload_n 3) (len := 1) (by decide +kernel) rfl rfl rfl rfl ?_
      obtain ⟨v135, e136, h⟩ := xbnd h
      refine xs_iald rfl (by decide +kernel) hx3 e136 rfl ?_
      refine xe_bipush (n := 8) (by decide +kernel) (by decide) rfl ?_
      refine xe_ishr (by decide +kernel) rfl ?_
      refine xe_alr (ins := .aload_n 1) (len := 1) (i := 1) (by decide +kernel) rfl rfl rfl rfl rfl ?_
      obtain ⟨v137, e138, h⟩ := xbnd h
      refine xs_gr (i := 112) (c := 0) (k := 1) (by decide +kernel) (by decide) (by decide +kernel) e138 rfl ?_
      refine xe_ldn (ins := .iload_n 3) (len := 1) (by decide +kernel) rfl rfl rfl rfl ?_
      obtain ⟨v139, e140, h⟩ := xbnd h
      refine xs_lald (by decide +kernel) hx3 e140 rfl ?_
      obtain ⟨_, e142, h⟩ := xbnd h
      obtain ⟨R143, e141, h⟩ := xbnd h
      refine xs_cv (i := 123) (j := 106) (ar := [xZ (v139), xI (xshr (v135) (8)), xI (x4)]) (rest := [xI (x2), xR_ (v131)]) (r2 := xr_106) (by decide +kernel) (by decide +kernel) (by decide +kernel) xr_106_e rfl (by decide) (by simp only [List.map_cons, List.map_nil, List.sum_cons, List.sum_nil, xR_cat, xI_cat, xZ_cat]; decide) e142 ?_
      refine xc_l (k106 (d := d + 0)  hx4 (xin_of _) (xq_al_in e140) e141) rfl (fun hi144 => ?_)
      obtain ⟨M145, e146, h⟩ := xbnd h
      refine xs_last (by decide +kernel) hx2 e146 rfl ?_
      refine xe_iincr (i := 2) (n := 1) (by decide +kernel) (by decide) rfl (xk_k (show ¬ (0 : Nat) = 2 by decide) (Or.inl (show ¬ (0 + 1 : Nat) = 2 by decide)) (xk_k (show ¬ (1 : Nat) = 2 by decide) (Or.inr (xR_cat _)) (xk_d rfl (xk_k (show ¬ (3 : Nat) = 2 by decide) (Or.inl (show ¬ (3 + 1 : Nat) = 2 by decide)) (xk_k (show ¬ (4 : Nat) = 2 by decide) (Or.inl (show ¬ (4 + 1 : Nat) = 2 by decide)) (xk_k (show ¬ (5 : Nat) = 2 by decide) (Or.inl (show ¬ (5 + 1 : Nat) = 2 by decide)) xk_n)))))) rfl ?_
      refine xe_goto (off := 45) (nx := 229) (by decide +kernel) (by decide) ?_
      refine xW_lv rfl (l := [(0, xR_ (x0)), (1, xR_ (x1)), (2, xI (xwr ((x2) + (1)))), (3, xI (x3)), (5, xI (x5))]) (xsb_of ⟨rfl, rfl, rfl, rfl, rfl, trivial⟩ (show [2, 0, 1, 3, 4, 5].Nodup by decide)) ?_
      exact k105_229  hr4 (xin_wr _) hx3 hx5 h
def f105_4b  (r4 : Nat → Nat → Int → Int → xj_M → Option (Int × xj_M)) (f : Nat) (x0 : Nat) (x1 : Nat) (x2 : Int) (x3 : Int) (M : xj_M) : Option (Int × xj_M) := ((xq_gr 0 0 (x1) M).bind fun v147 => ((xq_ln (v147) M).bind fun v149 => (if (v149) ≤ (x3) then ((xq_gr 7 4 (x0) M).bind fun v152 => ((xq_al (v152) (0) M).bind fun v154 => (some (v154, M)))) else ((xq_gr 0 0 (x1) M).bind fun v156 => ((xq_ai 3 (v156) (x3) M).bind fun v158 => (if ¬ (xand (v158) (255)) = (15) then (if ¬ (xand (v158) (255)) = (14) then f105_141  r4 f (x0) (x1) (x2) (x3) (xand (v158) (255)) (x3) M else (if (x2) ≤ 0 then f105_141  r4 f (x0) (x1) (x2) (x3) (xand (v158) (255)) (x3) M else ((xq_gr 7 4 (x0) M).bind fun v163 => ((xq_al (v163) (xwr ((x2) - (1))) M).bind fun v165 => (if (-1000000000000) ≤ (v165) then f105_84  r4 f (x0) (x1) (x2) (x3) (v165) (0) M else f105_84  r4 f (x0) (x1) (x2) (x3) (v165) (1) M))))) else ((xq_gr 0 1 (x1) M).bind fun v168 => ((xq_al (v168) (x3) M).bind fun v170 => f105_229  r4 f (x0) (x1) (x2) (x3) (xwr ((xwr (v170)) - (1))) M))))))))
theorem k105_4b {d f : Nat}  {r4 : Nat → Nat → Int → Int → xj_M → Option (Int × xj_M)}  (hr4 : ∀ {x0 : Nat} {x1 : Nat} {x2 : Int} {x3 : Int} {M : xj_M} {R : Int × xj_M}, xin x2 → xin x3 → r4 x0 x1 x2 x3 M = some R → xW (d + 3) (none, d + 3, none) xr_105 (4, [(0, xR_ x0), (1, xR_ x1), (2, xI x2), (3, xI x3)], [], M) (xQl R)) {x0 : Nat} {x1 : Nat} {x2 : Int} {x3 : Int} {M : xj_M} {R : Int × xj_M} (hx2 : xin x2) (hx3 : xin x3) (h : f105_4b  r4 f x0 x1 x2 x3 M = some R) : xW (d + 3) (none, d + 3, none) xr_105 (4, [(0, xR_ x0), (1, xR_ x1), (2, xI x2), (3, xI x3)], [], M) (xQl R) := by
  unfold f105_4b at h
  refine xe_ldn (ins := .iload_n 3) (len := 1) (by decide +kernel) rfl rfl rfl rfl ?_
  refine xe_alr (ins := .aload_n 1) (len := 1) (i := 1) (by decide +kernel) rfl rfl rfl rfl rfl ?_
  obtain ⟨v147, e148, h⟩ := xbnd h
  refine xs_gr (i := 105) (c := 0) (k := 0) (by decide +kernel) (by decide) (by decide +kernel) e148 rfl ?_
  obtain ⟨v149, e150, h⟩ := xbnd h
  refine xs_alen rfl (by decide +kernel) e150 rfl ?_
  refine xe_icmpge (off := 232) (t := 242) (by decide +kernel) (by decide) rfl hx3 (xq_ln_in e150) (fun c151 => ?_) (fun c151 => ?_)
  · rw [if_pos c151] at h
    refine xe_alr (ins := .aload_n 0) (len := 1) (i := 0) (by decide +kernel) rfl rfl rfl rfl rfl ?_
    obtain ⟨v152, e153, h⟩ := xbnd h
    refine xs_gr (i := 18) (c := 7) (k := 4) (by decide +kernel) (by decide) (by decide +kernel) e153 rfl ?_
    refine xe_iconst (n := 0) (by decide +kernel) rfl ?_
    obtain ⟨v154, e155, h⟩ := xbnd h
    refine xs_lald (by decide +kernel) (show xin (0) by decide) e155 rfl ?_
    cases h
    exact xe_ret_l (by decide +kernel) rfl ⟨rfl, rfl, (xq_al_in e155)⟩
  · rw [if_neg c151] at h
    refine xe_alr (ins := .aload_n 1) (len := 1) (i := 1) (by decide +kernel) rfl rfl rfl rfl rfl ?_
    obtain ⟨v156, e157, h⟩ := xbnd h
    refine xs_gr (i := 105) (c := 0) (k := 0) (by decide +kernel) (by decide) (by decide +kernel) e157 rfl ?_
    refine xe_ldn (ins := .iload_n 3) (len := 1) (by decide +kernel) rfl rfl rfl rfl ?_
    obtain ⟨v158, e159, h⟩ := xbnd h
    refine xs_iald rfl (by decide +kernel) hx3 e159 rfl ?_
    refine xe_sipush (n := 255) (by decide +kernel) (by decide) rfl ?_
    refine xe_iand (by decide +kernel) rfl ?_
    refine xe_isr (ins := .istore 4) (len := 2) (i := 4) (by decide +kernel) rfl rfl rfl (by decide) (xk_k (show ¬ (0 : Nat) = 4 by decide) (Or.inl (show ¬ (0 + 1 : Nat) = 4 by decide)) (xk_k (show ¬ (1 : Nat) = 4 by decide) (Or.inl (show ¬ (1 + 1 : Nat) = 4 by decide)) (xk_k (show ¬ (2 : Nat) = 4 by decide) (Or.inl (show ¬ (2 + 1 : Nat) = 4 by decide)) (xk_k (show ¬ (3 : Nat) = 4 by decide) (Or.inr (xI_cat _)) xk_n)))) rfl ?_
    refine xe_ldn (ins := .iload_n 3) (len := 1) (by decide +kernel) rfl rfl rfl rfl ?_
    refine xe_isr (ins := .istore 5) (len := 2) (i := 5) (by decide +kernel) rfl rfl rfl (by decide) (xk_k (show ¬ (4 : Nat) = 5 by decide) (Or.inr (xI_cat _)) (xk_k (show ¬ (0 : Nat) = 5 by decide) (Or.inl (show ¬ (0 + 1 : Nat) = 5 by decide)) (xk_k (show ¬ (1 : Nat) = 5 by decide) (Or.inl (show ¬ (1 + 1 : Nat) = 5 by decide)) (xk_k (show ¬ (2 : Nat) = 5 by decide) (Or.inl (show ¬ (2 + 1 : Nat) = 5 by decide)) (xk_k (show ¬ (3 : Nat) = 5 by decide) (Or.inl (show ¬ (3 + 1 : Nat) = 5 by decide)) xk_n))))) rfl ?_
    refine xe_ldn (ins := .iload 4) (len := 2) (by decide +kernel) rfl rfl rfl rfl ?_
    refine xe_bipush (n := 15) (by decide +kernel) (by decide) rfl ?_
    refine xe_icmpne (off := 17) (t := 49) (by decide +kernel) (by decide) rfl (xin_of _) (show xin (15) by decide) (fun c160 => ?_) (fun c160 => ?_)
    · rw [if_pos c160] at h
      refine xe_ldn (ins := .iload 4) (len := 2) (by decide +kernel) rfl rfl rfl rfl ?_
      refine xe_bipush (n := 14) (by decide +kernel) (by decide) rfl ?_
      refine xe_icmpne (off := 88) (t := 141) (by decide +kernel) (by decide) rfl (xin_of _) (show xin (14) by decide) (fun c161 => ?_) (fun c161 => ?_)
      · rw [if_pos c161] at h
        refine xW_lv rfl (l := [(0, xR_ (x0)), (1, xR_ (x1)), (2, xI (x2)), (3, xI (x3)), (4, xI (xand (v158) (255))), (5, xI (x3))]) (xsb_of ⟨rfl, rfl, rfl, rfl, rfl, rfl, trivial⟩ (show [5, 4, 0, 1, 2, 3].Nodup by decide)) ?_
        exact k105_141  hr4 hx2 hx3 (xin_of _) hx3 h
      · rw [if_neg c161] at h
        refine xe_ldn (ins := .iload_n 2) (len := 1) (by decide +kernel) rfl rfl rfl rfl ?_
        refine xe_ifle (off := 84) (t := 141) (by decide +kernel) (by decide) rfl hx2 (fun c162 => ?_) (fun c162 => ?_)
        · rw [if_pos c162] at h
          refine xW_lv rfl (l := [(0, xR_ (x0)), (1, xR_ (x1)), (2, xI (x2)), (3, xI (x3)), (4, xI (xand (v158) (255))), (5, xI (x3))]) (xsb_of ⟨rfl, rfl, rfl, rfl, rfl, rfl, trivial⟩ (show [5, 4, 0, 1, 2, 3].Nodup by decide)) ?_
          exact k105_141  hr4 hx2 hx3 (xin_of _) hx3 h
        · rw [if_neg c162] at h
          refine xe_alr (ins := .aload_n 0) (len := 1) (i := 0) (by decide +kernel) rfl rfl rfl rfl rfl ?_
          obtain ⟨v163, e164, h⟩ := xbnd h
          refine xs_gr (i := 18) (c := 7) (k := 4) (by decide +kernel) (by decide) (by decide +kernel) e164 rfl ?_
          refine xe_ldn (ins := .iload_n 2) (len := 1) (by decide +kernel) rfl rfl rfl rfl ?_
          refine xe_iconst (n := 1) (by decide +kernel) rfl ?_
          refine xe_isub (by decide +kernel) rfl ?_
          obtain ⟨v165, e166, h⟩ := xbnd h
          refine xs_lald (by decide +kernel) (xin_wr _) e166 rfl ?_
          refine xe_lsr (ins := .lstore 6) (len := 2) (i := 6) (by decide +kernel) rfl rfl rfl (by decide) (xk2_k (show ¬ (5 : Nat) = 6 by decide) (show ¬ (5 : Nat) = 6 + 1 by decide) (Or.inr (xI_cat _)) (xk2_k (show ¬ (4 : Nat) = 6 by decide) (show ¬ (4 : Nat) = 6 + 1 by decide) (Or.inl (show ¬ (4 + 1 : Nat) = 6 by decide)) (xk2_k (show ¬ (0 : Nat) = 6 by decide) (show ¬ (0 : Nat) = 6 + 1 by decide) (Or.inl (show ¬ (0 + 1 : Nat) = 6 by decide)) (xk2_k (show ¬ (1 : Nat) = 6 by decide) (show ¬ (1 : Nat) = 6 + 1 by decide) (Or.inl (show ¬ (1 + 1 : Nat) = 6 by decide)) (xk2_k (show ¬ (2 : Nat) = 6 by decide) (show ¬ (2 : Nat) = 6 + 1 by decide) (Or.inl (show ¬ (2 + 1 : Nat) = 6 by decide)) (xk2_k (show ¬ (3 : Nat) = 6 by decide) (show ¬ (3 : Nat) = 6 + 1 by decide) (Or.inl (show ¬ (3 + 1 : Nat) = 6 by decide)) xk2_n)))))) rfl ?_
          refine xe_ldn (ins := .lload 6) (len := 2) (by decide +kernel) rfl rfl rfl rfl ?_
          refine xe_ldc2 (i := 121) (n := -1000000000000) (by decide +kernel) (by decide +kernel) rfl ?_
          refine xe_lcmp (by decide +kernel) rfl (xq_al_in e166) (show xiN (-1000000000000) by decide) ?_
          refine xe_ifge (off := 7) (t := 83) (by decide +kernel) (by decide) rfl (xin_cmp8 _ _) (fun c167 => ?_) (fun c167 => ?_)
          · have c167 := xcmp8_ge.mp c167; rw [if_pos c167] at h
            refine xe_iconst (n := 0) (by decide +kernel) rfl ?_
            refine xW_lv rfl (l := [(0, xR_ (x0)), (1, xR_ (x1)), (2, xI (x2)), (3, xI (x3)), (6, xZ (v165))]) (xsb_of ⟨rfl, rfl, rfl, rfl, rfl, trivial⟩ (show [6, 5, 4, 0, 1, 2, 3].Nodup by decide)) ?_
            exact k105_84  hr4 hx2 hx3 (xq_al_in e166) (show xin (0) by decide) h
          · have c167 := (not_congr xcmp8_ge).mp c167; rw [if_neg c167] at h
            refine xe_iconst (n := 1) (by decide +kernel) rfl ?_
            refine xe_goto (off := 4) (nx := 84) (by decide +kernel) (by decide) ?_
            refine xW_lv rfl (l := [(0, xR_ (x0)), (1, xR_ (x1)), (2, xI (x2)), (3, xI (x3)), (6, xZ (v165))]) (xsb_of ⟨rfl, rfl, rfl, rfl, rfl, trivial⟩ (show [6, 5, 4, 0, 1, 2, 3].Nodup by decide)) ?_
            exact k105_84  hr4 hx2 hx3 (xq_al_in e166) (show xin (1) by decide) h
    · rw [if_neg c160] at h
      refine xe_alr (ins := .aload_n 1) (len := 1) (i := 1) (by decide +kernel) rfl rfl rfl rfl rfl ?_
      obtain ⟨v168, e169, h⟩ := xbnd h
      refine xs_gr (i := 112) (c := 0) (k := 1) (by decide +kernel) (by decide) (by decide +kernel) e169 rfl ?_
      refine xe_ldn (ins := .iload_n 3) (len := 1) (by decide +kernel) rfl rfl rfl rfl ?_
      obtain ⟨v170, e171, h⟩ := xbnd h
      refine xs_lald (by decide +kernel) hx3 e171 rfl ?_
      refine xe_l2i (by decide +kernel) rfl ?_
      refine xe_iconst (n := 1) (by decide +kernel) rfl ?_
      refine xe_isub (by decide +kernel) rfl ?_
      refine xe_isr (ins := .istore 5) (len := 2) (i := 5) (by decide +kernel) rfl rfl rfl (by decide) (xk_d rfl (xk_k (show ¬ (4 : Nat) = 5 by decide) (Or.inr (xI_cat _)) (xk_k (show ¬ (0 : Nat) = 5 by decide) (Or.inl (show ¬ (0 + 1 : Nat) = 5 by decide)) (xk_k (show ¬ (1 : Nat) = 5 by decide) (Or.inl (show ¬ (1 + 1 : Nat) = 5 by decide)) (xk_k (show ¬ (2 : Nat) = 5 by decide) (Or.inl (show ¬ (2 + 1 : Nat) = 5 by decide)) (xk_k (show ¬ (3 : Nat) = 5 by decide) (Or.inl (show ¬ (3 + 1 : Nat) = 5 by decide)) xk_n)))))) rfl ?_
      refine xe_goto (off := 183) (nx := 229) (by decide +kernel) (by decide) ?_
      refine xW_lv rfl (l := [(0, xR_ (x0)), (1, xR_ (x1)), (2, xI (x2)), (3, xI (x3)), (5, xI (xwr ((xwr (v170)) - (1))))]) (xsb_of ⟨rfl, rfl, rfl, rfl, rfl, trivial⟩ (show [5, 4, 0, 1, 2, 3].Nodup by decide)) ?_
      exact k105_229  hr4 hx2 hx3 (xin_wr _) h
def f105_4   (f : Nat) : Nat → Nat → Nat → Int → Int → xj_M → Option (Int × xj_M)
  | 0, _, _, _, _, _ => none
  | n + 1, x0, x1, x2, x3, M => f105_4b   (f105_4   f n) f x0 x1 x2 x3 M
theorem k105_4 {d f : Nat}     : ∀ {n : Nat} {x0 : Nat} {x1 : Nat} {x2 : Int} {x3 : Int} {M : xj_M} {R : Int × xj_M}, xin x2 → xin x3 → f105_4   f n x0 x1 x2 x3 M = some R → xW (d + 3) (none, d + 3, none) xr_105 (4, [(0, xR_ x0), (1, xR_ x1), (2, xI x2), (3, xI x3)], [], M) (xQl R) := by
  intro n
  induction n with
  | zero => intros; rename_i h; cases h
  | succ n ih => intros; rename_i h; exact k105_4b   ih (by assumption) (by assumption) h
def f105  (f : Nat) (a0 : Nat) (a1 : Nat) (M : xj_M) : Option (Int × xj_M) := f105_4   f f (a0) (a1) (0) (0) M
theorem k105 {d f : Nat}   {a0 : Nat} {a1 : Nat} {M : xj_M} {R : Int × xj_M}  (h : f105  f a0 a1 M = some R) : xT (d + 4) 105 [xR_ a0, xR_ a1] M (xQl R) := by
  refine xT_m xr_105_e (X := (none, d + 3, none)) rfl (xa_1 (xR_cat _) (xa_1 (xR_cat _) xa_n)) (by decide) ?_
  unfold f105 at h
  refine xe_iconst (n := 0) (by decide +kernel) rfl ?_
  refine xe_isr (ins := .istore_n 2) (len := 1) (i := 2) (by decide +kernel) rfl rfl rfl (by decide) (xk_k (show ¬ (0 : Nat) = 2 by decide) (Or.inl (show ¬ (0 + 1 : Nat) = 2 by decide)) (xk_k (show ¬ (1 : Nat) = 2 by decide) (Or.inr (xR_cat _)) xk_n)) rfl ?_
  refine xe_iconst (n := 0) (by decide +kernel) rfl ?_
  refine xe_isr (ins := .istore_n 3) (len := 1) (i := 3) (by decide +kernel) rfl rfl rfl (by decide) (xk_k (show ¬ (2 : Nat) = 3 by decide) (Or.inr (xI_cat _)) (xk_k (show ¬ (0 : Nat) = 3 by decide) (Or.inl (show ¬ (0 + 1 : Nat) = 3 by decide)) (xk_k (show ¬ (1 : Nat) = 3 by decide) (Or.inl (show ¬ (1 + 1 : Nat) = 3 by decide)) xk_n))) rfl ?_
  refine xW_lv rfl (l := [(0, xR_ (a0)), (1, xR_ (a1)), (2, xI (0)), (3, xI (0))]) (xsb_of ⟨rfl, rfl, rfl, rfl, trivial⟩ (show [3, 2, 0, 1].Nodup by decide)) ?_
  exact k105_4   (show xin (0) by decide) (show xin (0) by decide) h
-- ChangeHouse$Tape.nameKind
def xr_115 : xj_mR := (8, yX8_nameKind, cX8_nameKind, 3, (Option.some Jvm.ClassFile.FieldType.int), 2, false, (3, 149), (1, 2))
set_option maxRecDepth 20000 in
theorem xr_115_e : xj_row 115 = some xr_115 := rfl
def f115_129   (f : Nat) (y0 : Int) (M : xj_M) : Option (Int × xj_M) := (some (y0, M))
theorem k115_129 {d f : Nat}     {y0 : Int} {M : xj_M} {R : Int × xj_M} (hy0 : xin y0) (h : f115_129   f y0 M = some R) : xW (d + 5) (none, d + 5, none) xr_115 (129, [], [xI y0], M) (xQi R) := by
  unfold f115_129 at h
  cases h
  exact xe_ret_i (ty := .int) (by decide +kernel) rfl rfl ⟨rfl, rfl, hy0⟩
def f115  (f : Nat) (a0 : Nat) (a1 : Int) (a2 : Int) (M : xj_M) : Option (Int × xj_M) := ((xq_is 8 (a0) M).bind fun _ => ((f116  f (a0) (a1) (a2) (1) M).bind fun R103 => (if (R103.1) = 0 then ((xq_is 8 (a0) R103.2).bind fun _ => ((f116  f (a0) (a1) (a2) (2) R103.2).bind fun R108 => (if (R108.1) = 0 then ((xq_is 8 (a0) R108.2).bind fun _ => ((f116  f (a0) (a1) (a2) (3) R108.2).bind fun R113 => (if (R113.1) = 0 then ((xq_is 8 (a0) R113.2).bind fun _ => ((f116  f (a0) (a1) (a2) (4) R113.2).bind fun R118 => (if (R118.1) = 0 then ((xq_is 8 (a0) R118.2).bind fun _ => ((f116  f (a0) (a1) (a2) (5) R118.2).bind fun R123 => (if (R123.1) = 0 then ((xq_is 8 (a0) R123.2).bind fun _ => ((f116  f (a0) (a1) (a2) (6) R123.2).bind fun R128 => (if (R128.1) = 0 then ((xq_is 8 (a0) R128.2).bind fun _ => ((f116  f (a0) (a1) (a2) (7) R128.2).bind fun R133 => (if (R133.1) = 0 then ((xq_is 8 (a0) R133.2).bind fun _ => ((f116  f (a0) (a1) (a2) (8) R133.2).bind fun R138 => (if (R138.1) = 0 then f115_129   f (1) R138.2 else f115_129   f (13) R138.2))) else f115_129   f (12) R133.2))) else f115_129   f (11) R128.2))) else f115_129   f (10) R123.2))) else f115_129   f (9) R118.2))) else f115_129   f (8) R113.2))) else f115_129   f (7) R108.2))) else f115_129   f (6) R103.2)))
theorem k115 {d f : Nat}   {a0 : Nat} {a1 : Int} {a2 : Int} {M : xj_M} {R : Int × xj_M} (ha1 : xin a1) (ha2 : xin a2) (h : f115  f a0 a1 a2 M = some R) : xT (d + 6) 115 [xR_ a0, xI a1, xI a2] M (xQi R) := by
  refine xT_m xr_115_e (X := (none, d + 5, none)) rfl (xa_1 (xR_cat _) (xa_1 (xI_cat _) (xa_1 (xI_cat _) xa_n))) (by decide) ?_
  unfold f115 at h
  refine xe_alr (ins := .aload_n 0) (len := 1) (i := 0) (by decide +kernel) rfl rfl rfl rfl rfl ?_
  refine xe_ldn (ins := .iload_n 1) (len := 1) (by decide +kernel) rfl rfl rfl rfl ?_
  refine xe_ldn (ins := .iload_n 2) (len := 1) (by decide +kernel) rfl rfl rfl rfl ?_
  refine xe_ldcs (x := 1) (by decide) (ins := .ldc 79) (len := 2) (by decide +kernel) rfl rfl rfl rfl rfl rfl rfl ?_
  obtain ⟨_, e102, h⟩ := xbnd h
  obtain ⟨R103, e101, h⟩ := xbnd h
  refine xs_cv (i := 81) (j := 116) (ar := [xR_ (1), xI (a2), xI (a1)]) (rest := []) (r2 := xr_116) (by decide +kernel) (by decide +kernel) (by decide +kernel) xr_116_e rfl (by decide) (by decide) e102 ?_
  refine xc_i (k116 (d := d + 0)  ha1 ha2 e101) rfl (fun hi104 => ?_)
  refine xe_ifeq (off := 8) (t := 16) (by decide +kernel) (by decide) rfl hi104 (fun c105 => ?_) (fun c105 => ?_)
  · rw [if_pos c105] at h
    refine xe_alr (ins := .aload_n 0) (len := 1) (i := 0) (by decide +kernel) rfl rfl rfl rfl rfl ?_
    refine xe_ldn (ins := .iload_n 1) (len := 1) (by decide +kernel) rfl rfl rfl rfl ?_
    refine xe_ldn (ins := .iload_n 2) (len := 1) (by decide +kernel) rfl rfl rfl rfl ?_
    refine xe_ldcs (x := 2) (by decide) (ins := .ldc 85) (len := 2) (by decide +kernel) rfl rfl rfl rfl rfl rfl rfl ?_
    obtain ⟨_, e107, h⟩ := xbnd h
    obtain ⟨R108, e106, h⟩ := xbnd h
    refine xs_cv (i := 81) (j := 116) (ar := [xR_ (2), xI (a2), xI (a1)]) (rest := []) (r2 := xr_116) (by decide +kernel) (by decide +kernel) (by decide +kernel) xr_116_e rfl (by decide) (by decide) e107 ?_
    refine xc_i (k116 (d := d + 0)  ha1 ha2 e106) rfl (fun hi109 => ?_)
    refine xe_ifeq (off := 8) (t := 32) (by decide +kernel) (by decide) rfl hi109 (fun c110 => ?_) (fun c110 => ?_)
    · rw [if_pos c110] at h
      refine xe_alr (ins := .aload_n 0) (len := 1) (i := 0) (by decide +kernel) rfl rfl rfl rfl rfl ?_
      refine xe_ldn (ins := .iload_n 1) (len := 1) (by decide +kernel) rfl rfl rfl rfl ?_
      refine xe_ldn (ins := .iload_n 2) (len := 1) (by decide +kernel) rfl rfl rfl rfl ?_
      refine xe_ldcs (x := 3) (by decide) (ins := .ldc 87) (len := 2) (by decide +kernel) rfl rfl rfl rfl rfl rfl rfl ?_
      obtain ⟨_, e112, h⟩ := xbnd h
      obtain ⟨R113, e111, h⟩ := xbnd h
      refine xs_cv (i := 81) (j := 116) (ar := [xR_ (3), xI (a2), xI (a1)]) (rest := []) (r2 := xr_116) (by decide +kernel) (by decide +kernel) (by decide +kernel) xr_116_e rfl (by decide) (by decide) e112 ?_
      refine xc_i (k116 (d := d + 0)  ha1 ha2 e111) rfl (fun hi114 => ?_)
      refine xe_ifeq (off := 8) (t := 48) (by decide +kernel) (by decide) rfl hi114 (fun c115 => ?_) (fun c115 => ?_)
      · rw [if_pos c115] at h
        refine xe_alr (ins := .aload_n 0) (len := 1) (i := 0) (by decide +kernel) rfl rfl rfl rfl rfl ?_
        refine xe_ldn (ins := .iload_n 1) (len := 1) (by decide +kernel) rfl rfl rfl rfl ?_
        refine xe_ldn (ins := .iload_n 2) (len := 1) (by decide +kernel) rfl rfl rfl rfl ?_
        refine xe_ldcs (x := 4) (by decide) (ins := .ldc 89) (len := 2) (by decide +kernel) rfl rfl rfl rfl rfl rfl rfl ?_
        obtain ⟨_, e117, h⟩ := xbnd h
        obtain ⟨R118, e116, h⟩ := xbnd h
        refine xs_cv (i := 81) (j := 116) (ar := [xR_ (4), xI (a2), xI (a1)]) (rest := []) (r2 := xr_116) (by decide +kernel) (by decide +kernel) (by decide +kernel) xr_116_e rfl (by decide) (by decide) e117 ?_
        refine xc_i (k116 (d := d + 0)  ha1 ha2 e116) rfl (fun hi119 => ?_)
        refine xe_ifeq (off := 8) (t := 64) (by decide +kernel) (by decide) rfl hi119 (fun c120 => ?_) (fun c120 => ?_)
        · rw [if_pos c120] at h
          refine xe_alr (ins := .aload_n 0) (len := 1) (i := 0) (by decide +kernel) rfl rfl rfl rfl rfl ?_
          refine xe_ldn (ins := .iload_n 1) (len := 1) (by decide +kernel) rfl rfl rfl rfl ?_
          refine xe_ldn (ins := .iload_n 2) (len := 1) (by decide +kernel) rfl rfl rfl rfl ?_
          refine xe_ldcs (x := 5) (by decide) (ins := .ldc 91) (len := 2) (by decide +kernel) rfl rfl rfl rfl rfl rfl rfl ?_
          obtain ⟨_, e122, h⟩ := xbnd h
          obtain ⟨R123, e121, h⟩ := xbnd h
          refine xs_cv (i := 81) (j := 116) (ar := [xR_ (5), xI (a2), xI (a1)]) (rest := []) (r2 := xr_116) (by decide +kernel) (by decide +kernel) (by decide +kernel) xr_116_e rfl (by decide) (by decide) e122 ?_
          refine xc_i (k116 (d := d + 0)  ha1 ha2 e121) rfl (fun hi124 => ?_)
          refine xe_ifeq (off := 8) (t := 80) (by decide +kernel) (by decide) rfl hi124 (fun c125 => ?_) (fun c125 => ?_)
          · rw [if_pos c125] at h
            refine xe_alr (ins := .aload_n 0) (len := 1) (i := 0) (by decide +kernel) rfl rfl rfl rfl rfl ?_
            refine xe_ldn (ins := .iload_n 1) (len := 1) (by decide +kernel) rfl rfl rfl rfl ?_
            refine xe_ldn (ins := .iload_n 2) (len := 1) (by decide +kernel) rfl rfl rfl rfl ?_
            refine xe_ldcs (x := 6) (by decide) (ins := .ldc 93) (len := 2) (by decide +kernel) rfl rfl rfl rfl rfl rfl rfl ?_
            obtain ⟨_, e127, h⟩ := xbnd h
            obtain ⟨R128, e126, h⟩ := xbnd h
            refine xs_cv (i := 81) (j := 116) (ar := [xR_ (6), xI (a2), xI (a1)]) (rest := []) (r2 := xr_116) (by decide +kernel) (by decide +kernel) (by decide +kernel) xr_116_e rfl (by decide) (by decide) e127 ?_
            refine xc_i (k116 (d := d + 0)  ha1 ha2 e126) rfl (fun hi129 => ?_)
            refine xe_ifeq (off := 8) (t := 96) (by decide +kernel) (by decide) rfl hi129 (fun c130 => ?_) (fun c130 => ?_)
            · rw [if_pos c130] at h
              refine xe_alr (ins := .aload_n 0) (len := 1) (i := 0) (by decide +kernel) rfl rfl rfl rfl rfl ?_
              refine xe_ldn (ins := .iload_n 1) (len := 1) (by decide +kernel) rfl rfl rfl rfl ?_
              refine xe_ldn (ins := .iload_n 2) (len := 1) (by decide +kernel) rfl rfl rfl rfl ?_
              refine xe_ldcs (x := 7) (by decide) (ins := .ldc 95) (len := 2) (by decide +kernel) rfl rfl rfl rfl rfl rfl rfl ?_
              obtain ⟨_, e132, h⟩ := xbnd h
              obtain ⟨R133, e131, h⟩ := xbnd h
              refine xs_cv (i := 81) (j := 116) (ar := [xR_ (7), xI (a2), xI (a1)]) (rest := []) (r2 := xr_116) (by decide +kernel) (by decide +kernel) (by decide +kernel) xr_116_e rfl (by decide) (by decide) e132 ?_
              refine xc_i (k116 (d := d + 0)  ha1 ha2 e131) rfl (fun hi134 => ?_)
              refine xe_ifeq (off := 8) (t := 112) (by decide +kernel) (by decide) rfl hi134 (fun c135 => ?_) (fun c135 => ?_)
              · rw [if_pos c135] at h
                refine xe_alr (ins := .aload_n 0) (len := 1) (i := 0) (by decide +kernel) rfl rfl rfl rfl rfl ?_
                refine xe_ldn (ins := .iload_n 1) (len := 1) (by decide +kernel) rfl rfl rfl rfl ?_
                refine xe_ldn (ins := .iload_n 2) (len := 1) (by decide +kernel) rfl rfl rfl rfl ?_
                refine xe_ldcs (x := 8) (by decide) (ins := .ldc 97) (len := 2) (by decide +kernel) rfl rfl rfl rfl rfl rfl rfl ?_
                obtain ⟨_, e137, h⟩ := xbnd h
                obtain ⟨R138, e136, h⟩ := xbnd h
                refine xs_cv (i := 81) (j := 116) (ar := [xR_ (8), xI (a2), xI (a1)]) (rest := []) (r2 := xr_116) (by decide +kernel) (by decide +kernel) (by decide +kernel) xr_116_e rfl (by decide) (by decide) e137 ?_
                refine xc_i (k116 (d := d + 0)  ha1 ha2 e136) rfl (fun hi139 => ?_)
                refine xe_ifeq (off := 8) (t := 128) (by decide +kernel) (by decide) rfl hi139 (fun c140 => ?_) (fun c140 => ?_)
                · rw [if_pos c140] at h
                  refine xe_iconst (n := 1) (by decide +kernel) rfl ?_
                  refine xW_lv rfl (l := []) (xsb_of trivial (show [0, 1, 2].Nodup by decide)) ?_
                  exact k115_129   (show xin (1) by decide) h
                · rw [if_neg c140] at h
                  refine xe_bipush (n := 13) (by decide +kernel) (by decide) rfl ?_
                  refine xe_goto (off := 4) (nx := 129) (by decide +kernel) (by decide) ?_
                  refine xW_lv rfl (l := []) (xsb_of trivial (show [0, 1, 2].Nodup by decide)) ?_
                  exact k115_129   (show xin (13) by decide) h
              · rw [if_neg c135] at h
                refine xe_bipush (n := 12) (by decide +kernel) (by decide) rfl ?_
                refine xe_goto (off := 20) (nx := 129) (by decide +kernel) (by decide) ?_
                refine xW_lv rfl (l := []) (xsb_of trivial (show [0, 1, 2].Nodup by decide)) ?_
                exact k115_129   (show xin (12) by decide) h
            · rw [if_neg c130] at h
              refine xe_bipush (n := 11) (by decide +kernel) (by decide) rfl ?_
              refine xe_goto (off := 36) (nx := 129) (by decide +kernel) (by decide) ?_
              refine xW_lv rfl (l := []) (xsb_of trivial (show [0, 1, 2].Nodup by decide)) ?_
              exact k115_129   (show xin (11) by decide) h
          · rw [if_neg c125] at h
            refine xe_bipush (n := 10) (by decide +kernel) (by decide) rfl ?_
            refine xe_goto (off := 52) (nx := 129) (by decide +kernel) (by decide) ?_
            refine xW_lv rfl (l := []) (xsb_of trivial (show [0, 1, 2].Nodup by decide)) ?_
            exact k115_129   (show xin (10) by decide) h
        · rw [if_neg c120] at h
          refine xe_bipush (n := 9) (by decide +kernel) (by decide) rfl ?_
          refine xe_goto (off := 68) (nx := 129) (by decide +kernel) (by decide) ?_
          refine xW_lv rfl (l := []) (xsb_of trivial (show [0, 1, 2].Nodup by decide)) ?_
          exact k115_129   (show xin (9) by decide) h
      · rw [if_neg c115] at h
        refine xe_bipush (n := 8) (by decide +kernel) (by decide) rfl ?_
        refine xe_goto (off := 84) (nx := 129) (by decide +kernel) (by decide) ?_
        refine xW_lv rfl (l := []) (xsb_of trivial (show [0, 1, 2].Nodup by decide)) ?_
        exact k115_129   (show xin (8) by decide) h
    · rw [if_neg c110] at h
      refine xe_bipush (n := 7) (by decide +kernel) (by decide) rfl ?_
      refine xe_goto (off := 100) (nx := 129) (by decide +kernel) (by decide) ?_
      refine xW_lv rfl (l := []) (xsb_of trivial (show [0, 1, 2].Nodup by decide)) ?_
      exact k115_129   (show xin (7) by decide) h
  · rw [if_neg c105] at h
    refine xe_bipush (n := 6) (by decide +kernel) (by decide) rfl ?_
    refine xe_goto (off := 116) (nx := 129) (by decide +kernel) (by decide) ?_
    refine xW_lv rfl (l := []) (xsb_of trivial (show [0, 1, 2].Nodup by decide)) ?_
    exact k115_129   (show xin (6) by decide) h
-- ChangeHouse$Ways.next
def xr_132 : xj_mR := (9, yX9_next, cX9_next, 3, (Option.some Jvm.ClassFile.FieldType.boolean), 0, false, (6, 175), (1, 4))
set_option maxRecDepth 20000 in
theorem xr_132_e : xj_row 132 = some xr_132 := rfl
def f132_205  (r2 : Nat → Int → xj_M → Option (Int × xj_M)) (f : Nat) (x0 : Nat) (x1 : Int) (y0 : Int) (y1 : Int) (y2 : Nat) (M : xj_M) : Option (Int × xj_M) := ((xq_pi 9 6 (y2) (xwr ((y1) + (y0))) M).bind fun M101 => r2 (x0) (xwr ((x1) + (1))) M101)
theorem k132_205 {d f : Nat}  {r2 : Nat → Int → xj_M → Option (Int × xj_M)}  (hr2 : ∀ {x0 : Nat} {x1 : Int} {M : xj_M} {R : Int × xj_M}, xin x1 → r2 x0 x1 M = some R → xW (d + 4) (none, d + 4, none) xr_132 (2, [(0, xR_ x0), (1, xI x1)], [], M) (xQi R)) {x0 : Nat} {x1 : Int} {y0 : Int} {y1 : Int} {y2 : Nat} {M : xj_M} {R : Int × xj_M} (hx1 : xin x1) (hy0 : xin y0) (hy1 : xin y1) (h : f132_205  r2 f x0 x1 y0 y1 y2 M = some R) : xW (d + 4) (none, d + 4, none) xr_132 (205, [(0, xR_ x0), (1, xI x1)], [xI y0, xI y1, xR_ y2], M) (xQi R) := by
  unfold f132_205 at h
  refine xe_iadd (by decide +kernel) rfl ?_
  obtain ⟨M101, e102, h⟩ := xbnd h
  refine xs_p (i := 52) (c := 9) (k := 6) (by decide +kernel) (by decide +kernel) (by decide +kernel) e102 rfl ?_
  refine xe_iincr (i := 1) (n := 1) (by decide +kernel) (by decide) rfl (xk_k (show ¬ (0 : Nat) = 1 by decide) (Or.inr (xR_cat _)) (xk_d rfl xk_n)) rfl ?_
  refine xe_goto (off := -210) (nx := 2) (by decide +kernel) (by decide) ?_
  refine xW_lv rfl (l := [(0, xR_ (x0)), (1, xI (xwr ((x1) + (1))))]) (xsb_of ⟨rfl, rfl, trivial⟩ (show [1, 0].Nodup by decide)) ?_
  exact hr2 (xin_wr _) h
def f132_188  (r2 : Nat → Int → xj_M → Option (Int × xj_M)) (f : Nat) (x0 : Nat) (x1 : Int) (M : xj_M) : Option (Int × xj_M) := ((xq_gi 9 6 (x0) M).bind fun v103 => ((xq_gi 9 7 (x0) M).bind fun v105 => (if (v105) = 0 then f132_205  r2 f (x0) (x1) (-1) (v103) (x0) M else f132_205  r2 f (x0) (x1) (1) (v103) (x0) M)))
theorem k132_188 {d f : Nat}  {r2 : Nat → Int → xj_M → Option (Int × xj_M)}  (hr2 : ∀ {x0 : Nat} {x1 : Int} {M : xj_M} {R : Int × xj_M}, xin x1 → r2 x0 x1 M = some R → xW (d + 4) (none, d + 4, none) xr_132 (2, [(0, xR_ x0), (1, xI x1)], [], M) (xQi R)) {x0 : Nat} {x1 : Int} {M : xj_M} {R : Int × xj_M} (hx1 : xin x1) (h : f132_188  r2 f x0 x1 M = some R) : xW (d + 4) (none, d + 4, none) xr_132 (188, [(0, xR_ x0), (1, xI x1)], [], M) (xQi R) := by
  unfold f132_188 at h
  refine xe_alr (ins := .aload_n 0) (len := 1) (i := 0) (by decide +kernel) rfl rfl rfl rfl rfl ?_
  refine xe_dupr (by decide +kernel) rfl ?_
  obtain ⟨v103, e104, h⟩ := xbnd h
  refine xs_gi (i := 52) (c := 9) (k := 6) (by decide +kernel) (by decide) (by decide +kernel) e104 rfl ?_
  refine xe_alr (ins := .aload_n 0) (len := 1) (i := 0) (by decide +kernel) rfl rfl rfl rfl rfl ?_
  obtain ⟨v105, e106, h⟩ := xbnd h
  refine xs_gi (i := 56) (c := 9) (k := 7) (by decide +kernel) (by decide) (by decide +kernel) e106 rfl ?_
  refine xe_ifeq (off := 7) (t := 204) (by decide +kernel) (by decide) rfl (xq_gi_in e106) (fun c107 => ?_) (fun c107 => ?_)
  · rw [if_pos c107] at h
    refine xe_iconst (n := -1) (by decide +kernel) rfl ?_
    refine xW_lv rfl (l := [(0, xR_ (x0)), (1, xI (x1))]) (xsb_of ⟨rfl, rfl, trivial⟩ (show [0, 1].Nodup by decide)) ?_
    exact k132_205  hr2 hx1 (show xin (-1) by decide) (xq_gi_in e104) h
  · rw [if_neg c107] at h
    refine xe_iconst (n := 1) (by decide +kernel) rfl ?_
    refine xe_goto (off := 4) (nx := 205) (by decide +kernel) (by decide) ?_
    refine xW_lv rfl (l := [(0, xR_ (x0)), (1, xI (x1))]) (xsb_of ⟨rfl, rfl, trivial⟩ (show [0, 1].Nodup by decide)) ?_
    exact k132_205  hr2 hx1 (show xin (1) by decide) (xq_gi_in e104) h
def f132_113  (r2 : Nat → Int → xj_M → Option (Int × xj_M)) (f : Nat) (x0 : Nat) (x1 : Int) (y0 : Int) (y1 : Nat) (M : xj_M) : Option (Int × xj_M) := ((xq_pi 9 7 (y1) (y0) M).bind fun M108 => f132_188  r2 f (x0) (x1) M108)
theorem k132_113 {d f : Nat}  {r2 : Nat → Int → xj_M → Option (Int × xj_M)}  (hr2 : ∀ {x0 : Nat} {x1 : Int} {M : xj_M} {R : Int × xj_M}, xin x1 → r2 x0 x1 M = some R → xW (d + 4) (none, d + 4, none) xr_132 (2, [(0, xR_ x0), (1, xI x1)], [], M) (xQi R)) {x0 : Nat} {x1 : Int} {y0 : Int} {y1 : Nat} {M : xj_M} {R : Int × xj_M} (hx1 : xin x1) (hy0 : xin y0) (h : f132_113  r2 f x0 x1 y0 y1 M = some R) : xW (d + 4) (none, d + 4, none) xr_132 (113, [(0, xR_ x0), (1, xI x1)], [xI y0, xR_ y1], M) (xQi R) := by
  unfold f132_113 at h
  obtain ⟨M108, e109, h⟩ := xbnd h
  refine xs_p (i := 56) (c := 9) (k := 7) (by decide +kernel) (by decide +kernel) (by decide +kernel) e109 rfl ?_
  refine xe_goto (off := 72) (nx := 188) (by decide +kernel) (by decide) ?_
  refine xW_lv rfl (l := [(0, xR_ (x0)), (1, xI (x1))]) (xsb_of ⟨rfl, rfl, trivial⟩ (show [0, 1].Nodup by decide)) ?_
  exact k132_188  hr2 hx1 h
def f132_112  (r2 : Nat → Int → xj_M → Option (Int × xj_M)) (f : Nat) (x0 : Nat) (x1 : Int) (y0 : Nat) (M : xj_M) : Option (Int × xj_M) := f132_113  r2 f (x0) (x1) (0) (y0) M
theorem k132_112 {d f : Nat}  {r2 : Nat → Int → xj_M → Option (Int × xj_M)}  (hr2 : ∀ {x0 : Nat} {x1 : Int} {M : xj_M} {R : Int × xj_M}, xin x1 → r2 x0 x1 M = some R → xW (d + 4) (none, d + 4, none) xr_132 (2, [(0, xR_ x0), (1, xI x1)], [], M) (xQi R)) {x0 : Nat} {x1 : Int} {y0 : Nat} {M : xj_M} {R : Int × xj_M} (hx1 : xin x1) (h : f132_112  r2 f x0 x1 y0 M = some R) : xW (d + 4) (none, d + 4, none) xr_132 (112, [(0, xR_ x0), (1, xI x1)], [xR_ y0], M) (xQi R) := by
  unfold f132_112 at h
  refine xe_iconst (n := 0) (by decide +kernel) rfl ?_
  refine xW_lv rfl (l := [(0, xR_ (x0)), (1, xI (x1))]) (xsb_of ⟨rfl, rfl, trivial⟩ (show [0, 1].Nodup by decide)) ?_
  exact k132_113  hr2 hx1 (show xin (0) by decide) h
def f132_100  (r2 : Nat → Int → xj_M → Option (Int × xj_M)) (f : Nat) (x0 : Nat) (x1 : Int) (x2 : Int) (y0 : Nat) (M : xj_M) : Option (Int × xj_M) := ((xq_is 9 (x0) M).bind fun _ => ((f135  f (x0) (x2) M).bind fun R112 => (if (R112.1) = 0 then f132_112  r2 f (x0) (x1) (y0) R112.2 else f132_113  r2 f (x0) (x1) (1) (y0) R112.2)))
theorem k132_100 {d f : Nat}  {r2 : Nat → Int → xj_M → Option (Int × xj_M)}  (hr2 : ∀ {x0 : Nat} {x1 : Int} {M : xj_M} {R : Int × xj_M}, xin x1 → r2 x0 x1 M = some R → xW (d + 4) (none, d + 4, none) xr_132 (2, [(0, xR_ x0), (1, xI x1)], [], M) (xQi R)) {x0 : Nat} {x1 : Int} {x2 : Int} {y0 : Nat} {M : xj_M} {R : Int × xj_M} (hx1 : xin x1) (hx2 : xin x2) (h : f132_100  r2 f x0 x1 x2 y0 M = some R) : xW (d + 4) (none, d + 4, none) xr_132 (100, [(0, xR_ x0), (1, xI x1), (2, xI x2)], [xR_ y0], M) (xQi R) := by
  unfold f132_100 at h
  refine xe_alr (ins := .aload_n 0) (len := 1) (i := 0) (by decide +kernel) rfl rfl rfl rfl rfl ?_
  refine xe_ldn (ins := .iload_n 2) (len := 1) (by decide +kernel) rfl rfl rfl rfl ?_
  obtain ⟨_, e111, h⟩ := xbnd h
  obtain ⟨R112, e110, h⟩ := xbnd h
  refine xs_cv (i := 85) (j := 135) (ar := [xI (x2)]) (rest := [xR_ (y0)]) (r2 := xr_135) (by decide +kernel) (by decide +kernel) (by decide +kernel) xr_135_e rfl (by decide) (by simp only [List.map_cons, List.map_nil, List.sum_cons, List.sum_nil, xR_cat, xI_cat, xZ_cat]; decide) e111 ?_
  refine xc_i (k135 (d := d + 1)  hx2 e110) rfl (fun hi113 => ?_)
  refine xe_ifeq (off := 7) (t := 112) (by decide +kernel) (by decide) rfl hi113 (fun c114 => ?_) (fun c114 => ?_)
  · rw [if_pos c114] at h
    refine xW_lv rfl (l := [(0, xR_ (x0)), (1, xI (x1))]) (xsb_of ⟨rfl, rfl, trivial⟩ (show [0, 1, 2].Nodup by decide)) ?_
    exact k132_112  hr2 hx1 h
  · rw [if_neg c114] at h
    refine xe_iconst (n := 1) (by decide +kernel) rfl ?_
    refine xe_goto (off := 4) (nx := 113) (by decide +kernel) (by decide) ?_
    refine xW_lv rfl (l := [(0, xR_ (x0)), (1, xI (x1))]) (xsb_of ⟨rfl, rfl, trivial⟩ (show [0, 1, 2].Nodup by decide)) ?_
    exact k132_113  hr2 hx1 (show xin (1) by decide) h
def f132_85  (r2 : Nat → Int → xj_M → Option (Int × xj_M)) (f : Nat) (x0 : Nat) (x1 : Int) (x2 : Int) (M : xj_M) : Option (Int × xj_M) := ((xq_gi 9 7 (x0) M).bind fun v115 => (if ¬ (v115) = 0 then f132_100  r2 f (x0) (x1) (x2) (x0) M else ((xq_is 9 (x0) M).bind fun _ => ((f133  f (x0) M).bind fun R120 => (if (R120.1) = 0 then f132_112  r2 f (x0) (x1) (x0) R120.2 else f132_100  r2 f (x0) (x1) (x2) (x0) R120.2)))))
theorem k132_85 {d f : Nat}  {r2 : Nat → Int → xj_M → Option (Int × xj_M)}  (hr2 : ∀ {x0 : Nat} {x1 : Int} {M : xj_M} {R : Int × xj_M}, xin x1 → r2 x0 x1 M = some R → xW (d + 4) (none, d + 4, none) xr_132 (2, [(0, xR_ x0), (1, xI x1)], [], M) (xQi R)) {x0 : Nat} {x1 : Int} {x2 : Int} {M : xj_M} {R : Int × xj_M} (hx1 : xin x1) (hx2 : xin x2) (h : f132_85  r2 f x0 x1 x2 M = some R) : xW (d + 4) (none, d + 4, none) xr_132 (85, [(0, xR_ x0), (1, xI x1), (2, xI x2)], [], M) (xQi R) := by
  unfold f132_85 at h
  refine xe_alr (ins := .aload_n 0) (len := 1) (i := 0) (by decide +kernel) rfl rfl rfl rfl rfl ?_
  refine xe_alr (ins := .aload_n 0) (len := 1) (i := 0) (by decide +kernel) rfl rfl rfl rfl rfl ?_
  obtain ⟨v115, e116, h⟩ := xbnd h
  refine xs_gi (i := 56) (c := 9) (k := 7) (by decide +kernel) (by decide) (by decide +kernel) e116 rfl ?_
  refine xe_ifne (off := 10) (t := 100) (by decide +kernel) (by decide) rfl (xq_gi_in e116) (fun c117 => ?_) (fun c117 => ?_)
  · rw [if_pos c117] at h
    refine xW_lv rfl (l := [(0, xR_ (x0)), (1, xI (x1)), (2, xI (x2))]) (xsb_of ⟨rfl, rfl, rfl, trivial⟩ (show [0, 1, 2].Nodup by decide)) ?_
    exact k132_100  hr2 hx1 hx2 h
  · rw [if_neg c117] at h
    refine xe_alr (ins := .aload_n 0) (len := 1) (i := 0) (by decide +kernel) rfl rfl rfl rfl rfl ?_
    obtain ⟨_, e119, h⟩ := xbnd h
    obtain ⟨R120, e118, h⟩ := xbnd h
    refine xs_cv (i := 81) (j := 133) (ar := []) (rest := [xR_ (x0)]) (r2 := xr_133) (by decide +kernel) (by decide +kernel) (by decide +kernel) xr_133_e rfl (by decide) (by simp only [List.map_cons, List.map_nil, List.sum_cons, List.sum_nil, xR_cat, xI_cat, xZ_cat]; decide) e119 ?_
    refine xc_i (k133 (d := d + 3)   e118) rfl (fun hi121 => ?_)
    refine xe_ifeq (off := 15) (t := 112) (by decide +kernel) (by decide) rfl hi121 (fun c122 => ?_) (fun c122 => ?_)
    · rw [if_pos c122] at h
      refine xW_lv rfl (l := [(0, xR_ (x0)), (1, xI (x1))]) (xsb_of ⟨rfl, rfl, trivial⟩ (show [0, 1, 2].Nodup by decide)) ?_
      exact k132_112  hr2 hx1 h
    · rw [if_neg c122] at h
      refine xW_lv rfl (l := [(0, xR_ (x0)), (1, xI (x1)), (2, xI (x2))]) (xsb_of ⟨rfl, rfl, rfl, trivial⟩ (show [0, 1, 2].Nodup by decide)) ?_
      exact k132_100  hr2 hx1 hx2 h
def f132_185  (r2 : Nat → Int → xj_M → Option (Int × xj_M)) (f : Nat) (x0 : Nat) (x1 : Int) (y0 : Int) (y1 : Nat) (M : xj_M) : Option (Int × xj_M) := ((xq_pi 9 7 (y1) (y0) M).bind fun M123 => f132_188  r2 f (x0) (x1) M123)
theorem k132_185 {d f : Nat}  {r2 : Nat → Int → xj_M → Option (Int × xj_M)}  (hr2 : ∀ {x0 : Nat} {x1 : Int} {M : xj_M} {R : Int × xj_M}, xin x1 → r2 x0 x1 M = some R → xW (d + 4) (none, d + 4, none) xr_132 (2, [(0, xR_ x0), (1, xI x1)], [], M) (xQi R)) {x0 : Nat} {x1 : Int} {y0 : Int} {y1 : Nat} {M : xj_M} {R : Int × xj_M} (hx1 : xin x1) (hy0 : xin y0) (h : f132_185  r2 f x0 x1 y0 y1 M = some R) : xW (d + 4) (none, d + 4, none) xr_132 (185, [(0, xR_ x0), (1, xI x1)], [xI y0, xR_ y1], M) (xQi R) := by
  unfold f132_185 at h
  obtain ⟨M123, e124, h⟩ := xbnd h
  refine xs_p (i := 56) (c := 9) (k := 7) (by decide +kernel) (by decide +kernel) (by decide +kernel) e124 rfl ?_
  refine xW_lv rfl (l := [(0, xR_ (x0)), (1, xI (x1))]) (xsb_of ⟨rfl, rfl, trivial⟩ (show [0, 1].Nodup by decide)) ?_
  exact k132_188  hr2 hx1 h
def f132_180  (r2 : Nat → Int → xj_M → Option (Int × xj_M)) (f : Nat) (x0 : Nat) (x1 : Int) (y0 : Nat) (M : xj_M) : Option (Int × xj_M) := f132_185  r2 f (x0) (x1) (1) (y0) M
theorem k132_180 {d f : Nat}  {r2 : Nat → Int → xj_M → Option (Int × xj_M)}  (hr2 : ∀ {x0 : Nat} {x1 : Int} {M : xj_M} {R : Int × xj_M}, xin x1 → r2 x0 x1 M = some R → xW (d + 4) (none, d + 4, none) xr_132 (2, [(0, xR_ x0), (1, xI x1)], [], M) (xQi R)) {x0 : Nat} {x1 : Int} {y0 : Nat} {M : xj_M} {R : Int × xj_M} (hx1 : xin x1) (h : f132_180  r2 f x0 x1 y0 M = some R) : xW (d + 4) (none, d + 4, none) xr_132 (180, [(0, xR_ x0), (1, xI x1)], [xR_ y0], M) (xQi R) := by
  unfold f132_180 at h
  refine xe_iconst (n := 1) (by decide +kernel) rfl ?_
  refine xe_goto (off := 4) (nx := 185) (by decide +kernel) (by decide) ?_
  refine xW_lv rfl (l := [(0, xR_ (x0)), (1, xI (x1))]) (xsb_of ⟨rfl, rfl, trivial⟩ (show [0, 1].Nodup by decide)) ?_
  exact k132_185  hr2 hx1 (show xin (1) by decide) h
def f132_184  (r2 : Nat → Int → xj_M → Option (Int × xj_M)) (f : Nat) (x0 : Nat) (x1 : Int) (y0 : Nat) (M : xj_M) : Option (Int × xj_M) := f132_185  r2 f (x0) (x1) (0) (y0) M
theorem k132_184 {d f : Nat}  {r2 : Nat → Int → xj_M → Option (Int × xj_M)}  (hr2 : ∀ {x0 : Nat} {x1 : Int} {M : xj_M} {R : Int × xj_M}, xin x1 → r2 x0 x1 M = some R → xW (d + 4) (none, d + 4, none) xr_132 (2, [(0, xR_ x0), (1, xI x1)], [], M) (xQi R)) {x0 : Nat} {x1 : Int} {y0 : Nat} {M : xj_M} {R : Int × xj_M} (hx1 : xin x1) (h : f132_184  r2 f x0 x1 y0 M = some R) : xW (d + 4) (none, d + 4, none) xr_132 (184, [(0, xR_ x0), (1, xI x1)], [xR_ y0], M) (xQi R) := by
  unfold f132_184 at h
  refine xe_iconst (n := 0) (by decide +kernel) rfl ?_
  refine xW_lv rfl (l := [(0, xR_ (x0)), (1, xI (x1))]) (xsb_of ⟨rfl, rfl, trivial⟩ (show [0, 1].Nodup by decide)) ?_
  exact k132_185  hr2 hx1 (show xin (0) by decide) h
def f132_215   (f : Nat)  (M : xj_M) : Option (Int × xj_M) := (some (0, M))
theorem k132_215 {d f : Nat}      {M : xj_M} {R : Int × xj_M}  (h : f132_215   f  M = some R) : xW (d + 4) (none, d + 4, none) xr_132 (215, [], [], M) (xQi R) := by
  unfold f132_215 at h
  refine xe_iconst (n := 0) (by decide +kernel) rfl ?_
  cases h
  exact xe_ret_i (ty := .boolean) (by decide +kernel) rfl (by decide) ⟨rfl, rfl, (show xin (0) by decide)⟩
def f132_2b  (r2 : Nat → Int → xj_M → Option (Int × xj_M)) (f : Nat) (x0 : Nat) (x1 : Int) (M : xj_M) : Option (Int × xj_M) := (if (1000000000) ≤ (x1) then f132_215   f  M else ((xq_gi 9 6 (x0) M).bind fun v126 => (if (v126) < 0 then f132_215   f  M else ((xq_gi 9 6 (x0) M).bind fun v129 => ((xq_gr 9 3 (x0) M).bind fun v131 => ((xq_gi 6 8 (v131) M).bind fun v133 => (if ¬ (v129) = (v133) then ((xq_gr 9 3 (x0) M).bind fun v136 => ((xq_gr 6 18 (v136) M).bind fun v138 => ((xq_gi 9 6 (x0) M).bind fun v140 => ((xq_ai 3 (v138) (v140) M).bind fun v142 => ((xq_gr 9 3 (x0) M).bind fun v144 => ((xq_gr 6 9 (v144) M).bind fun v146 => ((xq_ai 3 (v146) (v142) M).bind fun v148 => (if ¬ (v148) = (15) then ((xq_gr 9 8 (x0) M).bind fun v151 => ((xq_gi 9 6 (x0) M).bind fun v153 => ((xq_gr 9 8 (x0) M).bind fun v155 => ((xq_gi 9 6 (x0) M).bind fun v157 => ((xq_ai 3 (v155) (v157) M).bind fun v159 => ((xq_si (v151) (xwr ((v153) + (1))) (v159) M).bind fun M161 => ((xq_gi 9 7 (x0) M161).bind fun v163 => (if (v163) = 0 then f132_184  r2 f (x0) (x1) (x0) M161 else ((xq_gr 9 3 (x0) M161).bind fun v166 => ((xq_gr 6 9 (v166) M161).bind fun v168 => ((xq_ai 3 (v168) (v142) M161).bind fun v170 => (if ¬ (v170) = (9) then ((xq_is 9 (x0) M161).bind fun _ => ((f139  f (x0) (v142) M161).bind fun R175 => (if (R175.1) = 0 then f132_184  r2 f (x0) (x1) (x0) R175.2 else f132_180  r2 f (x0) (x1) (x0) R175.2))) else ((xq_is 9 (x0) M161).bind fun _ => ((f138  f (x0) (v142) M161).bind fun R180 => (if (R180.1) = 0 then f132_184  r2 f (x0) (x1) (x0) R180.2 else f132_180  r2 f (x0) (x1) (x0) R180.2))))))))))))))) else ((xq_gi 9 7 (x0) M).bind fun v183 => (if (v183) = 0 then f132_85  r2 f (x0) (x1) (v142) M else ((xq_is 9 (x0) M).bind fun _ => ((f134  f (x0) (v142) M).bind fun M188 => f132_85  r2 f (x0) (x1) (v142) M188)))))))))))) else ((xq_gi 9 6 (x0) M).bind fun v190 => ((xq_pi 9 6 (x0) (xwr ((v190) - (1))) M).bind fun M192 => ((xq_pi 9 7 (x0) (0) M192).bind fun M194 => (some (1, M194))))))))))))
theorem k132_2b {d f : Nat}  {r2 : Nat → Int → xj_M → Option (Int × xj_M)}  (hr2 : ∀ {x0 : Nat} {x1 : Int} {M : xj_M} {R : Int × xj_M}, xin x1 → r2 x0 x1 M = some R → xW (d + 4) (none, d + 4, none) xr_132 (2, [(0, xR_ x0), (1, xI x1)], [], M) (xQi R)) {x0 : Nat} {x1 : Int} {M : xj_M} {R : Int × xj_M} (hx1 : xin x1) (h : f132_2b  r2 f x0 x1 M = some R) : xW (d + 4) (none, d + 4, none) xr_132 (2, [(0, xR_ x0), (1, xI x1)], [], M) (xQi R) := by
  unfold f132_2b at h
  refine xe_ldn (ins := .iload_n 1) (len := 1) (by decide +kernel) rfl rfl rfl rfl ?_
  refine xe_ldci (ins := .ldc 65) (len := 2) (n := 1000000000) (by decide +kernel) rfl rfl rfl rfl rfl rfl ?_
  refine xe_icmpge (off := 210) (t := 215) (by decide +kernel) (by decide) rfl hx1 (show xin (1000000000) by decide) (fun c125 => ?_) (fun c125 => ?_)
  · rw [if_pos c125] at h
    refine xW_lv rfl (l := []) (xsb_of trivial (show [0, 1].Nodup by decide)) ?_
    exact k132_215    h
  · rw [if_neg c125] at h
    refine xe_alr (ins := .aload_n 0) (len := 1) (i := 0) (by decide +kernel) rfl rfl rfl rfl rfl ?_
    obtain ⟨v126, e127, h⟩ := xbnd h
    refine xs_gi (i := 52) (c := 9) (k := 6) (by decide +kernel) (by decide) (by decide +kernel) e127 rfl ?_
    refine xe_iflt (off := 203) (t := 215) (by decide +kernel) (by decide) rfl (xq_gi_in e127) (fun c128 => ?_) (fun c128 => ?_)
    · rw [if_pos c128] at h
      refine xW_lv rfl (l := []) (xsb_of trivial (show [0, 1].Nodup by decide)) ?_
      exact k132_215    h
    · rw [if_neg c128] at h
      refine xe_alr (ins := .aload_n 0) (len := 1) (i := 0) (by decide +kernel) rfl rfl rfl rfl rfl ?_
      obtain ⟨v129, e130, h⟩ := xbnd h
      refine xs_gi (i := 52) (c := 9) (k := 6) (by decide +kernel) (by decide) (by decide +kernel) e130 rfl ?_
      refine xe_alr (ins := .aload_n 0) (len := 1) (i := 0) (by decide +kernel) rfl rfl rfl rfl rfl ?_
      obtain ⟨v131, e132, h⟩ := xbnd h
      refine xs_gr (i := 40) (c := 9) (k := 3) (by decide +kernel) (by decide) (by decide +kernel) e132 rfl ?_
      obtain ⟨v133, e134, h⟩ := xbnd h
      refine xs_gi (i := 66) (c := 6) (k := 8) (by decide +kernel) (by decide) (by decide +kernel) e134 rfl ?_
      refine xe_icmpne (off := 20) (t := 46) (by decide +kernel) (by decide) rfl (xq_gi_in e130) (xq_gi_in e134) (fun c135 => ?_) (fun c135 => ?_)
      · rw [if_pos c135] at h
        refine xe_alr (ins := .aload_n 0) (len := 1) (i := 0) (by decide +kernel) rfl rfl rfl rfl rfl ?_
        obtain ⟨v136, e137, h⟩ := xbnd h
        refine xs_gr (i := 40) (c := 9) (k := 3) (by decide +kernel) (by decide) (by decide +kernel) e137 rfl ?_
        obtain ⟨v138, e139, h⟩ := xbnd h
        refine xs_gr (i := 71) (c := 6) (k := 18) (by decide +kernel) (by decide) (by decide +kernel) e139 rfl ?_
        refine xe_alr (ins := .aload_n 0) (len := 1) (i := 0) (by decide +kernel) rfl rfl rfl rfl rfl ?_
        obtain ⟨v140, e141, h⟩ := xbnd h
        refine xs_gi (i := 52) (c := 9) (k := 6) (by decide +kernel) (by decide) (by decide +kernel) e141 rfl ?_
        obtain ⟨v142, e143, h⟩ := xbnd h
        refine xs_iald rfl (by decide +kernel) (xq_gi_in e141) e143 rfl ?_
        refine xe_isr (ins := .istore_n 2) (len := 1) (i := 2) (by decide +kernel) rfl rfl rfl (by decide) (xk_k (show ¬ (0 : Nat) = 2 by decide) (Or.inl (show ¬ (0 + 1 : Nat) = 2 by decide)) (xk_k (show ¬ (1 : Nat) = 2 by decide) (Or.inr (xI_cat _)) xk_n)) rfl ?_
        refine xe_alr (ins := .aload_n 0) (len := 1) (i := 0) (by decide +kernel) rfl rfl rfl rfl rfl ?_
        obtain ⟨v144, e145, h⟩ := xbnd h
        refine xs_gr (i := 40) (c := 9) (k := 3) (by decide +kernel) (by decide) (by decide +kernel) e145 rfl ?_
        obtain ⟨v146, e147, h⟩ := xbnd h
        refine xs_gr (i := 74) (c := 6) (k := 9) (by decide +kernel) (by decide) (by decide +kernel) e147 rfl ?_
        refine xe_ldn (ins := .iload_n 2) (len := 1) (by decide +kernel) rfl rfl rfl rfl ?_
        obtain ⟨v148, e149, h⟩ := xbnd h
        refine xs_iald rfl (by decide +kernel) (xq_ai_in e143) e149 rfl ?_
        refine xe_bipush (n := 15) (by decide +kernel) (by decide) rfl ?_
        refine xe_icmpne (off := 49) (t := 119) (by decide +kernel) (by decide) rfl (xq_ai_in e149) (show xin (15) by decide) (fun c150 => ?_) (fun c150 => ?_)
        · rw [if_pos c150] at h
          refine xe_alr (ins := .aload_n 0) (len := 1) (i := 0) (by decide +kernel) rfl rfl rfl rfl rfl ?_
          obtain ⟨v151, e152, h⟩ := xbnd h
          refine xs_gr (i := 22) (c := 9) (k := 8) (by decide +kernel) (by decide) (by decide +kernel) e152 rfl ?_
          refine xe_alr (ins := .aload_n 0) (len := 1) (i := 0) (by decide +kernel) rfl rfl rfl rfl rfl ?_
          obtain ⟨v153, e154, h⟩ := xbnd h
          refine xs_gi (i := 52) (c := 9) (k := 6) (by decide +kernel) (by decide) (by decide +kernel) e154 rfl ?_
          refine xe_iconst (n := 1) (by decide +kernel) rfl ?_
          refine xe_iadd (by decide +kernel) rfl ?_
          refine xe_alr (ins := .aload_n 0) (len := 1) (i := 0) (by decide +kernel) rfl rfl rfl rfl rfl ?_
          obtain ⟨v155, e156, h⟩ := xbnd h
          refine xs_gr (i := 22) (c := 9) (k := 8) (by decide +kernel) (by decide) (by decide +kernel) e156 rfl ?_
          refine xe_alr (ins := .aload_n 0) (len := 1) (i := 0) (by decide +kernel) rfl rfl rfl rfl rfl ?_
          obtain ⟨v157, e158, h⟩ := xbnd h
          refine xs_gi (i := 52) (c := 9) (k := 6) (by decide +kernel) (by decide) (by decide +kernel) e158 rfl ?_
          obtain ⟨v159, e160, h⟩ := xbnd h
          refine xs_iald rfl (by decide +kernel) (xq_gi_in e158) e160 rfl ?_
          obtain ⟨M161, e162, h⟩ := xbnd h
          refine xs_iast (by decide +kernel) (xin_wr _) e162 rfl ?_
          refine xe_alr (ins := .aload_n 0) (len := 1) (i := 0) (by decide +kernel) rfl rfl rfl rfl rfl ?_
          refine xe_alr (ins := .aload_n 0) (len := 1) (i := 0) (by decide +kernel) rfl rfl rfl rfl rfl ?_
          obtain ⟨v163, e164, h⟩ := xbnd h
          refine xs_gi (i := 56) (c := 9) (k := 7) (by decide +kernel) (by decide) (by decide +kernel) e164 rfl ?_
          refine xe_ifeq (off := 40) (t := 184) (by decide +kernel) (by decide) rfl (xq_gi_in e164) (fun c165 => ?_) (fun c165 => ?_)
          · rw [if_pos c165] at h
            refine xW_lv rfl (l := [(0, xR_ (x0)), (1, xI (x1))]) (xsb_of ⟨rfl, rfl, trivial⟩ (show [2, 0, 1].Nodup by decide)) ?_
            exact k132_184  hr2 hx1 h
          · rw [if_neg c165] at h
            refine xe_alr (ins := .aload_n 0) (len := 1) (i := 0) (by decide +kernel) rfl rfl rfl rfl rfl ?_
            obtain ⟨v166, e167, h⟩ := xbnd h
            refine xs_gr (i := 40) (c := 9) (k := 3) (by decide +kernel) (by decide) (by decide +kernel) e167 rfl ?_
            obtain ⟨v168, e169, h⟩ := xbnd h
            refine xs_gr (i := 74) (c := 6) (k := 9) (by decide +kernel) (by decide) (by decide +kernel) e169 rfl ?_
            refine xe_ldn (ins := .iload_n 2) (len := 1) (by decide +kernel) rfl rfl rfl rfl ?_
            obtain ⟨v170, e171, h⟩ := xbnd h
            refine xs_iald rfl (by decide +kernel) (xq_ai_in e143) e171 rfl ?_
            refine xe_bipush (n := 9) (by decide +kernel) (by decide) rfl ?_
            refine xe_icmpne (off := 14) (t := 172) (by decide +kernel) (by decide) rfl (xq_ai_in e171) (show xin (9) by decide) (fun c172 => ?_) (fun c172 => ?_)
            · rw [if_pos c172] at h
              refine xe_alr (ins := .aload_n 0) (len := 1) (i := 0) (by decide +kernel) rfl rfl rfl rfl rfl ?_
              refine xe_ldn (ins := .iload_n 2) (len := 1) (by decide +kernel) rfl rfl rfl rfl ?_
              obtain ⟨_, e174, h⟩ := xbnd h
              obtain ⟨R175, e173, h⟩ := xbnd h
              refine xs_cv (i := 92) (j := 139) (ar := [xI (v142)]) (rest := [xR_ (x0)]) (r2 := xr_139) (by decide +kernel) (by decide +kernel) (by decide +kernel) xr_139_e rfl (by decide) (by simp only [List.map_cons, List.map_nil, List.sum_cons, List.sum_nil, xR_cat, xI_cat, xZ_cat]; decide) e174 ?_
              refine xc_i (k139 (d := d + 1)  (xq_ai_in e143) e173) rfl (fun hi176 => ?_)
              refine xe_ifeq (off := 7) (t := 184) (by decide +kernel) (by decide) rfl hi176 (fun c177 => ?_) (fun c177 => ?_)
              · rw [if_pos c177] at h
                refine xW_lv rfl (l := [(0, xR_ (x0)), (1, xI (x1))]) (xsb_of ⟨rfl, rfl, trivial⟩ (show [2, 0, 1].Nodup by decide)) ?_
                exact k132_184  hr2 hx1 h
              · rw [if_neg c177] at h
                refine xW_lv rfl (l := [(0, xR_ (x0)), (1, xI (x1))]) (xsb_of ⟨rfl, rfl, trivial⟩ (show [2, 0, 1].Nodup by decide)) ?_
                exact k132_180  hr2 hx1 h
            · rw [if_neg c172] at h
              refine xe_alr (ins := .aload_n 0) (len := 1) (i := 0) (by decide +kernel) rfl rfl rfl rfl rfl ?_
              refine xe_ldn (ins := .iload_n 2) (len := 1) (by decide +kernel) rfl rfl rfl rfl ?_
              obtain ⟨_, e179, h⟩ := xbnd h
              obtain ⟨R180, e178, h⟩ := xbnd h
              refine xs_cv (i := 89) (j := 138) (ar := [xI (v142)]) (rest := [xR_ (x0)]) (r2 := xr_138) (by decide +kernel) (by decide +kernel) (by decide +kernel) xr_138_e rfl (by decide) (by simp only [List.map_cons, List.map_nil, List.sum_cons, List.sum_nil, xR_cat, xI_cat, xZ_cat]; decide) e179 ?_
              refine xc_i (k138 (d := d + 0)  (xq_ai_in e143) e178) rfl (fun hi181 => ?_)
              refine xe_ifeq (off := 18) (t := 184) (by decide +kernel) (by decide) rfl hi181 (fun c182 => ?_) (fun c182 => ?_)
              · rw [if_pos c182] at h
                refine xW_lv rfl (l := [(0, xR_ (x0)), (1, xI (x1))]) (xsb_of ⟨rfl, rfl, trivial⟩ (show [2, 0, 1].Nodup by decide)) ?_
                exact k132_184  hr2 hx1 h
              · rw [if_neg c182] at h
                refine xe_goto (off := 11) (nx := 180) (by decide +kernel) (by decide) ?_
                refine xW_lv rfl (l := [(0, xR_ (x0)), (1, xI (x1))]) (xsb_of ⟨rfl, rfl, trivial⟩ (show [2, 0, 1].Nodup by decide)) ?_
                exact k132_180  hr2 hx1 h
        · rw [if_neg c150] at h
          refine xe_alr (ins := .aload_n 0) (len := 1) (i := 0) (by decide +kernel) rfl rfl rfl rfl rfl ?_
          obtain ⟨v183, e184, h⟩ := xbnd h
          refine xs_gi (i := 56) (c := 9) (k := 7) (by decide +kernel) (by decide) (by decide +kernel) e184 rfl ?_
          refine xe_ifeq (off := 8) (t := 85) (by decide +kernel) (by decide) rfl (xq_gi_in e184) (fun c185 => ?_) (fun c185 => ?_)
          · rw [if_pos c185] at h
            refine xW_lv rfl (l := [(0, xR_ (x0)), (1, xI (x1)), (2, xI (v142))]) (xsb_of ⟨rfl, rfl, rfl, trivial⟩ (show [2, 0, 1].Nodup by decide)) ?_
            exact k132_85  hr2 hx1 (xq_ai_in e143) h
          · rw [if_neg c185] at h
            refine xe_alr (ins := .aload_n 0) (len := 1) (i := 0) (by decide +kernel) rfl rfl rfl rfl rfl ?_
            refine xe_ldn (ins := .iload_n 2) (len := 1) (by decide +kernel) rfl rfl rfl rfl ?_
            obtain ⟨_, e187, h⟩ := xbnd h
            obtain ⟨M188, e186, h⟩ := xbnd h
            refine xs_cv (i := 77) (j := 134) (ar := [xI (v142)]) (rest := []) (r2 := xr_134) (by decide +kernel) (by decide +kernel) (by decide +kernel) xr_134_e rfl (by decide) (by decide) e187 ?_
            refine xc_v (k134 (d := d + 1)  (xq_ai_in e143) e186) rfl ?_
            refine xW_lv rfl (l := [(0, xR_ (x0)), (1, xI (x1)), (2, xI (v142))]) (xsb_of ⟨rfl, rfl, rfl, trivial⟩ (show [2, 0, 1].Nodup by decide)) ?_
            exact k132_85  hr2 hx1 (xq_ai_in e143) h
      · rw [if_neg c135] at h
        refine xe_alr (ins := .aload_n 0) (len := 1) (i := 0) (by decide +kernel) rfl rfl rfl rfl rfl ?_
        refine xe_dupr (by decide +kernel) rfl ?_
        obtain ⟨v190, e191, h⟩ := xbnd h
        refine xs_gi (i := 52) (c := 9) (k := 6) (by decide +kernel) (by decide) (by decide +kernel) e191 rfl ?_
        refine xe_iconst (n := 1) (by decide +kernel) rfl ?_
        refine xe_isub (by decide +kernel) rfl ?_
        obtain ⟨M192, e193, h⟩ := xbnd h
        refine xs_p (i := 52) (c := 9) (k := 6) (by decide +kernel) (by decide +kernel) (by decide +kernel) e193 rfl ?_
        refine xe_alr (ins := .aload_n 0) (len := 1) (i := 0) (by decide +kernel) rfl rfl rfl rfl rfl ?_
        refine xe_iconst (n := 0) (by decide +kernel) rfl ?_
        obtain ⟨M194, e195, h⟩ := xbnd h
        refine xs_p (i := 56) (c := 9) (k := 7) (by decide +kernel) (by decide +kernel) (by decide +kernel) e195 rfl ?_
        refine xe_iconst (n := 1) (by decide +kernel) rfl ?_
        cases h
        exact xe_ret_i (ty := .boolean) (by decide +kernel) rfl (by decide) ⟨rfl, rfl, (show xin (1) by decide)⟩
def f132_2   (f : Nat) : Nat → Nat → Int → xj_M → Option (Int × xj_M)
  | 0, _, _, _ => none
  | n + 1, x0, x1, M => f132_2b   (f132_2   f n) f x0 x1 M
theorem k132_2 {d f : Nat}     : ∀ {n : Nat} {x0 : Nat} {x1 : Int} {M : xj_M} {R : Int × xj_M}, xin x1 → f132_2   f n x0 x1 M = some R → xW (d + 4) (none, d + 4, none) xr_132 (2, [(0, xR_ x0), (1, xI x1)], [], M) (xQi R) := by
  intro n
  induction n with
  | zero => intros; rename_i h; cases h
  | succ n ih => intros; rename_i h; exact k132_2b   ih (by assumption) h
def f132  (f : Nat) (a0 : Nat) (M : xj_M) : Option (Int × xj_M) := f132_2   f f (a0) (0) M
theorem k132 {d f : Nat}   {a0 : Nat} {M : xj_M} {R : Int × xj_M}  (h : f132  f a0 M = some R) : xT (d + 5) 132 [xR_ a0] M (xQi R) := by
  refine xT_m xr_132_e (X := (none, d + 4, none)) rfl (xa_1 (xR_cat _) xa_n) (by decide) ?_
  unfold f132 at h
  refine xe_iconst (n := 0) (by decide +kernel) rfl ?_
  refine xe_isr (ins := .istore_n 1) (len := 1) (i := 1) (by decide +kernel) rfl rfl rfl (by decide) (xk_k (show ¬ (0 : Nat) = 1 by decide) (Or.inr (xR_cat _)) xk_n) rfl ?_
  refine xW_lv rfl (l := [(0, xR_ (a0)), (1, xI (0))]) (xsb_of ⟨rfl, rfl, trivial⟩ (show [1, 0].Nodup by decide)) ?_
  exact k132_2   (show xin (0) by decide) h
-- ChangeHouse$Works.derive
def xr_155 : xj_mR := (10, yX10_derive, cX10_derive, 3, (Option.some Jvm.ClassFile.FieldType.boolean), 1, false, (6, 170), (1, 5))
set_option maxRecDepth 20000 in
theorem xr_155_e : xj_row 155 = some xr_155 := rfl
def f155_49  (r2 : Nat → Nat → Int → xj_M → Option (Int × xj_M)) (f : Nat) (x0 : Nat) (x1 : Nat) (x2 : Int) (M : xj_M) : Option (Int × xj_M) := r2 (x0) (x1) (xwr ((x2) + (1))) M
theorem k155_49 {d f : Nat}  {r2 : Nat → Nat → Int → xj_M → Option (Int × xj_M)}  (hr2 : ∀ {x0 : Nat} {x1 : Nat} {x2 : Int} {M : xj_M} {R : Int × xj_M}, xin x2 → r2 x0 x1 x2 M = some R → xW (d + 5) (none, d + 5, none) xr_155 (2, [(0, xR_ x0), (1, xR_ x1), (2, xI x2)], [], M) (xQi R)) {x0 : Nat} {x1 : Nat} {x2 : Int} {M : xj_M} {R : Int × xj_M} (hx2 : xin x2) (h : f155_49  r2 f x0 x1 x2 M = some R) : xW (d + 5) (none, d + 5, none) xr_155 (49, [(0, xR_ x0), (1, xR_ x1), (2, xI x2)], [], M) (xQi R) := by
  unfold f155_49 at h
  refine xe_iincr (i := 2) (n := 1) (by decide +kernel) (by decide) rfl (xk_k (show ¬ (0 : Nat) = 2 by decide) (Or.inl (show ¬ (0 + 1 : Nat) = 2 by decide)) (xk_k (show ¬ (1 : Nat) = 2 by decide) (Or.inr (xR_cat _)) (xk_d rfl xk_n))) rfl ?_
  refine xe_goto (off := -50) (nx := 2) (by decide +kernel) (by decide) ?_
  refine xW_lv rfl (l := [(0, xR_ (x0)), (1, xR_ (x1)), (2, xI (xwr ((x2) + (1))))]) (xsb_of ⟨rfl, rfl, rfl, trivial⟩ (show [2, 0, 1].Nodup by decide)) ?_
  exact hr2 (xin_wr _) h
def f155_55   (f : Nat)  (M : xj_M) : Option (Int × xj_M) := (some (1, M))
theorem k155_55 {d f : Nat}      {M : xj_M} {R : Int × xj_M}  (h : f155_55   f  M = some R) : xW (d + 5) (none, d + 5, none) xr_155 (55, [], [], M) (xQi R) := by
  unfold f155_55 at h
  refine xe_iconst (n := 1) (by decide +kernel) rfl ?_
  cases h
  exact xe_ret_i (ty := .boolean) (by decide +kernel) rfl (by decide) ⟨rfl, rfl, (show xin (1) by decide)⟩
def f155_2b  (r2 : Nat → Nat → Int → xj_M → Option (Int × xj_M)) (f : Nat) (x0 : Nat) (x1 : Nat) (x2 : Int) (M : xj_M) : Option (Int × xj_M) := (if (10000000) ≤ (x2) then f155_55   f  M else ((xq_gr 10 0 (x0) M).bind fun v102 => ((xq_is 9 (v102) M).bind fun _ => ((f132  f (v102) M).bind fun R106 => (if (R106.1) = 0 then f155_55   f  R106.2 else ((xq_gr 10 0 (x0) R106.2).bind fun v109 => ((xq_gr 10 9 (x0) R106.2).bind fun v111 => ((xq_is 9 (v109) R106.2).bind fun _ => ((f142  f (v109) (v111) R106.2).bind fun R115 => (if (R115.1) = 0 then f155_49  r2 f (x0) (x1) (x2) R115.2 else ((xq_gi 6 0 (x1) R115.2).bind fun v118 => ((xq_gr 10 9 (x0) R115.2).bind fun v120 => ((xq_is 10 (x0) R115.2).bind fun _ => ((f156  f (x0) (v118) (v120) R115.2).bind fun R124 => (if ¬ (R124.1) = 0 then f155_49  r2 f (x0) (x1) (x2) R124.2 else (some (0, R124.2)))))))))))))))))
theorem k155_2b {d f : Nat}  {r2 : Nat → Nat → Int → xj_M → Option (Int × xj_M)}  (hr2 : ∀ {x0 : Nat} {x1 : Nat} {x2 : Int} {M : xj_M} {R : Int × xj_M}, xin x2 → r2 x0 x1 x2 M = some R → xW (d + 5) (none, d + 5, none) xr_155 (2, [(0, xR_ x0), (1, xR_ x1), (2, xI x2)], [], M) (xQi R)) {x0 : Nat} {x1 : Nat} {x2 : Int} {M : xj_M} {R : Int × xj_M} (hx2 : xin x2) (h : f155_2b  r2 f x0 x1 x2 M = some R) : xW (d + 5) (none, d + 5, none) xr_155 (2, [(0, xR_ x0), (1, xR_ x1), (2, xI x2)], [], M) (xQi R) := by
  unfold f155_2b at h
  refine xe_ldn (ins := .iload_n 2) (len := 1) (by decide +kernel) rfl rfl rfl rfl ?_
  refine xe_ldci (ins := .ldc 232) (len := 2) (n := 10000000) (by decide +kernel) rfl rfl rfl rfl rfl rfl ?_
  refine xe_icmpge (off := 50) (t := 55) (by decide +kernel) (by decide) rfl hx2 (show xin (10000000) by decide) (fun c101 => ?_) (fun c101 => ?_)
  · rw [if_pos c101] at h
    refine xW_lv rfl (l := []) (xsb_of trivial (show [0, 1, 2].Nodup by decide)) ?_
    exact k155_55    h
  · rw [if_neg c101] at h
    refine xe_alr (ins := .aload_n 0) (len := 1) (i := 0) (by decide +kernel) rfl rfl rfl rfl rfl ?_
    obtain ⟨v102, e103, h⟩ := xbnd h
    refine xs_gr (i := 56) (c := 10) (k := 0) (by decide +kernel) (by decide) (by decide +kernel) e103 rfl ?_
    obtain ⟨_, e105, h⟩ := xbnd h
    obtain ⟨R106, e104, h⟩ := xbnd h
    refine xs_cv (i := 233) (j := 132) (ar := []) (rest := []) (r2 := xr_132) (by decide +kernel) (by decide +kernel) (by decide +kernel) xr_132_e rfl (by decide) (by decide) e105 ?_
    refine xc_i (k132 (d := d + 0)   e104) rfl (fun hi107 => ?_)
    refine xe_ifeq (off := 40) (t := 55) (by decide +kernel) (by decide) rfl hi107 (fun c108 => ?_) (fun c108 => ?_)
    · rw [if_pos c108] at h
      refine xW_lv rfl (l := []) (xsb_of trivial (show [0, 1, 2].Nodup by decide)) ?_
      exact k155_55    h
    · rw [if_neg c108] at h
      refine xe_alr (ins := .aload_n 0) (len := 1) (i := 0) (by decide +kernel) rfl rfl rfl rfl rfl ?_
      obtain ⟨v109, e110, h⟩ := xbnd h
      refine xs_gr (i := 56) (c := 10) (k := 0) (by decide +kernel) (by decide) (by decide +kernel) e110 rfl ?_
      refine xe_alr (ins := .aload_n 0) (len := 1) (i := 0) (by decide +kernel) rfl rfl rfl rfl rfl ?_
      obtain ⟨v111, e112, h⟩ := xbnd h
      refine xs_gr (i := 40) (c := 10) (k := 9) (by decide +kernel) (by decide) (by decide +kernel) e112 rfl ?_
      obtain ⟨_, e114, h⟩ := xbnd h
      obtain ⟨R115, e113, h⟩ := xbnd h
      refine xs_cv (i := 237) (j := 142) (ar := [xR_ (v111)]) (rest := []) (r2 := xr_142) (by decide +kernel) (by decide +kernel) (by decide +kernel) xr_142_e rfl (by decide) (by decide) e114 ?_
      refine xc_i (k142 (d := d + 2)   e113) rfl (fun hi116 => ?_)
      refine xe_ifeq (off := 20) (t := 49) (by decide +kernel) (by decide) rfl hi116 (fun c117 => ?_) (fun c117 => ?_)
      · rw [if_pos c117] at h
        refine xW_lv rfl (l := [(0, xR_ (x0)), (1, xR_ (x1)), (2, xI (x2))]) (xsb_of ⟨rfl, rfl, rfl, trivial⟩ (show [0, 1, 2].Nodup by decide)) ?_
        exact k155_49  hr2 hx2 h
      · rw [if_neg c117] at h
        refine xe_alr (ins := .aload_n 0) (len := 1) (i := 0) (by decide +kernel) rfl rfl rfl rfl rfl ?_
        refine xe_alr (ins := .aload_n 1) (len := 1) (i := 1) (by decide +kernel) rfl rfl rfl rfl rfl ?_
        obtain ⟨v118, e119, h⟩ := xbnd h
        refine xs_gi (i := 176) (c := 6) (k := 0) (by decide +kernel) (by decide) (by decide +kernel) e119 rfl ?_
        refine xe_alr (ins := .aload_n 0) (len := 1) (i := 0) (by decide +kernel) rfl rfl rfl rfl rfl ?_
        obtain ⟨v120, e121, h⟩ := xbnd h
        refine xs_gr (i := 40) (c := 10) (k := 9) (by decide +kernel) (by decide) (by decide +kernel) e121 rfl ?_
        obtain ⟨_, e123, h⟩ := xbnd h
        obtain ⟨R124, e122, h⟩ := xbnd h
        refine xs_cv (i := 241) (j := 156) (ar := [xR_ (v120), xI (v118)]) (rest := []) (r2 := xr_156) (by decide +kernel) (by decide +kernel) (by decide +kernel) xr_156_e rfl (by decide) (by decide) e123 ?_
        refine xc_i (k156 (d := d + 1)  (xq_gi_in e119) e122) rfl (fun hi125 => ?_)
        refine xe_ifne (off := 5) (t := 49) (by decide +kernel) (by decide) rfl hi125 (fun c126 => ?_) (fun c126 => ?_)
        · rw [if_pos c126] at h
          refine xW_lv rfl (l := [(0, xR_ (x0)), (1, xR_ (x1)), (2, xI (x2))]) (xsb_of ⟨rfl, rfl, rfl, trivial⟩ (show [0, 1, 2].Nodup by decide)) ?_
          exact k155_49  hr2 hx2 h
        · rw [if_neg c126] at h
          refine xe_iconst (n := 0) (by decide +kernel) rfl ?_
          cases h
          exact xe_ret_i (ty := .boolean) (by decide +kernel) rfl (by decide) ⟨rfl, rfl, (show xin (0) by decide)⟩
def f155_2   (f : Nat) : Nat → Nat → Nat → Int → xj_M → Option (Int × xj_M)
  | 0, _, _, _, _ => none
  | n + 1, x0, x1, x2, M => f155_2b   (f155_2   f n) f x0 x1 x2 M
theorem k155_2 {d f : Nat}     : ∀ {n : Nat} {x0 : Nat} {x1 : Nat} {x2 : Int} {M : xj_M} {R : Int × xj_M}, xin x2 → f155_2   f n x0 x1 x2 M = some R → xW (d + 5) (none, d + 5, none) xr_155 (2, [(0, xR_ x0), (1, xR_ x1), (2, xI x2)], [], M) (xQi R) := by
  intro n
  induction n with
  | zero => intros; rename_i h; cases h
  | succ n ih => intros; rename_i h; exact k155_2b   ih (by assumption) h
def f155  (f : Nat) (a0 : Nat) (a1 : Nat) (M : xj_M) : Option (Int × xj_M) := f155_2   f f (a0) (a1) (0) M
theorem k155 {d f : Nat}   {a0 : Nat} {a1 : Nat} {M : xj_M} {R : Int × xj_M}  (h : f155  f a0 a1 M = some R) : xT (d + 6) 155 [xR_ a0, xR_ a1] M (xQi R) := by
  refine xT_m xr_155_e (X := (none, d + 5, none)) rfl (xa_1 (xR_cat _) (xa_1 (xR_cat _) xa_n)) (by decide) ?_
  unfold f155 at h
  refine xe_iconst (n := 0) (by decide +kernel) rfl ?_
  refine xe_isr (ins := .istore_n 2) (len := 1) (i := 2) (by decide +kernel) rfl rfl rfl (by decide) (xk_k (show ¬ (0 : Nat) = 2 by decide) (Or.inl (show ¬ (0 + 1 : Nat) = 2 by decide)) (xk_k (show ¬ (1 : Nat) = 2 by decide) (Or.inr (xR_cat _)) xk_n)) rfl ?_
  refine xW_lv rfl (l := [(0, xR_ (a0)), (1, xR_ (a1)), (2, xI (0))]) (xsb_of ⟨rfl, rfl, rfl, trivial⟩ (show [2, 0, 1].Nodup by decide)) ?_
  exact k155_2   (show xin (0) by decide) h
-- ChangeHouse$Works.gather
def xr_157 : xj_mR := (10, yX10_gather, cX10_gather, 8, (Option.some Jvm.ClassFile.FieldType.boolean), 1, false, (7, 1), (1, 5))
set_option maxRecDepth 20000 in
theorem xr_157_e : xj_row 157 = some xr_157 := rfl
def f157_179  (r4 : Nat → Nat → Int → Int → xj_M → Option (Int × xj_M)) (r43 : Nat → Nat → Int → Int → Int → xj_M → Option (Int × xj_M)) (f : Nat) (x0 : Nat) (x1 : Nat) (x2 : Int) (x3 : Int) (x4 : Int) (M : xj_M) : Option (Int × xj_M) := r43 (x0) (x1) (x2) (x3) (xwr ((x4) + (1))) M
theorem k157_179 {d f : Nat}  {r4 : Nat → Nat → Int → Int → xj_M → Option (Int × xj_M)} {r43 : Nat → Nat → Int → Int → Int → xj_M → Option (Int × xj_M)}  (hr4 : ∀ {x0 : Nat} {x1 : Nat} {x2 : Int} {x3 : Int} {M : xj_M} {R : Int × xj_M}, xin x2 → xin x3 → r4 x0 x1 x2 x3 M = some R → xW (d + 5) (none, d + 5, none) xr_157 (4, [(0, xR_ x0), (1, xR_ x1), (2, xI x2), (3, xI x3)], [], M) (xQi R)) (hr43 : ∀ {x0 : Nat} {x1 : Nat} {x2 : Int} {x3 : Int} {x4 : Int} {M : xj_M} {R : Int × xj_M}, xin x2 → xin x3 → xin x4 → r43 x0 x1 x2 x3 x4 M = some R → xW (d + 5) (none, d + 5, none) xr_157 (43, [(0, xR_ x0), (1, xR_ x1), (2, xI x2), (3, xI x3), (4, xI x4)], [], M) (xQi R)) {x0 : Nat} {x1 : Nat} {x2 : Int} {x3 : Int} {x4 : Int} {M : xj_M} {R : Int × xj_M} (hx2 : xin x2) (hx3 : xin x3) (hx4 : xin x4) (h : f157_179  r4 r43 f x0 x1 x2 x3 x4 M = some R) : xW (d + 5) (none, d + 5, none) xr_157 (179, [(0, xR_ x0), (1, xR_ x1), (2, xI x2), (3, xI x3), (4, xI x4)], [], M) (xQi R) := by
  unfold f157_179 at h
  refine xe_iincr (i := 4) (n := 1) (by decide +kernel) (by decide) rfl (xk_k (show ¬ (0 : Nat) = 4 by decide) (Or.inl (show ¬ (0 + 1 : Nat) = 4 by decide)) (xk_k (show ¬ (1 : Nat) = 4 by decide) (Or.inl (show ¬ (1 + 1 : Nat) = 4 by decide)) (xk_k (show ¬ (2 : Nat) = 4 by decide) (Or.inl (show ¬ (2 + 1 : Nat) = 4 by decide)) (xk_k (show ¬ (3 : Nat) = 4 by decide) (Or.inr (xI_cat _)) (xk_d rfl xk_n))))) rfl ?_
  refine xe_goto (off := -139) (nx := 43) (by decide +kernel) (by decide) ?_
  refine xW_lv rfl (l := [(0, xR_ (x0)), (1, xR_ (x1)), (2, xI (x2)), (3, xI (x3)), (4, xI (xwr ((x4) + (1))))]) (xsb_of ⟨rfl, rfl, rfl, rfl, rfl, trivial⟩ (show [4, 0, 1, 2, 3].Nodup by decide)) ?_
  exact hr43 hx2 hx3 (xin_wr _) h
def f157_162  (r4 : Nat → Nat → Int → Int → xj_M → Option (Int × xj_M)) (r43 : Nat → Nat → Int → Int → Int → xj_M → Option (Int × xj_M)) (f : Nat) (x0 : Nat) (x1 : Nat) (x3 : Int) (x4 : Int) (y0 : Int) (y1 : Int) (M : xj_M) : Option (Int × xj_M) := (if (xor_ (y1) (y0)) = 0 then f157_179  r4 r43 f (x0) (x1) (xor_ (y1) (y0)) (x3) (x4) M else ((xq_gi 6 4 (x1) M).bind fun v102 => (if (v102) = (11) then f157_179  r4 r43 f (x0) (x1) (xor_ (y1) (y0)) (x3) (x4) M else (some (0, M)))))
theorem k157_162 {d f : Nat}  {r4 : Nat → Nat → Int → Int → xj_M → Option (Int × xj_M)} {r43 : Nat → Nat → Int → Int → Int → xj_M → Option (Int × xj_M)}  (hr4 : ∀ {x0 : Nat} {x1 : Nat} {x2 : Int} {x3 : Int} {M : xj_M} {R : Int × xj_M}, xin x2 → xin x3 → r4 x0 x1 x2 x3 M = some R → xW (d + 5) (none, d + 5, none) xr_157 (4, [(0, xR_ x0), (1, xR_ x1), (2, xI x2), (3, xI x3)], [], M) (xQi R)) (hr43 : ∀ {x0 : Nat} {x1 : Nat} {x2 : Int} {x3 : Int} {x4 : Int} {M : xj_M} {R : Int × xj_M}, xin x2 → xin x3 → xin x4 → r43 x0 x1 x2 x3 x4 M = some R → xW (d + 5) (none, d + 5, none) xr_157 (43, [(0, xR_ x0), (1, xR_ x1), (2, xI x2), (3, xI x3), (4, xI x4)], [], M) (xQi R)) {x0 : Nat} {x1 : Nat} {x3 : Int} {x4 : Int} {y0 : Int} {y1 : Int} {M : xj_M} {R : Int × xj_M} (hx3 : xin x3) (hx4 : xin x4) (hy0 : xin y0) (hy1 : xin y1) (h : f157_162  r4 r43 f x0 x1 x3 x4 y0 y1 M = some R) : xW (d + 5) (none, d + 5, none) xr_157 (162, [(0, xR_ x0), (1, xR_ x1), (3, xI x3), (4, xI x4)], [xI y0, xI y1], M) (xQi R) := by
  unfold f157_162 at h
  refine xe_ior (by decide +kernel) rfl ?_
  refine xe_isr (ins := .istore_n 2) (len := 1) (i := 2) (by decide +kernel) rfl rfl rfl (by decide) (xk_k (show ¬ (0 : Nat) = 2 by decide) (Or.inl (show ¬ (0 + 1 : Nat) = 2 by decide)) (xk_k (show ¬ (1 : Nat) = 2 by decide) (Or.inr (xR_cat _)) (xk_k (show ¬ (3 : Nat) = 2 by decide) (Or.inl (show ¬ (3 + 1 : Nat) = 2 by decide)) (xk_k (show ¬ (4 : Nat) = 2 by decide) (Or.inl (show ¬ (4 + 1 : Nat) = 2 by decide)) xk_n)))) rfl ?_
  refine xe_ldn (ins := .iload_n 2) (len := 1) (by decide +kernel) rfl rfl rfl rfl ?_
  refine xe_ifeq (off := 14) (t := 179) (by decide +kernel) (by decide) rfl (xin_of _) (fun c101 => ?_) (fun c101 => ?_)
  · rw [if_pos c101] at h
    refine xW_lv rfl (l := [(0, xR_ (x0)), (1, xR_ (x1)), (2, xI (xor_ (y1) (y0))), (3, xI (x3)), (4, xI (x4))]) (xsb_of ⟨rfl, rfl, rfl, rfl, rfl, trivial⟩ (show [2, 0, 1, 3, 4].Nodup by decide)) ?_
    exact k157_179  hr4 hr43 (xin_of _) hx3 hx4 h
  · rw [if_neg c101] at h
    refine xe_alr (ins := .aload_n 1) (len := 1) (i := 1) (by decide +kernel) rfl rfl rfl rfl rfl ?_
    obtain ⟨v102, e103, h⟩ := xbnd h
    refine xs_gi (i := 248) (c := 6) (k := 4) (by decide +kernel) (by decide) (by decide +kernel) e103 rfl ?_
    refine xe_bipush (n := 11) (by decide +kernel) (by decide) rfl ?_
    refine xe_icmpeq (off := 5) (t := 179) (by decide +kernel) (by decide) rfl (xq_gi_in e103) (show xin (11) by decide) (fun c104 => ?_) (fun c104 => ?_)
    · rw [if_pos c104] at h
      refine xW_lv rfl (l := [(0, xR_ (x0)), (1, xR_ (x1)), (2, xI (xor_ (y1) (y0))), (3, xI (x3)), (4, xI (x4))]) (xsb_of ⟨rfl, rfl, rfl, rfl, rfl, trivial⟩ (show [2, 0, 1, 3, 4].Nodup by decide)) ?_
      exact k157_179  hr4 hr43 (xin_of _) hx3 hx4 h
    · rw [if_neg c104] at h
      refine xe_iconst (n := 0) (by decide +kernel) rfl ?_
      cases h
      exact xe_ret_i (ty := .boolean) (by decide +kernel) rfl (by decide) ⟨rfl, rfl, (show xin (0) by decide)⟩
def f157_146  (r4 : Nat → Nat → Int → Int → xj_M → Option (Int × xj_M)) (r43 : Nat → Nat → Int → Int → Int → xj_M → Option (Int × xj_M)) (f : Nat) (x0 : Nat) (x1 : Nat) (x2 : Int) (x3 : Int) (x4 : Int) (x5 : Int) (M : xj_M) : Option (Int × xj_M) := ((xq_is 10 (x0) M).bind fun _ => ((f159  f (x0) (x1) (x5) M).bind fun R107 => (if ¬ (R107.1) = 0 then f157_162  r4 r43 f (x0) (x1) (x3) (x4) (0) (x2) R107.2 else f157_162  r4 r43 f (x0) (x1) (x3) (x4) (1) (x2) R107.2)))
theorem k157_146 {d f : Nat}  {r4 : Nat → Nat → Int → Int → xj_M → Option (Int × xj_M)} {r43 : Nat → Nat → Int → Int → Int → xj_M → Option (Int × xj_M)}  (hr4 : ∀ {x0 : Nat} {x1 : Nat} {x2 : Int} {x3 : Int} {M : xj_M} {R : Int × xj_M}, xin x2 → xin x3 → r4 x0 x1 x2 x3 M = some R → xW (d + 5) (none, d + 5, none) xr_157 (4, [(0, xR_ x0), (1, xR_ x1), (2, xI x2), (3, xI x3)], [], M) (xQi R)) (hr43 : ∀ {x0 : Nat} {x1 : Nat} {x2 : Int} {x3 : Int} {x4 : Int} {M : xj_M} {R : Int × xj_M}, xin x2 → xin x3 → xin x4 → r43 x0 x1 x2 x3 x4 M = some R → xW (d + 5) (none, d + 5, none) xr_157 (43, [(0, xR_ x0), (1, xR_ x1), (2, xI x2), (3, xI x3), (4, xI x4)], [], M) (xQi R)) {x0 : Nat} {x1 : Nat} {x2 : Int} {x3 : Int} {x4 : Int} {x5 : Int} {M : xj_M} {R : Int × xj_M} (hx2 : xin x2) (hx3 : xin x3) (hx4 : xin x4) (hx5 : xiN x5) (h : f157_146  r4 r43 f x0 x1 x2 x3 x4 x5 M = some R) : xW (d + 5) (none, d + 5, none) xr_157 (146, [(0, xR_ x0), (1, xR_ x1), (2, xI x2), (3, xI x3), (4, xI x4), (5, xZ x5)], [], M) (xQi R) := by
  unfold f157_146 at h
  refine xe_ldn (ins := .iload_n 2) (len := 1) (by decide +kernel) rfl rfl rfl rfl ?_
  refine xe_alr (ins := .aload_n 0) (len := 1) (i := 0) (by decide +kernel) rfl rfl rfl rfl rfl ?_
  refine xe_alr (ins := .aload_n 1) (len := 1) (i := 1) (by decide +kernel) rfl rfl rfl rfl rfl ?_
  refine xe_ldn (ins := .lload 5) (len := 2) (by decide +kernel) rfl rfl rfl rfl ?_
  obtain ⟨_, e106, h⟩ := xbnd h
  obtain ⟨R107, e105, h⟩ := xbnd h
  refine xs_cv (i := 263) (j := 159) (ar := [xZ (x5), xR_ (x1)]) (rest := [xI (x2)]) (r2 := xr_159) (by decide +kernel) (by decide +kernel) (by decide +kernel) xr_159_e rfl (by decide) (by simp only [List.map_cons, List.map_nil, List.sum_cons, List.sum_nil, xR_cat, xI_cat, xZ_cat]; decide) e106 ?_
  refine xc_i (k159 (d := d + 1)  hx5 e105) rfl (fun hi108 => ?_)
  refine xe_ifne (off := 7) (t := 161) (by decide +kernel) (by decide) rfl hi108 (fun c109 => ?_) (fun c109 => ?_)
  · rw [if_pos c109] at h
    refine xe_iconst (n := 0) (by decide +kernel) rfl ?_
    refine xW_lv rfl (l := [(0, xR_ (x0)), (1, xR_ (x1)), (3, xI (x3)), (4, xI (x4))]) (xsb_of ⟨rfl, rfl, rfl, rfl, trivial⟩ (show [0, 1, 2, 3, 4, 5].Nodup by decide)) ?_
    exact k157_162  hr4 hr43 hx3 hx4 (show xin (0) by decide) hx2 h
  · rw [if_neg c109] at h
    refine xe_iconst (n := 1) (by decide +kernel) rfl ?_
    refine xe_goto (off := 4) (nx := 162) (by decide +kernel) (by decide) ?_
    refine xW_lv rfl (l := [(0, xR_ (x0)), (1, xR_ (x1)), (3, xI (x3)), (4, xI (x4))]) (xsb_of ⟨rfl, rfl, rfl, rfl, trivial⟩ (show [0, 1, 2, 3, 4, 5].Nodup by decide)) ?_
    exact k157_162  hr4 hr43 hx3 hx4 (show xin (1) by decide) hx2 h
def f157_110  (r4 : Nat → Nat → Int → Int → xj_M → Option (Int × xj_M)) (r43 : Nat → Nat → Int → Int → Int → xj_M → Option (Int × xj_M)) (f : Nat) (x0 : Nat) (x1 : Nat) (x2 : Int) (x3 : Int) (x4 : Int) (x5 : Int) (y0 : Int) (M : xj_M) : Option (Int × xj_M) := (if ¬ (y0) = 0 then f157_179  r4 r43 f (x0) (x1) (x2) (x3) (x4) M else ((xq_gr 10 0 (x0) M).bind fun v111 => ((xq_gr 10 9 (x0) M).bind fun v113 => ((xq_is 9 (v111) M).bind fun _ => ((f142  f (v111) (v113) M).bind fun R117 => (if (R117.1) = 0 then f157_179  r4 r43 f (x0) (x1) (x2) (x3) (x4) R117.2 else (if (x3) = 0 then f157_146  r4 r43 f (x0) (x1) (x2) (x3) (x4) (x5) R117.2 else ((xq_gi 6 2 (x1) R117.2).bind fun v121 => ((xq_is 10 (x0) R117.2).bind fun _ => ((f158  f (x0) (v121) R117.2).bind fun R125 => (if (R125.1) = 0 then f157_179  r4 r43 f (x0) (x1) (x2) (x3) (x4) R125.2 else f157_146  r4 r43 f (x0) (x1) (x2) (x3) (x4) (x5) R125.2)))))))))))
theorem k157_110 {d f : Nat}  {r4 : Nat → Nat → Int → Int → xj_M → Option (Int × xj_M)} {r43 : Nat → Nat → Int → Int → Int → xj_M → Option (Int × xj_M)}  (hr4 : ∀ {x0 : Nat} {x1 : Nat} {x2 : Int} {x3 : Int} {M : xj_M} {R : Int × xj_M}, xin x2 → xin x3 → r4 x0 x1 x2 x3 M = some R → xW (d + 5) (none, d + 5, none) xr_157 (4, [(0, xR_ x0), (1, xR_ x1), (2, xI x2), (3, xI x3)], [], M) (xQi R)) (hr43 : ∀ {x0 : Nat} {x1 : Nat} {x2 : Int} {x3 : Int} {x4 : Int} {M : xj_M} {R : Int × xj_M}, xin x2 → xin x3 → xin x4 → r43 x0 x1 x2 x3 x4 M = some R → xW (d + 5) (none, d + 5, none) xr_157 (43, [(0, xR_ x0), (1, xR_ x1), (2, xI x2), (3, xI x3), (4, xI x4)], [], M) (xQi R)) {x0 : Nat} {x1 : Nat} {x2 : Int} {x3 : Int} {x4 : Int} {x5 : Int} {y0 : Int} {M : xj_M} {R : Int × xj_M} (hx2 : xin x2) (hx3 : xin x3) (hx4 : xin x4) (hx5 : xiN x5) (hy0 : xin y0) (h : f157_110  r4 r43 f x0 x1 x2 x3 x4 x5 y0 M = some R) : xW (d + 5) (none, d + 5, none) xr_157 (110, [(0, xR_ x0), (1, xR_ x1), (2, xI x2), (3, xI x3), (4, xI x4), (5, xZ x5)], [xI y0], M) (xQi R) := by
  unfold f157_110 at h
  refine xe_isr (ins := .istore 7) (len := 2) (i := 7) (by decide +kernel) rfl rfl rfl (by decide) (xk_k (show ¬ (0 : Nat) = 7 by decide) (Or.inl (show ¬ (0 + 1 : Nat) = 7 by decide)) (xk_k (show ¬ (1 : Nat) = 7 by decide) (Or.inl (show ¬ (1 + 1 : Nat) = 7 by decide)) (xk_k (show ¬ (2 : Nat) = 7 by decide) (Or.inl (show ¬ (2 + 1 : Nat) = 7 by decide)) (xk_k (show ¬ (3 : Nat) = 7 by decide) (Or.inl (show ¬ (3 + 1 : Nat) = 7 by decide)) (xk_k (show ¬ (4 : Nat) = 7 by decide) (Or.inl (show ¬ (4 + 1 : Nat) = 7 by decide)) (xk_k (show ¬ (5 : Nat) = 7 by decide) (Or.inl (show ¬ (5 + 1 : Nat) = 7 by decide)) xk_n)))))) rfl ?_
  refine xe_ldn (ins := .iload 7) (len := 2) (by decide +kernel) rfl rfl rfl rfl ?_
  refine xe_ifne (off := 65) (t := 179) (by decide +kernel) (by decide) rfl hy0 (fun c110 => ?_) (fun c110 => ?_)
  · rw [if_pos c110] at h
    refine xW_lv rfl (l := [(0, xR_ (x0)), (1, xR_ (x1)), (2, xI (x2)), (3, xI (x3)), (4, xI (x4))]) (xsb_of ⟨rfl, rfl, rfl, rfl, rfl, trivial⟩ (show [7, 0, 1, 2, 3, 4, 5].Nodup by decide)) ?_
    exact k157_179  hr4 hr43 hx2 hx3 hx4 h
  · rw [if_neg c110] at h
    refine xe_alr (ins := .aload_n 0) (len := 1) (i := 0) (by decide +kernel) rfl rfl rfl rfl rfl ?_
    obtain ⟨v111, e112, h⟩ := xbnd h
    refine xs_gr (i := 56) (c := 10) (k := 0) (by decide +kernel) (by decide) (by decide +kernel) e112 rfl ?_
    refine xe_alr (ins := .aload_n 0) (len := 1) (i := 0) (by decide +kernel) rfl rfl rfl rfl rfl ?_
    obtain ⟨v113, e114, h⟩ := xbnd h
    refine xs_gr (i := 40) (c := 10) (k := 9) (by decide +kernel) (by decide) (by decide +kernel) e114 rfl ?_
    obtain ⟨_, e116, h⟩ := xbnd h
    obtain ⟨R117, e115, h⟩ := xbnd h
    refine xs_cv (i := 237) (j := 142) (ar := [xR_ (v113)]) (rest := []) (r2 := xr_142) (by decide +kernel) (by decide +kernel) (by decide +kernel) xr_142_e rfl (by decide) (by decide) e116 ?_
    refine xc_i (k142 (d := d + 2)   e115) rfl (fun hi118 => ?_)
    refine xe_ifeq (off := 51) (t := 179) (by decide +kernel) (by decide) rfl hi118 (fun c119 => ?_) (fun c119 => ?_)
    · rw [if_pos c119] at h
      refine xW_lv rfl (l := [(0, xR_ (x0)), (1, xR_ (x1)), (2, xI (x2)), (3, xI (x3)), (4, xI (x4))]) (xsb_of ⟨rfl, rfl, rfl, rfl, rfl, trivial⟩ (show [7, 0, 1, 2, 3, 4, 5].Nodup by decide)) ?_
      exact k157_179  hr4 hr43 hx2 hx3 hx4 h
    · rw [if_neg c119] at h
      refine xe_ldn (ins := .iload_n 3) (len := 1) (by decide +kernel) rfl rfl rfl rfl ?_
      refine xe_ifeq (off := 14) (t := 146) (by decide +kernel) (by decide) rfl hx3 (fun c120 => ?_) (fun c120 => ?_)
      · rw [if_pos c120] at h
        refine xW_lv rfl (l := [(0, xR_ (x0)), (1, xR_ (x1)), (2, xI (x2)), (3, xI (x3)), (4, xI (x4)), (5, xZ (x5))]) (xsb_of ⟨rfl, rfl, rfl, rfl, rfl, rfl, trivial⟩ (show [7, 0, 1, 2, 3, 4, 5].Nodup by decide)) ?_
        exact k157_146  hr4 hr43 hx2 hx3 hx4 hx5 h
      · rw [if_neg c120] at h
        refine xe_alr (ins := .aload_n 0) (len := 1) (i := 0) (by decide +kernel) rfl rfl rfl rfl rfl ?_
        refine xe_alr (ins := .aload_n 1) (len := 1) (i := 1) (by decide +kernel) rfl rfl rfl rfl rfl ?_
        obtain ⟨v121, e122, h⟩ := xbnd h
        refine xs_gi (i := 245) (c := 6) (k := 2) (by decide +kernel) (by decide) (by decide +kernel) e122 rfl ?_
        obtain ⟨_, e124, h⟩ := xbnd h
        obtain ⟨R125, e123, h⟩ := xbnd h
        refine xs_cv (i := 259) (j := 158) (ar := [xI (v121)]) (rest := []) (r2 := xr_158) (by decide +kernel) (by decide +kernel) (by decide +kernel) xr_158_e rfl (by decide) (by decide) e124 ?_
        refine xc_i (k158 (d := d + 4)  (xq_gi_in e122) e123) rfl (fun hi126 => ?_)
        refine xe_ifeq (off := 36) (t := 179) (by decide +kernel) (by decide) rfl hi126 (fun c127 => ?_) (fun c127 => ?_)
        · rw [if_pos c127] at h
          refine xW_lv rfl (l := [(0, xR_ (x0)), (1, xR_ (x1)), (2, xI (x2)), (3, xI (x3)), (4, xI (x4))]) (xsb_of ⟨rfl, rfl, rfl, rfl, rfl, trivial⟩ (show [7, 0, 1, 2, 3, 4, 5].Nodup by decide)) ?_
          exact k157_179  hr4 hr43 hx2 hx3 hx4 h
        · rw [if_neg c127] at h
          refine xW_lv rfl (l := [(0, xR_ (x0)), (1, xR_ (x1)), (2, xI (x2)), (3, xI (x3)), (4, xI (x4)), (5, xZ (x5))]) (xsb_of ⟨rfl, rfl, rfl, rfl, rfl, rfl, trivial⟩ (show [7, 0, 1, 2, 3, 4, 5].Nodup by decide)) ?_
          exact k157_146  hr4 hr43 hx2 hx3 hx4 hx5 h
def f157_109  (r4 : Nat → Nat → Int → Int → xj_M → Option (Int × xj_M)) (r43 : Nat → Nat → Int → Int → Int → xj_M → Option (Int × xj_M)) (f : Nat) (x0 : Nat) (x1 : Nat) (x2 : Int) (x3 : Int) (x4 : Int) (x5 : Int) (M : xj_M) : Option (Int × xj_M) := f157_110  r4 r43 f (x0) (x1) (x2) (x3) (x4) (x5) (0) M
theorem k157_109 {d f : Nat}  {r4 : Nat → Nat → Int → Int → xj_M → Option (Int × xj_M)} {r43 : Nat → Nat → Int → Int → Int → xj_M → Option (Int × xj_M)}  (hr4 : ∀ {x0 : Nat} {x1 : Nat} {x2 : Int} {x3 : Int} {M : xj_M} {R : Int × xj_M}, xin x2 → xin x3 → r4 x0 x1 x2 x3 M = some R → xW (d + 5) (none, d + 5, none) xr_157 (4, [(0, xR_ x0), (1, xR_ x1), (2, xI x2), (3, xI x3)], [], M) (xQi R)) (hr43 : ∀ {x0 : Nat} {x1 : Nat} {x2 : Int} {x3 : Int} {x4 : Int} {M : xj_M} {R : Int × xj_M}, xin x2 → xin x3 → xin x4 → r43 x0 x1 x2 x3 x4 M = some R → xW (d + 5) (none, d + 5, none) xr_157 (43, [(0, xR_ x0), (1, xR_ x1), (2, xI x2), (3, xI x3), (4, xI x4)], [], M) (xQi R)) {x0 : Nat} {x1 : Nat} {x2 : Int} {x3 : Int} {x4 : Int} {x5 : Int} {M : xj_M} {R : Int × xj_M} (hx2 : xin x2) (hx3 : xin x3) (hx4 : xin x4) (hx5 : xiN x5) (h : f157_109  r4 r43 f x0 x1 x2 x3 x4 x5 M = some R) : xW (d + 5) (none, d + 5, none) xr_157 (109, [(0, xR_ x0), (1, xR_ x1), (2, xI x2), (3, xI x3), (4, xI x4), (5, xZ x5)], [], M) (xQi R) := by
  unfold f157_109 at h
  refine xe_iconst (n := 0) (by decide +kernel) rfl ?_
  refine xW_lv rfl (l := [(0, xR_ (x0)), (1, xR_ (x1)), (2, xI (x2)), (3, xI (x3)), (4, xI (x4)), (5, xZ (x5))]) (xsb_of ⟨rfl, rfl, rfl, rfl, rfl, rfl, trivial⟩ (show [0, 1, 2, 3, 4, 5].Nodup by decide)) ?_
  exact k157_110  hr4 hr43 hx2 hx3 hx4 hx5 (show xin (0) by decide) h
def f157_85  (r4 : Nat → Nat → Int → Int → xj_M → Option (Int × xj_M)) (r43 : Nat → Nat → Int → Int → Int → xj_M → Option (Int × xj_M)) (f : Nat) (x0 : Nat) (x1 : Nat) (x2 : Int) (x3 : Int) (x4 : Int) (y0 : Int) (M : xj_M) : Option (Int × xj_M) := ((xq_gi 6 4 (x1) M).bind fun v128 => (if ¬ (v128) = (11) then f157_109  r4 r43 f (x0) (x1) (x2) (x3) (x4) (y0) M else (if (y0) ≤ (1000000000000) then f157_109  r4 r43 f (x0) (x1) (x2) (x3) (x4) (y0) M else f157_110  r4 r43 f (x0) (x1) (x2) (x3) (x4) (y0) (1) M)))
theorem k157_85 {d f : Nat}  {r4 : Nat → Nat → Int → Int → xj_M → Option (Int × xj_M)} {r43 : Nat → Nat → Int → Int → Int → xj_M → Option (Int × xj_M)}  (hr4 : ∀ {x0 : Nat} {x1 : Nat} {x2 : Int} {x3 : Int} {M : xj_M} {R : Int × xj_M}, xin x2 → xin x3 → r4 x0 x1 x2 x3 M = some R → xW (d + 5) (none, d + 5, none) xr_157 (4, [(0, xR_ x0), (1, xR_ x1), (2, xI x2), (3, xI x3)], [], M) (xQi R)) (hr43 : ∀ {x0 : Nat} {x1 : Nat} {x2 : Int} {x3 : Int} {x4 : Int} {M : xj_M} {R : Int × xj_M}, xin x2 → xin x3 → xin x4 → r43 x0 x1 x2 x3 x4 M = some R → xW (d + 5) (none, d + 5, none) xr_157 (43, [(0, xR_ x0), (1, xR_ x1), (2, xI x2), (3, xI x3), (4, xI x4)], [], M) (xQi R)) {x0 : Nat} {x1 : Nat} {x2 : Int} {x3 : Int} {x4 : Int} {y0 : Int} {M : xj_M} {R : Int × xj_M} (hx2 : xin x2) (hx3 : xin x3) (hx4 : xin x4) (hy0 : xiN y0) (h : f157_85  r4 r43 f x0 x1 x2 x3 x4 y0 M = some R) : xW (d + 5) (none, d + 5, none) xr_157 (85, [(0, xR_ x0), (1, xR_ x1), (2, xI x2), (3, xI x3), (4, xI x4)], [xZ y0], M) (xQi R) := by
  unfold f157_85 at h
  refine xe_lsr (ins := .lstore 5) (len := 2) (i := 5) (by decide +kernel) rfl rfl rfl (by decide) (xk2_k (show ¬ (0 : Nat) = 5 by decide) (show ¬ (0 : Nat) = 5 + 1 by decide) (Or.inl (show ¬ (0 + 1 : Nat) = 5 by decide)) (xk2_k (show ¬ (1 : Nat) = 5 by decide) (show ¬ (1 : Nat) = 5 + 1 by decide) (Or.inl (show ¬ (1 + 1 : Nat) = 5 by decide)) (xk2_k (show ¬ (2 : Nat) = 5 by decide) (show ¬ (2 : Nat) = 5 + 1 by decide) (Or.inl (show ¬ (2 + 1 : Nat) = 5 by decide)) (xk2_k (show ¬ (3 : Nat) = 5 by decide) (show ¬ (3 : Nat) = 5 + 1 by decide) (Or.inl (show ¬ (3 + 1 : Nat) = 5 by decide)) (xk2_k (show ¬ (4 : Nat) = 5 by decide) (show ¬ (4 : Nat) = 5 + 1 by decide) (Or.inr (xI_cat _)) xk2_n))))) rfl ?_
  refine xe_alr (ins := .aload_n 1) (len := 1) (i := 1) (by decide +kernel) rfl rfl rfl rfl rfl ?_
  obtain ⟨v128, e129, h⟩ := xbnd h
  refine xs_gi (i := 248) (c := 6) (k := 4) (by decide +kernel) (by decide) (by decide +kernel) e129 rfl ?_
  refine xe_bipush (n := 11) (by decide +kernel) (by decide) rfl ?_
  refine xe_icmpne (off := 16) (t := 109) (by decide +kernel) (by decide) rfl (xq_gi_in e129) (show xin (11) by decide) (fun c130 => ?_) (fun c130 => ?_)
  · rw [if_pos c130] at h
    refine xW_lv rfl (l := [(0, xR_ (x0)), (1, xR_ (x1)), (2, xI (x2)), (3, xI (x3)), (4, xI (x4)), (5, xZ (y0))]) (xsb_of ⟨rfl, rfl, rfl, rfl, rfl, rfl, trivial⟩ (show [5, 0, 1, 2, 3, 4].Nodup by decide)) ?_
    exact k157_109  hr4 hr43 hx2 hx3 hx4 hy0 h
  · rw [if_neg c130] at h
    refine xe_ldn (ins := .lload 5) (len := 2) (by decide +kernel) rfl rfl rfl rfl ?_
    refine xe_ldc2 (i := 257) (n := 1000000000000) (by decide +kernel) (by decide +kernel) rfl ?_
    refine xe_lcmp (by decide +kernel) rfl hy0 (show xiN (1000000000000) by decide) ?_
    refine xe_ifle (off := 7) (t := 109) (by decide +kernel) (by decide) rfl (xin_cmp8 _ _) (fun c131 => ?_) (fun c131 => ?_)
    · have c131 := xcmp8_le.mp c131; rw [if_pos c131] at h
      refine xW_lv rfl (l := [(0, xR_ (x0)), (1, xR_ (x1)), (2, xI (x2)), (3, xI (x3)), (4, xI (x4)), (5, xZ (y0))]) (xsb_of ⟨rfl, rfl, rfl, rfl, rfl, rfl, trivial⟩ (show [5, 0, 1, 2, 3, 4].Nodup by decide)) ?_
      exact k157_109  hr4 hr43 hx2 hx3 hx4 hy0 h
    · have c131 := (not_congr xcmp8_le).mp c131; rw [if_neg c131] at h
      refine xe_iconst (n := 1) (by decide +kernel) rfl ?_
      refine xe_goto (off := 4) (nx := 110) (by decide +kernel) (by decide) ?_
      refine xW_lv rfl (l := [(0, xR_ (x0)), (1, xR_ (x1)), (2, xI (x2)), (3, xI (x3)), (4, xI (x4)), (5, xZ (y0))]) (xsb_of ⟨rfl, rfl, rfl, rfl, rfl, rfl, trivial⟩ (show [5, 0, 1, 2, 3, 4].Nodup by decide)) ?_
      exact k157_110  hr4 hr43 hx2 hx3 hx4 hy0 (show xin (1) by decide) h
def f157_185  (r4 : Nat → Nat → Int → Int → xj_M → Option (Int × xj_M)) (f : Nat) (x0 : Nat) (x1 : Nat) (x2 : Int) (x3 : Int) (M : xj_M) : Option (Int × xj_M) := ((xq_is 10 (x0) M).bind fun _ => ((f161  f (x0) (x1) M).bind fun R134 => (if ¬ (R134.1) = 0 then r4 (x0) (x1) (x2) (xwr ((x3) + (1))) R134.2 else (some (0, R134.2)))))
theorem k157_185 {d f : Nat}  {r4 : Nat → Nat → Int → Int → xj_M → Option (Int × xj_M)}  (hr4 : ∀ {x0 : Nat} {x1 : Nat} {x2 : Int} {x3 : Int} {M : xj_M} {R : Int × xj_M}, xin x2 → xin x3 → r4 x0 x1 x2 x3 M = some R → xW (d + 5) (none, d + 5, none) xr_157 (4, [(0, xR_ x0), (1, xR_ x1), (2, xI x2), (3, xI x3)], [], M) (xQi R)) {x0 : Nat} {x1 : Nat} {x2 : Int} {x3 : Int} {M : xj_M} {R : Int × xj_M} (hx2 : xin x2) (hx3 : xin x3) (h : f157_185  r4 f x0 x1 x2 x3 M = some R) : xW (d + 5) (none, d + 5, none) xr_157 (185, [(0, xR_ x0), (1, xR_ x1), (2, xI x2), (3, xI x3)], [], M) (xQi R) := by
  unfold f157_185 at h
  refine xe_alr (ins := .aload_n 0) (len := 1) (i := 0) (by decide +kernel) rfl rfl rfl rfl rfl ?_
  refine xe_alr (ins := .aload_n 1) (len := 1) (i := 1) (by decide +kernel) rfl rfl rfl rfl rfl ?_
  obtain ⟨_, e133, h⟩ := xbnd h
  obtain ⟨R134, e132, h⟩ := xbnd h
  refine xs_cv (i := 267) (j := 161) (ar := [xR_ (x1)]) (rest := []) (r2 := xr_161) (by decide +kernel) (by decide +kernel) (by decide +kernel) xr_161_e rfl (by decide) (by decide) e133 ?_
  refine xc_i (k161 (d := d + 0)   e132) rfl (fun hi135 => ?_)
  refine xe_ifne (off := 5) (t := 195) (by decide +kernel) (by decide) rfl hi135 (fun c136 => ?_) (fun c136 => ?_)
  · rw [if_pos c136] at h
    refine xe_iincr (i := 3) (n := 1) (by decide +kernel) (by decide) rfl (xk_k (show ¬ (0 : Nat) = 3 by decide) (Or.inl (show ¬ (0 + 1 : Nat) = 3 by decide)) (xk_k (show ¬ (1 : Nat) = 3 by decide) (Or.inl (show ¬ (1 + 1 : Nat) = 3 by decide)) (xk_k (show ¬ (2 : Nat) = 3 by decide) (Or.inr (xI_cat _)) (xk_d rfl xk_n)))) rfl ?_
    refine xe_goto (off := -194) (nx := 4) (by decide +kernel) (by decide) ?_
    refine xW_lv rfl (l := [(0, xR_ (x0)), (1, xR_ (x1)), (2, xI (x2)), (3, xI (xwr ((x3) + (1))))]) (xsb_of ⟨rfl, rfl, rfl, rfl, trivial⟩ (show [3, 0, 1, 2].Nodup by decide)) ?_
    exact hr4 hx2 (xin_wr _) h
  · rw [if_neg c136] at h
    refine xe_iconst (n := 0) (by decide +kernel) rfl ?_
    cases h
    exact xe_ret_i (ty := .boolean) (by decide +kernel) rfl (by decide) ⟨rfl, rfl, (show xin (0) by decide)⟩
def f157_43b  (r4 : Nat → Nat → Int → Int → xj_M → Option (Int × xj_M)) (r43 : Nat → Nat → Int → Int → Int → xj_M → Option (Int × xj_M)) (f : Nat) (x0 : Nat) (x1 : Nat) (x2 : Int) (x3 : Int) (x4 : Int) (M : xj_M) : Option (Int × xj_M) := (if (10000000) ≤ (x4) then f157_185  r4 f (x0) (x1) (x2) (x3) M else ((xq_gr 10 0 (x0) M).bind fun v138 => ((xq_is 9 (v138) M).bind fun _ => ((f132  f (v138) M).bind fun R142 => (if (R142.1) = 0 then f157_185  r4 f (x0) (x1) (x2) (x3) R142.2 else ((xq_gi 6 4 (x1) R142.2).bind fun v145 => (if ¬ (v145) = (10) then ((xq_gr 10 0 (x0) R142.2).bind fun v148 => ((xq_gr 9 0 (v148) R142.2).bind fun v150 => ((xq_gi 6 5 (x1) R142.2).bind fun v152 => ((xq_al (v150) (v152) R142.2).bind fun v154 => f157_85  r4 r43 f (x0) (x1) (x2) (x3) (x4) (v154) R142.2)))) else f157_85  r4 r43 f (x0) (x1) (x2) (x3) (x4) (1) R142.2)))))))
theorem k157_43b {d f : Nat}  {r4 : Nat → Nat → Int → Int → xj_M → Option (Int × xj_M)} {r43 : Nat → Nat → Int → Int → Int → xj_M → Option (Int × xj_M)}  (hr4 : ∀ {x0 : Nat} {x1 : Nat} {x2 : Int} {x3 : Int} {M : xj_M} {R : Int × xj_M}, xin x2 → xin x3 → r4 x0 x1 x2 x3 M = some R → xW (d + 5) (none, d + 5, none) xr_157 (4, [(0, xR_ x0), (1, xR_ x1), (2, xI x2), (3, xI x3)], [], M) (xQi R)) (hr43 : ∀ {x0 : Nat} {x1 : Nat} {x2 : Int} {x3 : Int} {x4 : Int} {M : xj_M} {R : Int × xj_M}, xin x2 → xin x3 → xin x4 → r43 x0 x1 x2 x3 x4 M = some R → xW (d + 5) (none, d + 5, none) xr_157 (43, [(0, xR_ x0), (1, xR_ x1), (2, xI x2), (3, xI x3), (4, xI x4)], [], M) (xQi R)) {x0 : Nat} {x1 : Nat} {x2 : Int} {x3 : Int} {x4 : Int} {M : xj_M} {R : Int × xj_M} (hx2 : xin x2) (hx3 : xin x3) (hx4 : xin x4) (h : f157_43b  r4 r43 f x0 x1 x2 x3 x4 M = some R) : xW (d + 5) (none, d + 5, none) xr_157 (43, [(0, xR_ x0), (1, xR_ x1), (2, xI x2), (3, xI x3), (4, xI x4)], [], M) (xQi R) := by
  unfold f157_43b at h
  refine xe_ldn (ins := .iload 4) (len := 2) (by decide +kernel) rfl rfl rfl rfl ?_
  refine xe_ldci (ins := .ldc 232) (len := 2) (n := 10000000) (by decide +kernel) rfl rfl rfl rfl rfl rfl ?_
  refine xe_icmpge (off := 138) (t := 185) (by decide +kernel) (by decide) rfl hx4 (show xin (10000000) by decide) (fun c137 => ?_) (fun c137 => ?_)
  · rw [if_pos c137] at h
    refine xW_lv rfl (l := [(0, xR_ (x0)), (1, xR_ (x1)), (2, xI (x2)), (3, xI (x3))]) (xsb_of ⟨rfl, rfl, rfl, rfl, trivial⟩ (show [0, 1, 2, 3, 4].Nodup by decide)) ?_
    exact k157_185  hr4 hx2 hx3 h
  · rw [if_neg c137] at h
    refine xe_alr (ins := .aload_n 0) (len := 1) (i := 0) (by decide +kernel) rfl rfl rfl rfl rfl ?_
    obtain ⟨v138, e139, h⟩ := xbnd h
    refine xs_gr (i := 56) (c := 10) (k := 0) (by decide +kernel) (by decide) (by decide +kernel) e139 rfl ?_
    obtain ⟨_, e141, h⟩ := xbnd h
    obtain ⟨R142, e140, h⟩ := xbnd h
    refine xs_cv (i := 233) (j := 132) (ar := []) (rest := []) (r2 := xr_132) (by decide +kernel) (by decide +kernel) (by decide +kernel) xr_132_e rfl (by decide) (by decide) e141 ?_
    refine xc_i (k132 (d := d + 0)   e140) rfl (fun hi143 => ?_)
    refine xe_ifeq (off := 128) (t := 185) (by decide +kernel) (by decide) rfl hi143 (fun c144 => ?_) (fun c144 => ?_)
    · rw [if_pos c144] at h
      refine xW_lv rfl (l := [(0, xR_ (x0)), (1, xR_ (x1)), (2, xI (x2)), (3, xI (x3))]) (xsb_of ⟨rfl, rfl, rfl, rfl, trivial⟩ (show [0, 1, 2, 3, 4].Nodup by decide)) ?_
      exact k157_185  hr4 hx2 hx3 h
    · rw [if_neg c144] at h
      refine xe_alr (ins := .aload_n 1) (len := 1) (i := 1) (by decide +kernel) rfl rfl rfl rfl rfl ?_
      obtain ⟨v145, e146, h⟩ := xbnd h
      refine xs_gi (i := 248) (c := 6) (k := 4) (by decide +kernel) (by decide) (by decide +kernel) e146 rfl ?_
      refine xe_bipush (n := 10) (by decide +kernel) (by decide) rfl ?_
      refine xe_icmpne (off := 7) (t := 73) (by decide +kernel) (by decide) rfl (xq_gi_in e146) (show xin (10) by decide) (fun c147 => ?_) (fun c147 => ?_)
      · rw [if_pos c147] at h
        refine xe_alr (ins := .aload_n 0) (len := 1) (i := 0) (by decide +kernel) rfl rfl rfl rfl rfl ?_
        obtain ⟨v148, e149, h⟩ := xbnd h
        refine xs_gr (i := 56) (c := 10) (k := 0) (by decide +kernel) (by decide) (by decide +kernel) e149 rfl ?_
        obtain ⟨v150, e151, h⟩ := xbnd h
        refine xs_gr (i := 251) (c := 9) (k := 0) (by decide +kernel) (by decide) (by decide +kernel) e151 rfl ?_
        refine xe_alr (ins := .aload_n 1) (len := 1) (i := 1) (by decide +kernel) rfl rfl rfl rfl rfl ?_
        obtain ⟨v152, e153, h⟩ := xbnd h
        refine xs_gi (i := 254) (c := 6) (k := 5) (by decide +kernel) (by decide) (by decide +kernel) e153 rfl ?_
        obtain ⟨v154, e155, h⟩ := xbnd h
        refine xs_lald (by decide +kernel) (xq_gi_in e153) e155 rfl ?_
        refine xW_lv rfl (l := [(0, xR_ (x0)), (1, xR_ (x1)), (2, xI (x2)), (3, xI (x3)), (4, xI (x4))]) (xsb_of ⟨rfl, rfl, rfl, rfl, rfl, trivial⟩ (show [0, 1, 2, 3, 4].Nodup by decide)) ?_
        exact k157_85  hr4 hr43 hx2 hx3 hx4 (xq_al_in e155) h
      · rw [if_neg c147] at h
        refine xe_lconst (n := 1) (z := 1) (by decide +kernel) rfl rfl ?_
        refine xe_goto (off := 15) (nx := 85) (by decide +kernel) (by decide) ?_
        refine xW_lv rfl (l := [(0, xR_ (x0)), (1, xR_ (x1)), (2, xI (x2)), (3, xI (x3)), (4, xI (x4))]) (xsb_of ⟨rfl, rfl, rfl, rfl, rfl, trivial⟩ (show [0, 1, 2, 3, 4].Nodup by decide)) ?_
        exact k157_85  hr4 hr43 hx2 hx3 hx4 (show xiN (1) by decide) h
def f157_43  (r4 : Nat → Nat → Int → Int → xj_M → Option (Int × xj_M)) (f : Nat) : Nat → Nat → Nat → Int → Int → Int → xj_M → Option (Int × xj_M)
  | 0, _, _, _, _, _, _ => none
  | n + 1, x0, x1, x2, x3, x4, M => f157_43b  r4 (f157_43  r4 f n) f x0 x1 x2 x3 x4 M
theorem k157_43 {d f : Nat}  {r4 : Nat → Nat → Int → Int → xj_M → Option (Int × xj_M)}  (hr4 : ∀ {x0 : Nat} {x1 : Nat} {x2 : Int} {x3 : Int} {M : xj_M} {R : Int × xj_M}, xin x2 → xin x3 → r4 x0 x1 x2 x3 M = some R → xW (d + 5) (none, d + 5, none) xr_157 (4, [(0, xR_ x0), (1, xR_ x1), (2, xI x2), (3, xI x3)], [], M) (xQi R)) : ∀ {n : Nat} {x0 : Nat} {x1 : Nat} {x2 : Int} {x3 : Int} {x4 : Int} {M : xj_M} {R : Int × xj_M}, xin x2 → xin x3 → xin x4 → f157_43  r4 f n x0 x1 x2 x3 x4 M = some R → xW (d + 5) (none, d + 5, none) xr_157 (43, [(0, xR_ x0), (1, xR_ x1), (2, xI x2), (3, xI x3), (4, xI x4)], [], M) (xQi R) := by
  intro n
  induction n with
  | zero => intros; rename_i h; cases h
  | succ n ih => intros; rename_i h; exact k157_43b  hr4 ih (by assumption) (by assumption) (by assumption) h
def f157_201   (f : Nat)  (M : xj_M) : Option (Int × xj_M) := (some (1, M))
theorem k157_201 {d f : Nat}      {M : xj_M} {R : Int × xj_M}  (h : f157_201   f  M = some R) : xW (d + 5) (none, d + 5, none) xr_157 (201, [], [], M) (xQi R) := by
  unfold f157_201 at h
  refine xe_iconst (n := 1) (by decide +kernel) rfl ?_
  cases h
  exact xe_ret_i (ty := .boolean) (by decide +kernel) rfl (by decide) ⟨rfl, rfl, (show xin (1) by decide)⟩
def f157_4b  (r4 : Nat → Nat → Int → Int → xj_M → Option (Int × xj_M)) (f : Nat) (x0 : Nat) (x1 : Nat) (x2 : Int) (x3 : Int) (M : xj_M) : Option (Int × xj_M) := (if (10000000) ≤ (x3) then f157_201   f  M else (if (x2) = 0 then f157_201   f  M else ((xq_gr 10 7 (x0) M).bind fun v158 => ((xq_gi 6 2 (x1) M).bind fun v160 => ((xq_is 5 (v158) M).bind fun _ => ((f69  f (v158) (v160) M).bind fun M164 => ((xq_gr 10 0 (x0) M164).bind fun v166 => ((xq_gr 10 2 (x0) M164).bind fun v168 => ((xq_is 9 (v166) M164).bind fun _ => ((f130  f (v166) (x1) (v168) (0) M164).bind fun M172 => f157_43  r4 f f (x0) (x1) (0) (x3) (0) M172))))))))))
theorem k157_4b {d f : Nat}  {r4 : Nat → Nat → Int → Int → xj_M → Option (Int × xj_M)}  (hr4 : ∀ {x0 : Nat} {x1 : Nat} {x2 : Int} {x3 : Int} {M : xj_M} {R : Int × xj_M}, xin x2 → xin x3 → r4 x0 x1 x2 x3 M = some R → xW (d + 5) (none, d + 5, none) xr_157 (4, [(0, xR_ x0), (1, xR_ x1), (2, xI x2), (3, xI x3)], [], M) (xQi R)) {x0 : Nat} {x1 : Nat} {x2 : Int} {x3 : Int} {M : xj_M} {R : Int × xj_M} (hx2 : xin x2) (hx3 : xin x3) (h : f157_4b  r4 f x0 x1 x2 x3 M = some R) : xW (d + 5) (none, d + 5, none) xr_157 (4, [(0, xR_ x0), (1, xR_ x1), (2, xI x2), (3, xI x3)], [], M) (xQi R) := by
  unfold f157_4b at h
  refine xe_ldn (ins := .iload_n 3) (len := 1) (by decide +kernel) rfl rfl rfl rfl ?_
  refine xe_ldci (ins := .ldc 232) (len := 2) (n := 10000000) (by decide +kernel) rfl rfl rfl rfl rfl rfl ?_
  refine xe_icmpge (off := 194) (t := 201) (by decide +kernel) (by decide) rfl hx3 (show xin (10000000) by decide) (fun c156 => ?_) (fun c156 => ?_)
  · rw [if_pos c156] at h
    refine xW_lv rfl (l := []) (xsb_of trivial (show [0, 1, 2, 3].Nodup by decide)) ?_
    exact k157_201    h
  · rw [if_neg c156] at h
    refine xe_ldn (ins := .iload_n 2) (len := 1) (by decide +kernel) rfl rfl rfl rfl ?_
    refine xe_ifeq (off := 190) (t := 201) (by decide +kernel) (by decide) rfl hx2 (fun c157 => ?_) (fun c157 => ?_)
    · rw [if_pos c157] at h
      refine xW_lv rfl (l := []) (xsb_of trivial (show [0, 1, 2, 3].Nodup by decide)) ?_
      exact k157_201    h
    · rw [if_neg c157] at h
      refine xe_iconst (n := 0) (by decide +kernel) rfl ?_
      refine xe_isr (ins := .istore_n 2) (len := 1) (i := 2) (by decide +kernel) rfl rfl rfl (by decide) (xk_k (show ¬ (0 : Nat) = 2 by decide) (Or.inl (show ¬ (0 + 1 : Nat) = 2 by decide)) (xk_k (show ¬ (1 : Nat) = 2 by decide) (Or.inr (xR_cat _)) (xk_d rfl (xk_k (show ¬ (3 : Nat) = 2 by decide) (Or.inl (show ¬ (3 + 1 : Nat) = 2 by decide)) xk_n)))) rfl ?_
      refine xe_alr (ins := .aload_n 0) (len := 1) (i := 0) (by decide +kernel) rfl rfl rfl rfl rfl ?_
      obtain ⟨v158, e159, h⟩ := xbnd h
      refine xs_gr (i := 32) (c := 10) (k := 7) (by decide +kernel) (by decide) (by decide +kernel) e159 rfl ?_
      refine xe_alr (ins := .aload_n 1) (len := 1) (i := 1) (by decide +kernel) rfl rfl rfl rfl rfl ?_
      obtain ⟨v160, e161, h⟩ := xbnd h
      refine xs_gi (i := 245) (c := 6) (k := 2) (by decide +kernel) (by decide) (by decide +kernel) e161 rfl ?_
      obtain ⟨_, e163, h⟩ := xbnd h
      obtain ⟨M164, e162, h⟩ := xbnd h
      refine xs_cv (i := 201) (j := 69) (ar := [xI (v160)]) (rest := []) (r2 := xr_69) (by decide +kernel) (by decide +kernel) (by decide +kernel) xr_69_e rfl (by decide) (by decide) e163 ?_
      refine xc_v (k69 (d := d + 4)  (xq_gi_in e161) e162) rfl ?_
      refine xe_alr (ins := .aload_n 0) (len := 1) (i := 0) (by decide +kernel) rfl rfl rfl rfl rfl ?_
      obtain ⟨v166, e167, h⟩ := xbnd h
      refine xs_gr (i := 56) (c := 10) (k := 0) (by decide +kernel) (by decide) (by decide +kernel) e167 rfl ?_
      refine xe_alr (ins := .aload_n 1) (len := 1) (i := 1) (by decide +kernel) rfl rfl rfl rfl rfl ?_
      refine xe_alr (ins := .aload_n 0) (len := 1) (i := 0) (by decide +kernel) rfl rfl rfl rfl rfl ?_
      obtain ⟨v168, e169, h⟩ := xbnd h
      refine xs_gr (i := 11) (c := 10) (k := 2) (by decide +kernel) (by decide) (by decide +kernel) e169 rfl ?_
      refine xe_iconst (n := 0) (by decide +kernel) rfl ?_
      obtain ⟨_, e171, h⟩ := xbnd h
      obtain ⟨M172, e170, h⟩ := xbnd h
      refine xs_cv (i := 216) (j := 130) (ar := [xI (0), xR_ (v168), xR_ (x1)]) (rest := []) (r2 := xr_130) (by decide +kernel) (by decide +kernel) (by decide +kernel) xr_130_e rfl (by decide) (by decide) e171 ?_
      refine xc_v (k130 (d := d + 3)  (show xin (0) by decide) e170) rfl ?_
      refine xe_iconst (n := 0) (by decide +kernel) rfl ?_
      refine xe_isr (ins := .istore 4) (len := 2) (i := 4) (by decide +kernel) rfl rfl rfl (by decide) (xk_k (show ¬ (2 : Nat) = 4 by decide) (Or.inl (show ¬ (2 + 1 : Nat) = 4 by decide)) (xk_k (show ¬ (0 : Nat) = 4 by decide) (Or.inl (show ¬ (0 + 1 : Nat) = 4 by decide)) (xk_k (show ¬ (1 : Nat) = 4 by decide) (Or.inl (show ¬ (1 + 1 : Nat) = 4 by decide)) (xk_k (show ¬ (3 : Nat) = 4 by decide) (Or.inr (xI_cat _)) xk_n)))) rfl ?_
      refine xW_lv rfl (l := [(0, xR_ (x0)), (1, xR_ (x1)), (2, xI (0)), (3, xI (x3)), (4, xI (0))]) (xsb_of ⟨rfl, rfl, rfl, rfl, rfl, trivial⟩ (show [4, 2, 0, 1, 3].Nodup by decide)) ?_
      exact k157_43  hr4 (show xin (0) by decide) hx3 (show xin (0) by decide) h
def f157_4   (f : Nat) : Nat → Nat → Nat → Int → Int → xj_M → Option (Int × xj_M)
  | 0, _, _, _, _, _ => none
  | n + 1, x0, x1, x2, x3, M => f157_4b   (f157_4   f n) f x0 x1 x2 x3 M
theorem k157_4 {d f : Nat}     : ∀ {n : Nat} {x0 : Nat} {x1 : Nat} {x2 : Int} {x3 : Int} {M : xj_M} {R : Int × xj_M}, xin x2 → xin x3 → f157_4   f n x0 x1 x2 x3 M = some R → xW (d + 5) (none, d + 5, none) xr_157 (4, [(0, xR_ x0), (1, xR_ x1), (2, xI x2), (3, xI x3)], [], M) (xQi R) := by
  intro n
  induction n with
  | zero => intros; rename_i h; cases h
  | succ n ih => intros; rename_i h; exact k157_4b   ih (by assumption) (by assumption) h
def f157  (f : Nat) (a0 : Nat) (a1 : Nat) (M : xj_M) : Option (Int × xj_M) := f157_4   f f (a0) (a1) (1) (0) M
theorem k157 {d f : Nat}   {a0 : Nat} {a1 : Nat} {M : xj_M} {R : Int × xj_M}  (h : f157  f a0 a1 M = some R) : xT (d + 6) 157 [xR_ a0, xR_ a1] M (xQi R) := by
  refine xT_m xr_157_e (X := (none, d + 5, none)) rfl (xa_1 (xR_cat _) (xa_1 (xR_cat _) xa_n)) (by decide) ?_
  unfold f157 at h
  refine xe_iconst (n := 1) (by decide +kernel) rfl ?_
  refine xe_isr (ins := .istore_n 2) (len := 1) (i := 2) (by decide +kernel) rfl rfl rfl (by decide) (xk_k (show ¬ (0 : Nat) = 2 by decide) (Or.inl (show ¬ (0 + 1 : Nat) = 2 by decide)) (xk_k (show ¬ (1 : Nat) = 2 by decide) (Or.inr (xR_cat _)) xk_n)) rfl ?_
  refine xe_iconst (n := 0) (by decide +kernel) rfl ?_
  refine xe_isr (ins := .istore_n 3) (len := 1) (i := 3) (by decide +kernel) rfl rfl rfl (by decide) (xk_k (show ¬ (2 : Nat) = 3 by decide) (Or.inr (xI_cat _)) (xk_k (show ¬ (0 : Nat) = 3 by decide) (Or.inl (show ¬ (0 + 1 : Nat) = 3 by decide)) (xk_k (show ¬ (1 : Nat) = 3 by decide) (Or.inl (show ¬ (1 + 1 : Nat) = 3 by decide)) xk_n))) rfl ?_
  refine xW_lv rfl (l := [(0, xR_ (a0)), (1, xR_ (a1)), (2, xI (1)), (3, xI (0))]) (xsb_of ⟨rfl, rfl, rfl, rfl, trivial⟩ (show [3, 2, 0, 1].Nodup by decide)) ?_
  exact k157_4   (show xin (1) by decide) (show xin (0) by decide) h
-- ChangeHouse$Works.findWay
def xr_164 : xj_mR := (10, yX10_findWay, cX10_findWay, 8, (Option.some Jvm.ClassFile.FieldType.boolean), 3, false, (8, 70), (1, 5))
set_option maxRecDepth 20000 in
theorem xr_164_e : xj_row 164 = some xr_164 := rfl
def f164_72  (r34 : Nat → Nat → Int → Int → Int → xj_M → Option (Int × xj_M)) (f : Nat) (x0 : Nat) (x1 : Nat) (x3 : Int) (x4 : Int) (x5 : Int) (y0 : Int) (y1 : Int) (y2 : Nat) (M : xj_M) : Option (Int × xj_M) := ((xq_si (y2) (y1) (y0) M).bind fun M101 => r34 (x0) (x1) (x3) (x4) (xwr ((x5) + (1))) M101)
theorem k164_72 {d f : Nat}  {r34 : Nat → Nat → Int → Int → Int → xj_M → Option (Int × xj_M)}  (hr34 : ∀ {x0 : Nat} {x1 : Nat} {x3 : Int} {x4 : Int} {x5 : Int} {M : xj_M} {R : Int × xj_M}, xin x3 → xin x4 → xin x5 → r34 x0 x1 x3 x4 x5 M = some R → xW (d + 5) (none, d + 5, none) xr_164 (34, [(0, xR_ x0), (1, xR_ x1), (3, xI x3), (4, xI x4), (5, xI x5)], [], M) (xQi R)) {x0 : Nat} {x1 : Nat} {x3 : Int} {x4 : Int} {x5 : Int} {y0 : Int} {y1 : Int} {y2 : Nat} {M : xj_M} {R : Int × xj_M} (hx3 : xin x3) (hx4 : xin x4) (hx5 : xin x5) (hy0 : xin y0) (hy1 : xin y1) (h : f164_72  r34 f x0 x1 x3 x4 x5 y0 y1 y2 M = some R) : xW (d + 5) (none, d + 5, none) xr_164 (72, [(0, xR_ x0), (1, xR_ x1), (3, xI x3), (4, xI x4), (5, xI x5)], [xI y0, xI y1, xR_ y2], M) (xQi R) := by
  unfold f164_72 at h
  obtain ⟨M101, e102, h⟩ := xbnd h
  refine xs_iast (by decide +kernel) hy1 e102 rfl ?_
  refine xe_iincr (i := 5) (n := 1) (by decide +kernel) (by decide) rfl (xk_k (show ¬ (0 : Nat) = 5 by decide) (Or.inl (show ¬ (0 + 1 : Nat) = 5 by decide)) (xk_k (show ¬ (1 : Nat) = 5 by decide) (Or.inl (show ¬ (1 + 1 : Nat) = 5 by decide)) (xk_k (show ¬ (3 : Nat) = 5 by decide) (Or.inl (show ¬ (3 + 1 : Nat) = 5 by decide)) (xk_k (show ¬ (4 : Nat) = 5 by decide) (Or.inr (xI_cat _)) (xk_d rfl xk_n))))) rfl ?_
  refine xe_goto (off := -42) (nx := 34) (by decide +kernel) (by decide) ?_
  refine xW_lv rfl (l := [(0, xR_ (x0)), (1, xR_ (x1)), (3, xI (x3)), (4, xI (x4)), (5, xI (xwr ((x5) + (1))))]) (xsb_of ⟨rfl, rfl, rfl, rfl, rfl, trivial⟩ (show [5, 0, 1, 3, 4].Nodup by decide)) ?_
  exact hr34 hx3 hx4 (xin_wr _) h
def f164_126  (r82 : Nat → Nat → Int → xj_M → Option (Int × xj_M)) (f : Nat) (x0 : Nat) (x1 : Nat) (x5 : Int) (M : xj_M) : Option (Int × xj_M) := r82 (x0) (x1) (xwr ((x5) + (1))) M
theorem k164_126 {d f : Nat}  {r82 : Nat → Nat → Int → xj_M → Option (Int × xj_M)}  (hr82 : ∀ {x0 : Nat} {x1 : Nat} {x5 : Int} {M : xj_M} {R : Int × xj_M}, xin x5 → r82 x0 x1 x5 M = some R → xW (d + 5) (none, d + 5, none) xr_164 (82, [(0, xR_ x0), (1, xR_ x1), (5, xI x5)], [], M) (xQi R)) {x0 : Nat} {x1 : Nat} {x5 : Int} {M : xj_M} {R : Int × xj_M} (hx5 : xin x5) (h : f164_126  r82 f x0 x1 x5 M = some R) : xW (d + 5) (none, d + 5, none) xr_164 (126, [(0, xR_ x0), (1, xR_ x1), (5, xI x5)], [], M) (xQi R) := by
  unfold f164_126 at h
  refine xe_iincr (i := 5) (n := 1) (by decide +kernel) (by decide) rfl (xk_k (show ¬ (0 : Nat) = 5 by decide) (Or.inl (show ¬ (0 + 1 : Nat) = 5 by decide)) (xk_k (show ¬ (1 : Nat) = 5 by decide) (Or.inl (show ¬ (1 + 1 : Nat) = 5 by decide)) (xk_d rfl xk_n))) rfl ?_
  refine xe_goto (off := -47) (nx := 82) (by decide +kernel) (by decide) ?_
  refine xW_lv rfl (l := [(0, xR_ (x0)), (1, xR_ (x1)), (5, xI (xwr ((x5) + (1))))]) (xsb_of ⟨rfl, rfl, rfl, trivial⟩ (show [5, 0, 1].Nodup by decide)) ?_
  exact hr82 (xin_wr _) h
def f164_214  (r138 : Nat → Nat → Int → Int → xj_M → Option (Int × xj_M)) (f : Nat) (x0 : Nat) (x1 : Nat) (x5 : Int) (x6 : Int) (M : xj_M) : Option (Int × xj_M) := r138 (x0) (x1) (x5) (xwr ((x6) + (1))) M
theorem k164_214 {d f : Nat}  {r138 : Nat → Nat → Int → Int → xj_M → Option (Int × xj_M)}  (hr138 : ∀ {x0 : Nat} {x1 : Nat} {x5 : Int} {x6 : Int} {M : xj_M} {R : Int × xj_M}, xin x5 → xin x6 → r138 x0 x1 x5 x6 M = some R → xW (d + 5) (none, d + 5, none) xr_164 (138, [(0, xR_ x0), (1, xR_ x1), (5, xI x5), (6, xI x6)], [], M) (xQi R)) {x0 : Nat} {x1 : Nat} {x5 : Int} {x6 : Int} {M : xj_M} {R : Int × xj_M} (hx5 : xin x5) (hx6 : xin x6) (h : f164_214  r138 f x0 x1 x5 x6 M = some R) : xW (d + 5) (none, d + 5, none) xr_164 (214, [(0, xR_ x0), (1, xR_ x1), (5, xI x5), (6, xI x6)], [], M) (xQi R) := by
  unfold f164_214 at h
  refine xe_iincr (i := 6) (n := 1) (by decide +kernel) (by decide) rfl (xk_k (show ¬ (0 : Nat) = 6 by decide) (Or.inl (show ¬ (0 + 1 : Nat) = 6 by decide)) (xk_k (show ¬ (1 : Nat) = 6 by decide) (Or.inl (show ¬ (1 + 1 : Nat) = 6 by decide)) (xk_k (show ¬ (5 : Nat) = 6 by decide) (Or.inr (xI_cat _)) (xk_d rfl xk_n)))) rfl ?_
  refine xe_goto (off := -79) (nx := 138) (by decide +kernel) (by decide) ?_
  refine xW_lv rfl (l := [(0, xR_ (x0)), (1, xR_ (x1)), (5, xI (x5)), (6, xI (xwr ((x6) + (1))))]) (xsb_of ⟨rfl, rfl, rfl, rfl, trivial⟩ (show [6, 0, 1, 5].Nodup by decide)) ?_
  exact hr138 hx5 (xin_wr _) h
def f164_193  (r138 : Nat → Nat → Int → Int → xj_M → Option (Int × xj_M)) (f : Nat) (x0 : Nat) (x1 : Nat) (x6 : Int) (M : xj_M) : Option (Int × xj_M) := ((xq_gr 10 0 (x0) M).bind fun v103 => ((xq_gr 9 0 (v103) M).bind fun v105 => ((xq_gr 10 12 (x0) M).bind fun v107 => ((xq_cp (v105) (0) (v107) (0) (8) M).bind fun M109 => f164_214  r138 f (x0) (x1) (1) (x6) M109))))
theorem k164_193 {d f : Nat}  {r138 : Nat → Nat → Int → Int → xj_M → Option (Int × xj_M)}  (hr138 : ∀ {x0 : Nat} {x1 : Nat} {x5 : Int} {x6 : Int} {M : xj_M} {R : Int × xj_M}, xin x5 → xin x6 → r138 x0 x1 x5 x6 M = some R → xW (d + 5) (none, d + 5, none) xr_164 (138, [(0, xR_ x0), (1, xR_ x1), (5, xI x5), (6, xI x6)], [], M) (xQi R)) {x0 : Nat} {x1 : Nat} {x6 : Int} {M : xj_M} {R : Int × xj_M} (hx6 : xin x6) (h : f164_193  r138 f x0 x1 x6 M = some R) : xW (d + 5) (none, d + 5, none) xr_164 (193, [(0, xR_ x0), (1, xR_ x1), (6, xI x6)], [], M) (xQi R) := by
  unfold f164_193 at h
  refine xe_alr (ins := .aload_n 0) (len := 1) (i := 0) (by decide +kernel) rfl rfl rfl rfl rfl ?_
  obtain ⟨v103, e104, h⟩ := xbnd h
  refine xs_gr (i := 56) (c := 10) (k := 0) (by decide +kernel) (by decide) (by decide +kernel) e104 rfl ?_
  obtain ⟨v105, e106, h⟩ := xbnd h
  refine xs_gr (i := 251) (c := 9) (k := 0) (by decide +kernel) (by decide) (by decide +kernel) e106 rfl ?_
  refine xe_iconst (n := 0) (by decide +kernel) rfl ?_
  refine xe_alr (ins := .aload_n 0) (len := 1) (i := 0) (by decide +kernel) rfl rfl rfl rfl rfl ?_
  obtain ⟨v107, e108, h⟩ := xbnd h
  refine xs_gr (i := 49) (c := 10) (k := 12) (by decide +kernel) (by decide) (by decide +kernel) e108 rfl ?_
  refine xe_iconst (n := 0) (by decide +kernel) rfl ?_
  refine xe_bipush (n := 8) (by decide +kernel) (by decide) rfl ?_
  obtain ⟨M109, e110, h⟩ := xbnd h
  refine xs_cp (i := 114) (j := 0) (by decide +kernel) (by decide +kernel) (show xin (0) by decide) (show xin (0) by decide) (show xin (8) by decide) (by rfl) e110 rfl ?_
  refine xe_iconst (n := 1) (by decide +kernel) rfl ?_
  refine xe_isr (ins := .istore 5) (len := 2) (i := 5) (by decide +kernel) rfl rfl rfl (by decide) (xk_k (show ¬ (0 : Nat) = 5 by decide) (Or.inl (show ¬ (0 + 1 : Nat) = 5 by decide)) (xk_k (show ¬ (1 : Nat) = 5 by decide) (Or.inl (show ¬ (1 + 1 : Nat) = 5 by decide)) (xk_k (show ¬ (6 : Nat) = 5 by decide) (Or.inl (show ¬ (6 + 1 : Nat) = 5 by decide)) xk_n))) rfl ?_
  refine xW_lv rfl (l := [(0, xR_ (x0)), (1, xR_ (x1)), (5, xI (1)), (6, xI (x6))]) (xsb_of ⟨rfl, rfl, rfl, rfl, trivial⟩ (show [5, 0, 1, 6].Nodup by decide)) ?_
  exact k164_214  hr138 (show xin (1) by decide) hx6 h
def f164_275  (r226 : Nat → Nat → Int → Int → Int → xj_M → Option (Int × xj_M)) (f : Nat) (x0 : Nat) (x1 : Nat) (x5 : Int) (x6 : Int) (x7 : Int) (M : xj_M) : Option (Int × xj_M) := r226 (x0) (x1) (x5) (x6) (xwr ((x7) + (1))) M
theorem k164_275 {d f : Nat}  {r226 : Nat → Nat → Int → Int → Int → xj_M → Option (Int × xj_M)}  (hr226 : ∀ {x0 : Nat} {x1 : Nat} {x5 : Int} {x6 : Int} {x7 : Int} {M : xj_M} {R : Int × xj_M}, xin x5 → xin x6 → xin x7 → r226 x0 x1 x5 x6 x7 M = some R → xW (d + 5) (none, d + 5, none) xr_164 (226, [(0, xR_ x0), (1, xR_ x1), (5, xI x5), (6, xI x6), (7, xI x7)], [], M) (xQi R)) {x0 : Nat} {x1 : Nat} {x5 : Int} {x6 : Int} {x7 : Int} {M : xj_M} {R : Int × xj_M} (hx5 : xin x5) (hx6 : xin x6) (hx7 : xin x7) (h : f164_275  r226 f x0 x1 x5 x6 x7 M = some R) : xW (d + 5) (none, d + 5, none) xr_164 (275, [(0, xR_ x0), (1, xR_ x1), (5, xI x5), (6, xI x6), (7, xI x7)], [], M) (xQi R) := by
  unfold f164_275 at h
  refine xe_iincr (i := 7) (n := 1) (by decide +kernel) (by decide) rfl (xk_k (show ¬ (0 : Nat) = 7 by decide) (Or.inl (show ¬ (0 + 1 : Nat) = 7 by decide)) (xk_k (show ¬ (1 : Nat) = 7 by decide) (Or.inl (show ¬ (1 + 1 : Nat) = 7 by decide)) (xk_k (show ¬ (5 : Nat) = 7 by decide) (Or.inl (show ¬ (5 + 1 : Nat) = 7 by decide)) (xk_k (show ¬ (6 : Nat) = 7 by decide) (Or.inr (xI_cat _)) (xk_d rfl xk_n))))) rfl ?_
  refine xe_goto (off := -52) (nx := 226) (by decide +kernel) (by decide) ?_
  refine xW_lv rfl (l := [(0, xR_ (x0)), (1, xR_ (x1)), (5, xI (x5)), (6, xI (x6)), (7, xI (xwr ((x7) + (1))))]) (xsb_of ⟨rfl, rfl, rfl, rfl, rfl, trivial⟩ (show [7, 0, 1, 5, 6].Nodup by decide)) ?_
  exact hr226 hx5 hx6 (xin_wr _) h
def f164_281   (f : Nat) (x5 : Int) (M : xj_M) : Option (Int × xj_M) := (if (x5) = 0 ∨ (x5) = 1 then some (x5, M) else none)
theorem k164_281 {d f : Nat}     {x5 : Int} {M : xj_M} {R : Int × xj_M} (hx5 : xin x5) (h : f164_281   f x5 M = some R) : xW (d + 5) (none, d + 5, none) xr_164 (281, [(5, xI x5)], [], M) (xQi R) := by
  unfold f164_281 at h
  refine xe_ldn (ins := .iload 5) (len := 2) (by decide +kernel) rfl rfl rfl rfl ?_
  by_cases c111 : (x5) = 0 ∨ (x5) = 1
  · rw [if_pos c111] at h; cases h; exact xe_ret_i (ty := .boolean) (by decide +kernel) rfl (xbool c111) ⟨rfl, rfl, hx5⟩
  · rw [if_neg c111] at h; cases h
def f164_226b  (r226 : Nat → Nat → Int → Int → Int → xj_M → Option (Int × xj_M)) (f : Nat) (x0 : Nat) (x1 : Nat) (x5 : Int) (x6 : Int) (x7 : Int) (M : xj_M) : Option (Int × xj_M) := (if (x5) = 0 then f164_281   f (x5) M else ((xq_gi 6 8 (x1) M).bind fun v113 => (if (v113) ≤ (x7) then f164_281   f (x5) M else ((xq_gr 6 9 (x1) M).bind fun v116 => ((xq_ai 3 (v116) (x7) M).bind fun v118 => (if ¬ (v118) = (15) then f164_275  r226 f (x0) (x1) (x5) (x6) (x7) M else ((xq_gr 10 17 (x0) M).bind fun v121 => ((xq_gr 10 0 (x0) M).bind fun v123 => ((xq_gr 10 12 (x0) M).bind fun v125 => ((xq_is 9 (v123) M).bind fun _ => ((f143  f (v123) (x7) (v125) M).bind fun R129 => ((xq_si (v121) (x6) (R129.1) R129.2).bind fun M131 => f164_275  r226 f (x0) (x1) (x5) (xwr ((x6) + (1))) (x7) M131))))))))))))
theorem k164_226b {d f : Nat}  {r226 : Nat → Nat → Int → Int → Int → xj_M → Option (Int × xj_M)}  (hr226 : ∀ {x0 : Nat} {x1 : Nat} {x5 : Int} {x6 : Int} {x7 : Int} {M : xj_M} {R : Int × xj_M}, xin x5 → xin x6 → xin x7 → r226 x0 x1 x5 x6 x7 M = some R → xW (d + 5) (none, d + 5, none) xr_164 (226, [(0, xR_ x0), (1, xR_ x1), (5, xI x5), (6, xI x6), (7, xI x7)], [], M) (xQi R)) {x0 : Nat} {x1 : Nat} {x5 : Int} {x6 : Int} {x7 : Int} {M : xj_M} {R : Int × xj_M} (hx5 : xin x5) (hx6 : xin x6) (hx7 : xin x7) (h : f164_226b  r226 f x0 x1 x5 x6 x7 M = some R) : xW (d + 5) (none, d + 5, none) xr_164 (226, [(0, xR_ x0), (1, xR_ x1), (5, xI x5), (6, xI x6), (7, xI x7)], [], M) (xQi R) := by
  unfold f164_226b at h
  refine xe_ldn (ins := .iload 5) (len := 2) (by decide +kernel) rfl rfl rfl rfl ?_
  refine xe_ifeq (off := 53) (t := 281) (by decide +kernel) (by decide) rfl hx5 (fun c112 => ?_) (fun c112 => ?_)
  · rw [if_pos c112] at h
    refine xW_lv rfl (l := [(5, xI (x5))]) (xsb_of ⟨rfl, trivial⟩ (show [0, 1, 5, 6, 7].Nodup by decide)) ?_
    exact k164_281   hx5 h
  · rw [if_neg c112] at h
    refine xe_ldn (ins := .iload 7) (len := 2) (by decide +kernel) rfl rfl rfl rfl ?_
    refine xe_alr (ins := .aload_n 1) (len := 1) (i := 1) (by decide +kernel) rfl rfl rfl rfl rfl ?_
    obtain ⟨v113, e114, h⟩ := xbnd h
    refine xs_gi (i := 204) (c := 6) (k := 8) (by decide +kernel) (by decide) (by decide +kernel) e114 rfl ?_
    refine xe_icmpge (off := 44) (t := 281) (by decide +kernel) (by decide) rfl hx7 (xq_gi_in e114) (fun c115 => ?_) (fun c115 => ?_)
    · rw [if_pos c115] at h
      refine xW_lv rfl (l := [(5, xI (x5))]) (xsb_of ⟨rfl, trivial⟩ (show [0, 1, 5, 6, 7].Nodup by decide)) ?_
      exact k164_281   hx5 h
    · rw [if_neg c115] at h
      refine xe_alr (ins := .aload_n 1) (len := 1) (i := 1) (by decide +kernel) rfl rfl rfl rfl rfl ?_
      obtain ⟨v116, e117, h⟩ := xbnd h
      refine xs_gr (i := 211) (c := 6) (k := 9) (by decide +kernel) (by decide) (by decide +kernel) e117 rfl ?_
      refine xe_ldn (ins := .iload 7) (len := 2) (by decide +kernel) rfl rfl rfl rfl ?_
      obtain ⟨v118, e119, h⟩ := xbnd h
      refine xs_iald rfl (by decide +kernel) hx7 e119 rfl ?_
      refine xe_bipush (n := 15) (by decide +kernel) (by decide) rfl ?_
      refine xe_icmpne (off := 26) (t := 275) (by decide +kernel) (by decide) rfl (xq_ai_in e119) (show xin (15) by decide) (fun c120 => ?_) (fun c120 => ?_)
      · rw [if_pos c120] at h
        refine xW_lv rfl (l := [(0, xR_ (x0)), (1, xR_ (x1)), (5, xI (x5)), (6, xI (x6)), (7, xI (x7))]) (xsb_of ⟨rfl, rfl, rfl, rfl, rfl, trivial⟩ (show [0, 1, 5, 6, 7].Nodup by decide)) ?_
        exact k164_275  hr226 hx5 hx6 hx7 h
      · rw [if_neg c120] at h
        refine xe_alr (ins := .aload_n 0) (len := 1) (i := 0) (by decide +kernel) rfl rfl rfl rfl rfl ?_
        obtain ⟨v121, e122, h⟩ := xbnd h
        refine xs_gr (i := 52) (c := 10) (k := 17) (by decide +kernel) (by decide) (by decide +kernel) e122 rfl ?_
        refine xe_ldn (ins := .iload 6) (len := 2) (by decide +kernel) rfl rfl rfl rfl ?_
        refine xe_alr (ins := .aload_n 0) (len := 1) (i := 0) (by decide +kernel) rfl rfl rfl rfl rfl ?_
        obtain ⟨v123, e124, h⟩ := xbnd h
        refine xs_gr (i := 56) (c := 10) (k := 0) (by decide +kernel) (by decide) (by decide +kernel) e124 rfl ?_
        refine xe_ldn (ins := .iload 7) (len := 2) (by decide +kernel) rfl rfl rfl rfl ?_
        refine xe_alr (ins := .aload_n 0) (len := 1) (i := 0) (by decide +kernel) rfl rfl rfl rfl rfl ?_
        obtain ⟨v125, e126, h⟩ := xbnd h
        refine xs_gr (i := 49) (c := 10) (k := 12) (by decide +kernel) (by decide) (by decide +kernel) e126 rfl ?_
        obtain ⟨_, e128, h⟩ := xbnd h
        obtain ⟨R129, e127, h⟩ := xbnd h
        refine xs_cv (i := 347) (j := 143) (ar := [xR_ (v125), xI (x7)]) (rest := [xI (x6), xR_ (v121)]) (r2 := xr_143) (by decide +kernel) (by decide +kernel) (by decide +kernel) xr_143_e rfl (by decide) (by simp only [List.map_cons, List.map_nil, List.sum_cons, List.sum_nil, xR_cat, xI_cat, xZ_cat]; decide) e128 ?_
        refine xc_i (k143 (d := d + 1)  hx7 e127) rfl (fun hi130 => ?_)
        obtain ⟨M131, e132, h⟩ := xbnd h
        refine xs_iast (by decide +kernel) hx6 e132 rfl ?_
        refine xe_iincr (i := 6) (n := 1) (by decide +kernel) (by decide) rfl (xk_k (show ¬ (0 : Nat) = 6 by decide) (Or.inl (show ¬ (0 + 1 : Nat) = 6 by decide)) (xk_k (show ¬ (1 : Nat) = 6 by decide) (Or.inl (show ¬ (1 + 1 : Nat) = 6 by decide)) (xk_k (show ¬ (5 : Nat) = 6 by decide) (Or.inr (xI_cat _)) (xk_d rfl (xk_k (show ¬ (7 : Nat) = 6 by decide) (Or.inl (show ¬ (7 + 1 : Nat) = 6 by decide)) xk_n))))) rfl ?_
        refine xW_lv rfl (l := [(0, xR_ (x0)), (1, xR_ (x1)), (5, xI (x5)), (6, xI (xwr ((x6) + (1)))), (7, xI (x7))]) (xsb_of ⟨rfl, rfl, rfl, rfl, rfl, trivial⟩ (show [6, 0, 1, 5, 7].Nodup by decide)) ?_
        exact k164_275  hr226 hx5 (xin_wr _) hx7 h
def f164_226   (f : Nat) : Nat → Nat → Nat → Int → Int → Int → xj_M → Option (Int × xj_M)
  | 0, _, _, _, _, _, _ => none
  | n + 1, x0, x1, x5, x6, x7, M => f164_226b   (f164_226   f n) f x0 x1 x5 x6 x7 M
theorem k164_226 {d f : Nat}     : ∀ {n : Nat} {x0 : Nat} {x1 : Nat} {x5 : Int} {x6 : Int} {x7 : Int} {M : xj_M} {R : Int × xj_M}, xin x5 → xin x6 → xin x7 → f164_226   f n x0 x1 x5 x6 x7 M = some R → xW (d + 5) (none, d + 5, none) xr_164 (226, [(0, xR_ x0), (1, xR_ x1), (5, xI x5), (6, xI x6), (7, xI x7)], [], M) (xQi R) := by
  intro n
  induction n with
  | zero => intros; rename_i h; cases h
  | succ n ih => intros; rename_i h; exact k164_226b   ih (by assumption) (by assumption) (by assumption) h
def f164_220   (f : Nat) (x0 : Nat) (x1 : Nat) (x5 : Int) (M : xj_M) : Option (Int × xj_M) := f164_226   f f (x0) (x1) (x5) (0) (0) M
theorem k164_220 {d f : Nat}     {x0 : Nat} {x1 : Nat} {x5 : Int} {M : xj_M} {R : Int × xj_M} (hx5 : xin x5) (h : f164_220   f x0 x1 x5 M = some R) : xW (d + 5) (none, d + 5, none) xr_164 (220, [(0, xR_ x0), (1, xR_ x1), (5, xI x5)], [], M) (xQi R) := by
  unfold f164_220 at h
  refine xe_iconst (n := 0) (by decide +kernel) rfl ?_
  refine xe_isr (ins := .istore 6) (len := 2) (i := 6) (by decide +kernel) rfl rfl rfl (by decide) (xk_k (show ¬ (0 : Nat) = 6 by decide) (Or.inl (show ¬ (0 + 1 : Nat) = 6 by decide)) (xk_k (show ¬ (1 : Nat) = 6 by decide) (Or.inl (show ¬ (1 + 1 : Nat) = 6 by decide)) (xk_k (show ¬ (5 : Nat) = 6 by decide) (Or.inr (xI_cat _)) xk_n))) rfl ?_
  refine xe_iconst (n := 0) (by decide +kernel) rfl ?_
  refine xe_isr (ins := .istore 7) (len := 2) (i := 7) (by decide +kernel) rfl rfl rfl (by decide) (xk_k (show ¬ (6 : Nat) = 7 by decide) (Or.inr (xI_cat _)) (xk_k (show ¬ (0 : Nat) = 7 by decide) (Or.inl (show ¬ (0 + 1 : Nat) = 7 by decide)) (xk_k (show ¬ (1 : Nat) = 7 by decide) (Or.inl (show ¬ (1 + 1 : Nat) = 7 by decide)) (xk_k (show ¬ (5 : Nat) = 7 by decide) (Or.inl (show ¬ (5 + 1 : Nat) = 7 by decide)) xk_n)))) rfl ?_
  refine xW_lv rfl (l := [(0, xR_ (x0)), (1, xR_ (x1)), (5, xI (x5)), (6, xI (0)), (7, xI (0))]) (xsb_of ⟨rfl, rfl, rfl, rfl, rfl, trivial⟩ (show [7, 6, 0, 1, 5].Nodup by decide)) ?_
  exact k164_226   hx5 (show xin (0) by decide) (show xin (0) by decide) h
def f164_138b  (r138 : Nat → Nat → Int → Int → xj_M → Option (Int × xj_M)) (f : Nat) (x0 : Nat) (x1 : Nat) (x5 : Int) (x6 : Int) (M : xj_M) : Option (Int × xj_M) := (if (10000000) ≤ (x6) then f164_220   f (x0) (x1) (x5) M else ((xq_gr 10 0 (x0) M).bind fun v134 => ((xq_is 9 (v134) M).bind fun _ => ((f132  f (v134) M).bind fun R138 => (if (R138.1) = 0 then f164_220   f (x0) (x1) (x5) R138.2 else ((xq_gr 10 0 (x0) R138.2).bind fun v141 => ((xq_gr 10 9 (x0) R138.2).bind fun v143 => ((xq_is 9 (v141) R138.2).bind fun _ => ((f142  f (v141) (v143) R138.2).bind fun R147 => (if (R147.1) = 0 then f164_214  r138 f (x0) (x1) (x5) (x6) R147.2 else ((xq_is 10 (x0) R147.2).bind fun _ => ((f165  f (x0) (x1) R147.2).bind fun R152 => (if (R152.1) = 0 then f164_214  r138 f (x0) (x1) (x5) (x6) R152.2 else (if (x5) = 0 then f164_193  r138 f (x0) (x1) (x6) R152.2 else ((xq_gi 6 6 (x1) R152.2).bind fun v156 => ((xq_is 10 (x0) R152.2).bind fun _ => ((f166  f (x0) (v156) R152.2).bind fun R160 => (if (R160.1) = 0 then f164_214  r138 f (x0) (x1) (x5) (x6) R160.2 else f164_193  r138 f (x0) (x1) (x6) R160.2))))))))))))))))))
theorem k164_138b {d f : Nat}  {r138 : Nat → Nat → Int → Int → xj_M → Option (Int × xj_M)}  (hr138 : ∀ {x0 : Nat} {x1 : Nat} {x5 : Int} {x6 : Int} {M : xj_M} {R : Int × xj_M}, xin x5 → xin x6 → r138 x0 x1 x5 x6 M = some R → xW (d + 5) (none, d + 5, none) xr_164 (138, [(0, xR_ x0), (1, xR_ x1), (5, xI x5), (6, xI x6)], [], M) (xQi R)) {x0 : Nat} {x1 : Nat} {x5 : Int} {x6 : Int} {M : xj_M} {R : Int × xj_M} (hx5 : xin x5) (hx6 : xin x6) (h : f164_138b  r138 f x0 x1 x5 x6 M = some R) : xW (d + 5) (none, d + 5, none) xr_164 (138, [(0, xR_ x0), (1, xR_ x1), (5, xI x5), (6, xI x6)], [], M) (xQi R) := by
  unfold f164_138b at h
  refine xe_ldn (ins := .iload 6) (len := 2) (by decide +kernel) rfl rfl rfl rfl ?_
  refine xe_ldci (ins := .ldc 232) (len := 2) (n := 10000000) (by decide +kernel) rfl rfl rfl rfl rfl rfl ?_
  refine xe_icmpge (off := 78) (t := 220) (by decide +kernel) (by decide) rfl hx6 (show xin (10000000) by decide) (fun c133 => ?_) (fun c133 => ?_)
  · rw [if_pos c133] at h
    refine xW_lv rfl (l := [(0, xR_ (x0)), (1, xR_ (x1)), (5, xI (x5))]) (xsb_of ⟨rfl, rfl, rfl, trivial⟩ (show [0, 1, 5, 6].Nodup by decide)) ?_
    exact k164_220   hx5 h
  · rw [if_neg c133] at h
    refine xe_alr (ins := .aload_n 0) (len := 1) (i := 0) (by decide +kernel) rfl rfl rfl rfl rfl ?_
    obtain ⟨v134, e135, h⟩ := xbnd h
    refine xs_gr (i := 56) (c := 10) (k := 0) (by decide +kernel) (by decide) (by decide +kernel) e135 rfl ?_
    obtain ⟨_, e137, h⟩ := xbnd h
    obtain ⟨R138, e136, h⟩ := xbnd h
    refine xs_cv (i := 233) (j := 132) (ar := []) (rest := []) (r2 := xr_132) (by decide +kernel) (by decide +kernel) (by decide +kernel) xr_132_e rfl (by decide) (by decide) e137 ?_
    refine xc_i (k132 (d := d + 0)   e136) rfl (fun hi139 => ?_)
    refine xe_ifeq (off := 68) (t := 220) (by decide +kernel) (by decide) rfl hi139 (fun c140 => ?_) (fun c140 => ?_)
    · rw [if_pos c140] at h
      refine xW_lv rfl (l := [(0, xR_ (x0)), (1, xR_ (x1)), (5, xI (x5))]) (xsb_of ⟨rfl, rfl, rfl, trivial⟩ (show [0, 1, 5, 6].Nodup by decide)) ?_
      exact k164_220   hx5 h
    · rw [if_neg c140] at h
      refine xe_alr (ins := .aload_n 0) (len := 1) (i := 0) (by decide +kernel) rfl rfl rfl rfl rfl ?_
      obtain ⟨v141, e142, h⟩ := xbnd h
      refine xs_gr (i := 56) (c := 10) (k := 0) (by decide +kernel) (by decide) (by decide +kernel) e142 rfl ?_
      refine xe_alr (ins := .aload_n 0) (len := 1) (i := 0) (by decide +kernel) rfl rfl rfl rfl rfl ?_
      obtain ⟨v143, e144, h⟩ := xbnd h
      refine xs_gr (i := 40) (c := 10) (k := 9) (by decide +kernel) (by decide) (by decide +kernel) e144 rfl ?_
      obtain ⟨_, e146, h⟩ := xbnd h
      obtain ⟨R147, e145, h⟩ := xbnd h
      refine xs_cv (i := 237) (j := 142) (ar := [xR_ (v143)]) (rest := []) (r2 := xr_142) (by decide +kernel) (by decide +kernel) (by decide +kernel) xr_142_e rfl (by decide) (by decide) e146 ?_
      refine xc_i (k142 (d := d + 2)   e145) rfl (fun hi148 => ?_)
      refine xe_ifeq (off := 48) (t := 214) (by decide +kernel) (by decide) rfl hi148 (fun c149 => ?_) (fun c149 => ?_)
      · rw [if_pos c149] at h
        refine xW_lv rfl (l := [(0, xR_ (x0)), (1, xR_ (x1)), (5, xI (x5)), (6, xI (x6))]) (xsb_of ⟨rfl, rfl, rfl, rfl, trivial⟩ (show [0, 1, 5, 6].Nodup by decide)) ?_
        exact k164_214  hr138 hx5 hx6 h
      · rw [if_neg c149] at h
        refine xe_alr (ins := .aload_n 0) (len := 1) (i := 0) (by decide +kernel) rfl rfl rfl rfl rfl ?_
        refine xe_alr (ins := .aload_n 1) (len := 1) (i := 1) (by decide +kernel) rfl rfl rfl rfl rfl ?_
        obtain ⟨_, e151, h⟩ := xbnd h
        obtain ⟨R152, e150, h⟩ := xbnd h
        refine xs_cv (i := 338) (j := 165) (ar := [xR_ (x1)]) (rest := []) (r2 := xr_165) (by decide +kernel) (by decide +kernel) (by decide +kernel) xr_165_e rfl (by decide) (by decide) e151 ?_
        refine xc_i (k165 (d := d + 4)   e150) rfl (fun hi153 => ?_)
        refine xe_ifeq (off := 40) (t := 214) (by decide +kernel) (by decide) rfl hi153 (fun c154 => ?_) (fun c154 => ?_)
        · rw [if_pos c154] at h
          refine xW_lv rfl (l := [(0, xR_ (x0)), (1, xR_ (x1)), (5, xI (x5)), (6, xI (x6))]) (xsb_of ⟨rfl, rfl, rfl, rfl, trivial⟩ (show [0, 1, 5, 6].Nodup by decide)) ?_
          exact k164_214  hr138 hx5 hx6 h
        · rw [if_neg c154] at h
          refine xe_ldn (ins := .iload 5) (len := 2) (by decide +kernel) rfl rfl rfl rfl ?_
          refine xe_ifeq (off := 14) (t := 193) (by decide +kernel) (by decide) rfl hx5 (fun c155 => ?_) (fun c155 => ?_)
          · rw [if_pos c155] at h
            refine xW_lv rfl (l := [(0, xR_ (x0)), (1, xR_ (x1)), (6, xI (x6))]) (xsb_of ⟨rfl, rfl, rfl, trivial⟩ (show [0, 1, 5, 6].Nodup by decide)) ?_
            exact k164_193  hr138 hx6 h
          · rw [if_neg c155] at h
            refine xe_alr (ins := .aload_n 0) (len := 1) (i := 0) (by decide +kernel) rfl rfl rfl rfl rfl ?_
            refine xe_alr (ins := .aload_n 1) (len := 1) (i := 1) (by decide +kernel) rfl rfl rfl rfl rfl ?_
            obtain ⟨v156, e157, h⟩ := xbnd h
            refine xs_gi (i := 341) (c := 6) (k := 6) (by decide +kernel) (by decide) (by decide +kernel) e157 rfl ?_
            obtain ⟨_, e159, h⟩ := xbnd h
            obtain ⟨R160, e158, h⟩ := xbnd h
            refine xs_cv (i := 344) (j := 166) (ar := [xI (v156)]) (rest := []) (r2 := xr_166) (by decide +kernel) (by decide +kernel) (by decide +kernel) xr_166_e rfl (by decide) (by decide) e159 ?_
            refine xc_i (k166 (d := d + 4)  (xq_gi_in e157) e158) rfl (fun hi161 => ?_)
            refine xe_ifeq (off := 24) (t := 214) (by decide +kernel) (by decide) rfl hi161 (fun c162 => ?_) (fun c162 => ?_)
            · rw [if_pos c162] at h
              refine xW_lv rfl (l := [(0, xR_ (x0)), (1, xR_ (x1)), (5, xI (x5)), (6, xI (x6))]) (xsb_of ⟨rfl, rfl, rfl, rfl, trivial⟩ (show [0, 1, 5, 6].Nodup by decide)) ?_
              exact k164_214  hr138 hx5 hx6 h
            · rw [if_neg c162] at h
              refine xW_lv rfl (l := [(0, xR_ (x0)), (1, xR_ (x1)), (6, xI (x6))]) (xsb_of ⟨rfl, rfl, rfl, trivial⟩ (show [0, 1, 5, 6].Nodup by decide)) ?_
              exact k164_193  hr138 hx6 h
def f164_138   (f : Nat) : Nat → Nat → Nat → Int → Int → xj_M → Option (Int × xj_M)
  | 0, _, _, _, _, _ => none
  | n + 1, x0, x1, x5, x6, M => f164_138b   (f164_138   f n) f x0 x1 x5 x6 M
theorem k164_138 {d f : Nat}     : ∀ {n : Nat} {x0 : Nat} {x1 : Nat} {x5 : Int} {x6 : Int} {M : xj_M} {R : Int × xj_M}, xin x5 → xin x6 → f164_138   f n x0 x1 x5 x6 M = some R → xW (d + 5) (none, d + 5, none) xr_164 (138, [(0, xR_ x0), (1, xR_ x1), (5, xI x5), (6, xI x6)], [], M) (xQi R) := by
  intro n
  induction n with
  | zero => intros; rename_i h; cases h
  | succ n ih => intros; rename_i h; exact k164_138b   ih (by assumption) (by assumption) h
def f164_82b  (r82 : Nat → Nat → Int → xj_M → Option (Int × xj_M)) (f : Nat) (x0 : Nat) (x1 : Nat) (x5 : Int) (M : xj_M) : Option (Int × xj_M) := ((xq_gi 6 2 (x1) M).bind fun v163 => (if (v163) ≤ (x5) then f164_138   f f (x0) (x1) (0) (0) M else ((xq_is 6 (x1) M).bind fun _ => ((f91  f (x1) (x5) M).bind fun R168 => (if (R168.1) = (-1) then f164_126  r82 f (x0) (x1) (x5) R168.2 else ((xq_gr 10 0 (x0) R168.2).bind fun v171 => ((xq_gr 10 11 (x0) R168.2).bind fun v173 => ((xq_al (v173) (x5) R168.2).bind fun v175 => ((xq_is 9 (v171) R168.2).bind fun _ => ((f131  f (v171) (R168.1) (v175) R168.2).bind fun R179 => (if ¬ (R179.1) = 0 then f164_126  r82 f (x0) (x1) (x5) R179.2 else (some (0, R179.2)))))))))))))
theorem k164_82b {d f : Nat}  {r82 : Nat → Nat → Int → xj_M → Option (Int × xj_M)}  (hr82 : ∀ {x0 : Nat} {x1 : Nat} {x5 : Int} {M : xj_M} {R : Int × xj_M}, xin x5 → r82 x0 x1 x5 M = some R → xW (d + 5) (none, d + 5, none) xr_164 (82, [(0, xR_ x0), (1, xR_ x1), (5, xI x5)], [], M) (xQi R)) {x0 : Nat} {x1 : Nat} {x5 : Int} {M : xj_M} {R : Int × xj_M} (hx5 : xin x5) (h : f164_82b  r82 f x0 x1 x5 M = some R) : xW (d + 5) (none, d + 5, none) xr_164 (82, [(0, xR_ x0), (1, xR_ x1), (5, xI x5)], [], M) (xQi R) := by
  unfold f164_82b at h
  refine xe_ldn (ins := .iload 5) (len := 2) (by decide +kernel) rfl rfl rfl rfl ?_
  refine xe_alr (ins := .aload_n 1) (len := 1) (i := 1) (by decide +kernel) rfl rfl rfl rfl rfl ?_
  obtain ⟨v163, e164, h⟩ := xbnd h
  refine xs_gi (i := 245) (c := 6) (k := 2) (by decide +kernel) (by decide) (by decide +kernel) e164 rfl ?_
  refine xe_icmpge (off := 44) (t := 132) (by decide +kernel) (by decide) rfl hx5 (xq_gi_in e164) (fun c165 => ?_) (fun c165 => ?_)
  · rw [if_pos c165] at h
    refine xe_iconst (n := 0) (by decide +kernel) rfl ?_
    refine xe_isr (ins := .istore 5) (len := 2) (i := 5) (by decide +kernel) rfl rfl rfl (by decide) (xk_k (show ¬ (0 : Nat) = 5 by decide) (Or.inl (show ¬ (0 + 1 : Nat) = 5 by decide)) (xk_k (show ¬ (1 : Nat) = 5 by decide) (Or.inl (show ¬ (1 + 1 : Nat) = 5 by decide)) (xk_d rfl xk_n))) rfl ?_
    refine xe_iconst (n := 0) (by decide +kernel) rfl ?_
    refine xe_isr (ins := .istore 6) (len := 2) (i := 6) (by decide +kernel) rfl rfl rfl (by decide) (xk_k (show ¬ (5 : Nat) = 6 by decide) (Or.inr (xI_cat _)) (xk_k (show ¬ (0 : Nat) = 6 by decide) (Or.inl (show ¬ (0 + 1 : Nat) = 6 by decide)) (xk_k (show ¬ (1 : Nat) = 6 by decide) (Or.inl (show ¬ (1 + 1 : Nat) = 6 by decide)) xk_n))) rfl ?_
    refine xW_lv rfl (l := [(0, xR_ (x0)), (1, xR_ (x1)), (5, xI (0)), (6, xI (0))]) (xsb_of ⟨rfl, rfl, rfl, rfl, trivial⟩ (show [6, 5, 0, 1].Nodup by decide)) ?_
    exact k164_138   (show xin (0) by decide) (show xin (0) by decide) h
  · rw [if_neg c165] at h
    refine xe_alr (ins := .aload_n 1) (len := 1) (i := 1) (by decide +kernel) rfl rfl rfl rfl rfl ?_
    refine xe_ldn (ins := .iload 5) (len := 2) (by decide +kernel) rfl rfl rfl rfl ?_
    obtain ⟨_, e167, h⟩ := xbnd h
    obtain ⟨R168, e166, h⟩ := xbnd h
    refine xs_cv (i := 331) (j := 91) (ar := [xI (x5)]) (rest := []) (r2 := xr_91) (by decide +kernel) (by decide +kernel) (by decide +kernel) xr_91_e rfl (by decide) (by decide) e167 ?_
    refine xc_i (k91 (d := d + 4)  hx5 e166) rfl (fun hi169 => ?_)
    refine xe_isr (ins := .istore 6) (len := 2) (i := 6) (by decide +kernel) rfl rfl rfl (by decide) (xk_k (show ¬ (0 : Nat) = 6 by decide) (Or.inl (show ¬ (0 + 1 : Nat) = 6 by decide)) (xk_k (show ¬ (1 : Nat) = 6 by decide) (Or.inl (show ¬ (1 + 1 : Nat) = 6 by decide)) (xk_k (show ¬ (5 : Nat) = 6 by decide) (Or.inr (xI_cat _)) xk_n))) rfl ?_
    refine xe_ldn (ins := .iload 6) (len := 2) (by decide +kernel) rfl rfl rfl rfl ?_
    refine xe_iconst (n := -1) (by decide +kernel) rfl ?_
    refine xe_icmpeq (off := 24) (t := 126) (by decide +kernel) (by decide) rfl hi169 (show xin (-1) by decide) (fun c170 => ?_) (fun c170 => ?_)
    · rw [if_pos c170] at h
      refine xW_lv rfl (l := [(0, xR_ (x0)), (1, xR_ (x1)), (5, xI (x5))]) (xsb_of ⟨rfl, rfl, rfl, trivial⟩ (show [6, 0, 1, 5].Nodup by decide)) ?_
      exact k164_126  hr82 hx5 h
    · rw [if_neg c170] at h
      refine xe_alr (ins := .aload_n 0) (len := 1) (i := 0) (by decide +kernel) rfl rfl rfl rfl rfl ?_
      obtain ⟨v171, e172, h⟩ := xbnd h
      refine xs_gr (i := 56) (c := 10) (k := 0) (by decide +kernel) (by decide) (by decide +kernel) e172 rfl ?_
      refine xe_ldn (ins := .iload 6) (len := 2) (by decide +kernel) rfl rfl rfl rfl ?_
      refine xe_alr (ins := .aload_n 0) (len := 1) (i := 0) (by decide +kernel) rfl rfl rfl rfl rfl ?_
      obtain ⟨v173, e174, h⟩ := xbnd h
      refine xs_gr (i := 46) (c := 10) (k := 11) (by decide +kernel) (by decide) (by decide +kernel) e174 rfl ?_
      refine xe_ldn (ins := .iload 5) (len := 2) (by decide +kernel) rfl rfl rfl rfl ?_
      obtain ⟨v175, e176, h⟩ := xbnd h
      refine xs_lald (by decide +kernel) hx5 e176 rfl ?_
      obtain ⟨_, e178, h⟩ := xbnd h
      obtain ⟨R179, e177, h⟩ := xbnd h
      refine xs_cv (i := 334) (j := 131) (ar := [xZ (v175), xI (R168.1)]) (rest := []) (r2 := xr_131) (by decide +kernel) (by decide +kernel) (by decide +kernel) xr_131_e rfl (by decide) (by decide) e178 ?_
      refine xc_i (k131 (d := d + 4)  hi169 (xq_al_in e176) e177) rfl (fun hi180 => ?_)
      refine xe_ifne (off := 5) (t := 126) (by decide +kernel) (by decide) rfl hi180 (fun c181 => ?_) (fun c181 => ?_)
      · rw [if_pos c181] at h
        refine xW_lv rfl (l := [(0, xR_ (x0)), (1, xR_ (x1)), (5, xI (x5))]) (xsb_of ⟨rfl, rfl, rfl, trivial⟩ (show [6, 0, 1, 5].Nodup by decide)) ?_
        exact k164_126  hr82 hx5 h
      · rw [if_neg c181] at h
        refine xe_iconst (n := 0) (by decide +kernel) rfl ?_
        cases h
        exact xe_ret_i (ty := .boolean) (by decide +kernel) rfl (by decide) ⟨rfl, rfl, (show xin (0) by decide)⟩
def f164_82   (f : Nat) : Nat → Nat → Nat → Int → xj_M → Option (Int × xj_M)
  | 0, _, _, _, _ => none
  | n + 1, x0, x1, x5, M => f164_82b   (f164_82   f n) f x0 x1 x5 M
theorem k164_82 {d f : Nat}     : ∀ {n : Nat} {x0 : Nat} {x1 : Nat} {x5 : Int} {M : xj_M} {R : Int × xj_M}, xin x5 → f164_82   f n x0 x1 x5 M = some R → xW (d + 5) (none, d + 5, none) xr_164 (82, [(0, xR_ x0), (1, xR_ x1), (5, xI x5)], [], M) (xQi R) := by
  intro n
  induction n with
  | zero => intros; rename_i h; cases h
  | succ n ih => intros; rename_i h; exact k164_82b   ih (by assumption) h
def f164_34b  (r34 : Nat → Nat → Int → Int → Int → xj_M → Option (Int × xj_M)) (f : Nat) (x0 : Nat) (x1 : Nat) (x3 : Int) (x4 : Int) (x5 : Int) (M : xj_M) : Option (Int × xj_M) := ((xq_gi 6 8 (x1) M).bind fun v182 => (if (v182) ≤ (x5) then f164_82   f f (x0) (x1) (0) M else ((xq_gr 10 0 (x0) M).bind fun v185 => ((xq_gr 9 2 (v185) M).bind fun v187 => ((f152  f (x1) (x5) (x4) M).bind fun R190 => (if (R190.1) = 0 then f164_72  r34 f (x0) (x1) (x3) (x4) (x5) (1700) (x5) (v187) R190.2 else f164_72  r34 f (x0) (x1) (x3) (x4) (x5) (xwr ((x3) - (1))) (x5) (v187) R190.2))))))
theorem k164_34b {d f : Nat}  {r34 : Nat → Nat → Int → Int → Int → xj_M → Option (Int × xj_M)}  (hr34 : ∀ {x0 : Nat} {x1 : Nat} {x3 : Int} {x4 : Int} {x5 : Int} {M : xj_M} {R : Int × xj_M}, xin x3 → xin x4 → xin x5 → r34 x0 x1 x3 x4 x5 M = some R → xW (d + 5) (none, d + 5, none) xr_164 (34, [(0, xR_ x0), (1, xR_ x1), (3, xI x3), (4, xI x4), (5, xI x5)], [], M) (xQi R)) {x0 : Nat} {x1 : Nat} {x3 : Int} {x4 : Int} {x5 : Int} {M : xj_M} {R : Int × xj_M} (hx3 : xin x3) (hx4 : xin x4) (hx5 : xin x5) (h : f164_34b  r34 f x0 x1 x3 x4 x5 M = some R) : xW (d + 5) (none, d + 5, none) xr_164 (34, [(0, xR_ x0), (1, xR_ x1), (3, xI x3), (4, xI x4), (5, xI x5)], [], M) (xQi R) := by
  unfold f164_34b at h
  refine xe_ldn (ins := .iload 5) (len := 2) (by decide +kernel) rfl rfl rfl rfl ?_
  refine xe_alr (ins := .aload_n 1) (len := 1) (i := 1) (by decide +kernel) rfl rfl rfl rfl rfl ?_
  obtain ⟨v182, e183, h⟩ := xbnd h
  refine xs_gi (i := 204) (c := 6) (k := 8) (by decide +kernel) (by decide) (by decide +kernel) e183 rfl ?_
  refine xe_icmpge (off := 39) (t := 79) (by decide +kernel) (by decide) rfl hx5 (xq_gi_in e183) (fun c184 => ?_) (fun c184 => ?_)
  · rw [if_pos c184] at h
    refine xe_iconst (n := 0) (by decide +kernel) rfl ?_
    refine xe_isr (ins := .istore 5) (len := 2) (i := 5) (by decide +kernel) rfl rfl rfl (by decide) (xk_k (show ¬ (0 : Nat) = 5 by decide) (Or.inl (show ¬ (0 + 1 : Nat) = 5 by decide)) (xk_k (show ¬ (1 : Nat) = 5 by decide) (Or.inl (show ¬ (1 + 1 : Nat) = 5 by decide)) (xk_k (show ¬ (3 : Nat) = 5 by decide) (Or.inl (show ¬ (3 + 1 : Nat) = 5 by decide)) (xk_k (show ¬ (4 : Nat) = 5 by decide) (Or.inr (xI_cat _)) (xk_d rfl xk_n))))) rfl ?_
    refine xW_lv rfl (l := [(0, xR_ (x0)), (1, xR_ (x1)), (5, xI (0))]) (xsb_of ⟨rfl, rfl, rfl, trivial⟩ (show [5, 0, 1, 3, 4].Nodup by decide)) ?_
    exact k164_82   (show xin (0) by decide) h
  · rw [if_neg c184] at h
    refine xe_alr (ins := .aload_n 0) (len := 1) (i := 0) (by decide +kernel) rfl rfl rfl rfl rfl ?_
    obtain ⟨v185, e186, h⟩ := xbnd h
    refine xs_gr (i := 56) (c := 10) (k := 0) (by decide +kernel) (by decide) (by decide +kernel) e186 rfl ?_
    obtain ⟨v187, e188, h⟩ := xbnd h
    refine xs_gr (i := 225) (c := 9) (k := 2) (by decide +kernel) (by decide) (by decide +kernel) e188 rfl ?_
    refine xe_ldn (ins := .iload 5) (len := 2) (by decide +kernel) rfl rfl rfl rfl ?_
    refine xe_alr (ins := .aload_n 1) (len := 1) (i := 1) (by decide +kernel) rfl rfl rfl rfl rfl ?_
    refine xe_ldn (ins := .iload 5) (len := 2) (by decide +kernel) rfl rfl rfl rfl ?_
    refine xe_ldn (ins := .iload 4) (len := 2) (by decide +kernel) rfl rfl rfl rfl ?_
    obtain ⟨R190, e189, h⟩ := xbnd h
    refine xs_cs (kd := 2) (by decide) (i := 207) (j := 152) (ar := [xI (x4), xI (x5), xR_ (x1)]) (rest := [xI (x5), xR_ (v187)]) (r2 := xr_152) (by decide +kernel) (by decide +kernel) (by decide +kernel) xr_152_e rfl (by simp only [List.map_cons, List.map_nil, List.sum_cons, List.sum_nil, xR_cat, xI_cat, xZ_cat]; decide) ?_
    refine xc_i (k152 (d := d + 4)  hx5 hx4 e189) rfl (fun hi191 => ?_)
    refine xe_ifeq (off := 9) (t := 69) (by decide +kernel) (by decide) rfl hi191 (fun c192 => ?_) (fun c192 => ?_)
    · rw [if_pos c192] at h
      refine xe_sipush (n := 1700) (by decide +kernel) (by decide) rfl ?_
      refine xW_lv rfl (l := [(0, xR_ (x0)), (1, xR_ (x1)), (3, xI (x3)), (4, xI (x4)), (5, xI (x5))]) (xsb_of ⟨rfl, rfl, rfl, rfl, rfl, trivial⟩ (show [0, 1, 3, 4, 5].Nodup by decide)) ?_
      exact k164_72  hr34 hx3 hx4 hx5 (show xin (1700) by decide) hx5 h
    · rw [if_neg c192] at h
      refine xe_ldn (ins := .iload_n 3) (len := 1) (by decide +kernel) rfl rfl rfl rfl ?_
      refine xe_iconst (n := 1) (by decide +kernel) rfl ?_
      refine xe_isub (by decide +kernel) rfl ?_
      refine xe_goto (off := 6) (nx := 72) (by decide +kernel) (by decide) ?_
      refine xW_lv rfl (l := [(0, xR_ (x0)), (1, xR_ (x1)), (3, xI (x3)), (4, xI (x4)), (5, xI (x5))]) (xsb_of ⟨rfl, rfl, rfl, rfl, rfl, trivial⟩ (show [0, 1, 3, 4, 5].Nodup by decide)) ?_
      exact k164_72  hr34 hx3 hx4 hx5 (xin_wr _) hx5 h
def f164_34   (f : Nat) : Nat → Nat → Nat → Int → Int → Int → xj_M → Option (Int × xj_M)
  | 0, _, _, _, _, _, _ => none
  | n + 1, x0, x1, x3, x4, x5, M => f164_34b   (f164_34   f n) f x0 x1 x3 x4 x5 M
theorem k164_34 {d f : Nat}     : ∀ {n : Nat} {x0 : Nat} {x1 : Nat} {x3 : Int} {x4 : Int} {x5 : Int} {M : xj_M} {R : Int × xj_M}, xin x3 → xin x4 → xin x5 → f164_34   f n x0 x1 x3 x4 x5 M = some R → xW (d + 5) (none, d + 5, none) xr_164 (34, [(0, xR_ x0), (1, xR_ x1), (3, xI x3), (4, xI x4), (5, xI x5)], [], M) (xQi R) := by
  intro n
  induction n with
  | zero => intros; rename_i h; cases h
  | succ n ih => intros; rename_i h; exact k164_34b   ih (by assumption) (by assumption) (by assumption) h
def f164  (f : Nat) (a0 : Nat) (a1 : Nat) (a2 : Nat) (a3 : Int) (M : xj_M) : Option (Int × xj_M) := ((xq_gr 10 1 (a0) M).bind fun v193 => ((xq_gr 10 1 (a0) M).bind fun v195 => ((xq_gr 3 10 (v195) M).bind fun v197 => ((xq_gi 6 0 (a1) M).bind fun v199 => ((xq_ai 3 (v197) (v199) M).bind fun v201 => ((xq_is 3 (v193) M).bind fun _ => ((f26  f (v193) (v201) M).bind fun R205 => ((xq_gr 10 0 (a0) R205.2).bind fun v207 => ((xq_is 9 (v207) R205.2).bind fun _ => ((f130  f (v207) (a1) (a2) (0) R205.2).bind fun M211 => f164_34   f f (a0) (a1) (a3) (R205.1) (0) M211))))))))))
theorem k164 {d f : Nat}   {a0 : Nat} {a1 : Nat} {a2 : Nat} {a3 : Int} {M : xj_M} {R : Int × xj_M} (ha3 : xin a3) (h : f164  f a0 a1 a2 a3 M = some R) : xT (d + 6) 164 [xR_ a0, xR_ a1, xR_ a2, xI a3] M (xQi R) := by
  refine xT_m xr_164_e (X := (none, d + 5, none)) rfl (xa_1 (xR_cat _) (xa_1 (xR_cat _) (xa_1 (xR_cat _) (xa_1 (xI_cat _) xa_n)))) (by decide) ?_
  unfold f164 at h
  refine xe_alr (ins := .aload_n 0) (len := 1) (i := 0) (by decide +kernel) rfl rfl rfl rfl rfl ?_
  obtain ⟨v193, e194, h⟩ := xbnd h
  refine xs_gr (i := 60) (c := 10) (k := 1) (by decide +kernel) (by decide) (by decide +kernel) e194 rfl ?_
  refine xe_alr (ins := .aload_n 0) (len := 1) (i := 0) (by decide +kernel) rfl rfl rfl rfl rfl ?_
  obtain ⟨v195, e196, h⟩ := xbnd h
  refine xs_gr (i := 60) (c := 10) (k := 1) (by decide +kernel) (by decide) (by decide +kernel) e196 rfl ?_
  obtain ⟨v197, e198, h⟩ := xbnd h
  refine xs_gr (i := 173) (c := 3) (k := 10) (by decide +kernel) (by decide) (by decide +kernel) e198 rfl ?_
  refine xe_alr (ins := .aload_n 1) (len := 1) (i := 1) (by decide +kernel) rfl rfl rfl rfl rfl ?_
  obtain ⟨v199, e200, h⟩ := xbnd h
  refine xs_gi (i := 176) (c := 6) (k := 0) (by decide +kernel) (by decide) (by decide +kernel) e200 rfl ?_
  obtain ⟨v201, e202, h⟩ := xbnd h
  refine xs_iald rfl (by decide +kernel) (xq_gi_in e200) e202 rfl ?_
  obtain ⟨_, e204, h⟩ := xbnd h
  obtain ⟨R205, e203, h⟩ := xbnd h
  refine xs_cv (i := 157) (j := 26) (ar := [xI (v201)]) (rest := []) (r2 := xr_26) (by decide +kernel) (by decide +kernel) (by decide +kernel) xr_26_e rfl (by decide) (by decide) e204 ?_
  refine xc_i (k26 (d := d + 4)  (xq_ai_in e202) e203) rfl (fun hi206 => ?_)
  refine xe_isr (ins := .istore 4) (len := 2) (i := 4) (by decide +kernel) rfl rfl rfl (by decide) (xk_k (show ¬ (0 : Nat) = 4 by decide) (Or.inl (show ¬ (0 + 1 : Nat) = 4 by decide)) (xk_k (show ¬ (1 : Nat) = 4 by decide) (Or.inl (show ¬ (1 + 1 : Nat) = 4 by decide)) (xk_k (show ¬ (2 : Nat) = 4 by decide) (Or.inl (show ¬ (2 + 1 : Nat) = 4 by decide)) (xk_k (show ¬ (3 : Nat) = 4 by decide) (Or.inr (xI_cat _)) xk_n)))) rfl ?_
  refine xe_alr (ins := .aload_n 0) (len := 1) (i := 0) (by decide +kernel) rfl rfl rfl rfl rfl ?_
  obtain ⟨v207, e208, h⟩ := xbnd h
  refine xs_gr (i := 56) (c := 10) (k := 0) (by decide +kernel) (by decide) (by decide +kernel) e208 rfl ?_
  refine xe_alr (ins := .aload_n 1) (len := 1) (i := 1) (by decide +kernel) rfl rfl rfl rfl rfl ?_
  refine xe_alr (ins := .aload_n 2) (len := 1) (i := 2) (by decide +kernel) rfl rfl rfl rfl rfl ?_
  refine xe_iconst (n := 0) (by decide +kernel) rfl ?_
  obtain ⟨_, e210, h⟩ := xbnd h
  obtain ⟨M211, e209, h⟩ := xbnd h
  refine xs_cv (i := 216) (j := 130) (ar := [xI (0), xR_ (a2), xR_ (a1)]) (rest := []) (r2 := xr_130) (by decide +kernel) (by decide +kernel) (by decide +kernel) xr_130_e rfl (by decide) (by decide) e210 ?_
  refine xc_v (k130 (d := d + 3)  (show xin (0) by decide) e209) rfl ?_
  refine xe_iconst (n := 0) (by decide +kernel) rfl ?_
  refine xe_isr (ins := .istore 5) (len := 2) (i := 5) (by decide +kernel) rfl rfl rfl (by decide) (xk_k (show ¬ (4 : Nat) = 5 by decide) (Or.inr (xI_cat _)) (xk_k (show ¬ (0 : Nat) = 5 by decide) (Or.inl (show ¬ (0 + 1 : Nat) = 5 by decide)) (xk_k (show ¬ (1 : Nat) = 5 by decide) (Or.inl (show ¬ (1 + 1 : Nat) = 5 by decide)) (xk_k (show ¬ (2 : Nat) = 5 by decide) (Or.inl (show ¬ (2 + 1 : Nat) = 5 by decide)) (xk_k (show ¬ (3 : Nat) = 5 by decide) (Or.inl (show ¬ (3 + 1 : Nat) = 5 by decide)) xk_n))))) rfl ?_
  refine xW_lv rfl (l := [(0, xR_ (a0)), (1, xR_ (a1)), (3, xI (a3)), (4, xI (R205.1)), (5, xI (0))]) (xsb_of ⟨rfl, rfl, rfl, rfl, rfl, trivial⟩ (show [5, 4, 0, 1, 2, 3].Nodup by decide)) ?_
  exact k164_34   ha3 hi206 (show xin (0) by decide) h
