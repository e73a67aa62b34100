/-! Mirrors (written by mk_mir.py) -/
-- ChangeHouse$Ways.findRange
def xr_134 : xj_mR := (9, yX9_findRange, cX9_findRange, 6, (Option.none : Option Jvm.ClassFile.FieldType), 1, false, (6, 180), (1, 4))
set_option maxRecDepth 20000 in
theorem xr_134_e : xj_row 134 = some xr_134 := rfl
def f134_129   (f : Nat) (x0 : Nat) (x1 : Int) (x2 : Int) (M : xj_M) : Option (xj_M) := ((xq_gr 9 4 (x0) M).bind fun v101 => ((xq_gr 9 3 (x0) M).bind fun v103 => ((xq_gr 6 10 (v103) M).bind fun v105 => ((xq_ai 3 (v105) (x1) M).bind fun v107 => ((xq_ar (v101) (v107) M).bind fun v109 => ((xq_gr 9 9 (x0) M).bind fun v111 => ((xq_gi 9 6 (x0) M).bind fun v113 => ((xq_gr 9 12 (x0) M).bind fun v115 => ((xq_is 5 (v109) M).bind fun _ => ((f73  f (v109) (v115) (x2) (0) M).bind fun R119 => ((xq_si (v111) (v113) (R119.1) R119.2).bind fun M121 => ((xq_gr 9 11 (x0) M121).bind fun v123 => ((xq_gi 9 6 (x0) M121).bind fun v125 => ((xq_gr 9 12 (x0) M121).bind fun v127 => ((xq_is 5 (v109) M121).bind fun _ => ((f73  f (v109) (v127) (x2) (1) M121).bind fun R131 => ((xq_si (v123) (v125) (R131.1) R131.2).bind fun M133 => ((xq_gr 9 10 (x0) M133).bind fun v135 => ((xq_gi 9 6 (x0) M133).bind fun v137 => ((xq_gr 9 9 (x0) M133).bind fun v139 => ((xq_gi 9 6 (x0) M133).bind fun v141 => ((xq_ai 3 (v139) (v141) M133).bind fun v143 => ((xq_si (v135) (v137) (v143) M133).bind fun M145 => (some M145))))))))))))))))))))))))
theorem k134_129 {d f : Nat}     {x0 : Nat} {x1 : Int} {x2 : Int} {M : xj_M} {R : xj_M} (hx1 : xin x1) (hx2 : xin x2) (h : f134_129   f x0 x1 x2 M = some R) : xW (d + 2) (none, d + 2, none) xr_134 (129, [(0, xR_ x0), (1, xI x1), (2, xI x2)], [], M) (xQv R) := by
  unfold f134_129 at h
  refine xe_alr (ins := .aload_n 0) (len := 1) (i := 0) (by decide +kernel) rfl rfl rfl rfl rfl ?_
  obtain ⟨v101, e102, h⟩ := xbnd h
  refine xs_gr (i := 44) (c := 9) (k := 4) (by decide +kernel) (by decide) (by decide +kernel) e102 rfl ?_
  refine xe_alr (ins := .aload_n 0) (len := 1) (i := 0) (by decide +kernel) rfl rfl rfl rfl rfl ?_
  obtain ⟨v103, e104, h⟩ := xbnd h
  refine xs_gr (i := 40) (c := 9) (k := 3) (by decide +kernel) (by decide) (by decide +kernel) e104 rfl ?_
  obtain ⟨v105, e106, h⟩ := xbnd h
  refine xs_gr (i := 107) (c := 6) (k := 10) (by decide +kernel) (by decide) (by decide +kernel) e106 rfl ?_
  refine xe_ldn (ins := .iload_n 1) (len := 1) (by decide +kernel) rfl rfl rfl rfl ?_
  obtain ⟨v107, e108, h⟩ := xbnd h
  refine xs_iald rfl (by decide +kernel) hx1 e108 rfl ?_
  obtain ⟨v109, e110, h⟩ := xbnd h
  refine xs_aald (by decide +kernel) (xq_ai_in e108) e110 rfl ?_
  refine xe_asr (ins := .astore_n 3) (len := 1) (i := 3) (by decide +kernel) rfl rfl rfl (by decide) (xk_k (show ¬ (0 : Nat) = 3 by decide) (Or.inl (show ¬ (0 + 1 : Nat) = 3 by decide)) (xk_k (show ¬ (1 : Nat) = 3 by decide) (Or.inl (show ¬ (1 + 1 : Nat) = 3 by decide)) (xk_k (show ¬ (2 : Nat) = 3 by decide) (Or.inr (xI_cat _)) xk_n))) rfl ?_
  refine xe_alr (ins := .aload_n 0) (len := 1) (i := 0) (by decide +kernel) rfl rfl rfl rfl rfl ?_
  obtain ⟨v111, e112, h⟩ := xbnd h
  refine xs_gr (i := 25) (c := 9) (k := 9) (by decide +kernel) (by decide) (by decide +kernel) e112 rfl ?_
  refine xe_alr (ins := .aload_n 0) (len := 1) (i := 0) (by decide +kernel) rfl rfl rfl rfl rfl ?_
  obtain ⟨v113, e114, h⟩ := xbnd h
  refine xs_gi (i := 52) (c := 9) (k := 6) (by decide +kernel) (by decide) (by decide +kernel) e114 rfl ?_
  refine xe_alr (ins := .aload_n 3) (len := 1) (i := 3) (by decide +kernel) rfl rfl rfl rfl rfl ?_
  refine xe_alr (ins := .aload_n 0) (len := 1) (i := 0) (by decide +kernel) rfl rfl rfl rfl rfl ?_
  obtain ⟨v115, e116, h⟩ := xbnd h
  refine xs_gr (i := 34) (c := 9) (k := 12) (by decide +kernel) (by decide) (by decide +kernel) e116 rfl ?_
  refine xe_ldn (ins := .iload_n 2) (len := 1) (by decide +kernel) rfl rfl rfl rfl ?_
  refine xe_iconst (n := 0) (by decide +kernel) rfl ?_
  obtain ⟨_, e118, h⟩ := xbnd h
  obtain ⟨R119, e117, h⟩ := xbnd h
  refine xs_cv (i := 110) (j := 73) (ar := [xI (0), xI (x2), xR_ (v115)]) (rest := [xI (v113), xR_ (v111)]) (r2 := xr_73) (by decide +kernel) (by decide +kernel) (by decide +kernel) xr_73_e rfl (by decide) (by simp only [List.map_cons, List.map_nil, List.sum_cons, List.sum_nil, xR_cat, xI_cat, xZ_cat]; decide) e118 ?_
  refine xc_i (k73 (d := d + 0)  hx2 (show xin (0) by decide) e117) rfl (fun hi120 => ?_)
  obtain ⟨M121, e122, h⟩ := xbnd h
  refine xs_iast (by decide +kernel) (xq_gi_in e114) e122 rfl ?_
  refine xe_alr (ins := .aload_n 0) (len := 1) (i := 0) (by decide +kernel) rfl rfl rfl rfl rfl ?_
  obtain ⟨v123, e124, h⟩ := xbnd h
  refine xs_gr (i := 31) (c := 9) (k := 11) (by decide +kernel) (by decide) (by decide +kernel) e124 rfl ?_
  refine xe_alr (ins := .aload_n 0) (len := 1) (i := 0) (by decide +kernel) rfl rfl rfl rfl rfl ?_
  obtain ⟨v125, e126, h⟩ := xbnd h
  refine xs_gi (i := 52) (c := 9) (k := 6) (by decide +kernel) (by decide) (by decide +kernel) e126 rfl ?_
  refine xe_alr (ins := .aload_n 3) (len := 1) (i := 3) (by decide +kernel) rfl rfl rfl rfl rfl ?_
  refine xe_alr (ins := .aload_n 0) (len := 1) (i := 0) (by decide +kernel) rfl rfl rfl rfl rfl ?_
  obtain ⟨v127, e128, h⟩ := xbnd h
  refine xs_gr (i := 34) (c := 9) (k := 12) (by decide +kernel) (by decide) (by decide +kernel) e128 rfl ?_
  refine xe_ldn (ins := .iload_n 2) (len := 1) (by decide +kernel) rfl rfl rfl rfl ?_
  refine xe_iconst (n := 1) (by decide +kernel) rfl ?_
  obtain ⟨_, e130, h⟩ := xbnd h
  obtain ⟨R131, e129, h⟩ := xbnd h
  refine xs_cv (i := 110) (j := 73) (ar := [xI (1), xI (x2), xR_ (v127)]) (rest := [xI (v125), xR_ (v123)]) (r2 := xr_73) (by decide +kernel) (by decide +kernel) (by decide +kernel) xr_73_e rfl (by decide) (by simp only [List.map_cons, List.map_nil, List.sum_cons, List.sum_nil, xR_cat, xI_cat, xZ_cat]; decide) e130 ?_
  refine xc_i (k73 (d := d + 0)  hx2 (show xin (1) by decide) e129) rfl (fun hi132 => ?_)
  obtain ⟨M133, e134, h⟩ := xbnd h
  refine xs_iast (by decide +kernel) (xq_gi_in e126) e134 rfl ?_
  refine xe_alr (ins := .aload_n 0) (len := 1) (i := 0) (by decide +kernel) rfl rfl rfl rfl rfl ?_
  obtain ⟨v135, e136, h⟩ := xbnd h
  refine xs_gr (i := 28) (c := 9) (k := 10) (by decide +kernel) (by decide) (by decide +kernel) e136 rfl ?_
  refine xe_alr (ins := .aload_n 0) (len := 1) (i := 0) (by decide +kernel) rfl rfl rfl rfl rfl ?_
  obtain ⟨v137, e138, h⟩ := xbnd h
  refine xs_gi (i := 52) (c := 9) (k := 6) (by decide +kernel) (by decide) (by decide +kernel) e138 rfl ?_
  refine xe_alr (ins := .aload_n 0) (len := 1) (i := 0) (by decide +kernel) rfl rfl rfl rfl rfl ?_
  obtain ⟨v139, e140, h⟩ := xbnd h
  refine xs_gr (i := 25) (c := 9) (k := 9) (by decide +kernel) (by decide) (by decide +kernel) e140 rfl ?_
  refine xe_alr (ins := .aload_n 0) (len := 1) (i := 0) (by decide +kernel) rfl rfl rfl rfl rfl ?_
  obtain ⟨v141, e142, h⟩ := xbnd h
  refine xs_gi (i := 52) (c := 9) (k := 6) (by decide +kernel) (by decide) (by decide +kernel) e142 rfl ?_
  obtain ⟨v143, e144, h⟩ := xbnd h
  refine xs_iald rfl (by decide +kernel) (xq_gi_in e142) e144 rfl ?_
  obtain ⟨M145, e146, h⟩ := xbnd h
  refine xs_iast (by decide +kernel) (xq_gi_in e138) e146 rfl ?_
  cases h
  exact xe_ret_v (by decide +kernel) rfl ⟨rfl, rfl⟩
def f134_122  (r2 : Nat → Int → Int → xj_M → Option (xj_M)) (f : Nat) (x0 : Nat) (x1 : Int) (x2 : Int) (y0 : Int) (y1 : Int) (y2 : Nat) (M : xj_M) : Option (xj_M) := ((xq_sl (y2) (y1) (y0) M).bind fun M147 => r2 (x0) (x1) (xwr ((x2) + (1))) M147)
theorem k134_122 {d f : Nat}  {r2 : Nat → Int → Int → xj_M → Option (xj_M)}  (hr2 : ∀ {x0 : Nat} {x1 : Int} {x2 : Int} {M : xj_M} {R : xj_M}, xin x1 → xin x2 → r2 x0 x1 x2 M = some R → xW (d + 2) (none, d + 2, none) xr_134 (2, [(0, xR_ x0), (1, xI x1), (2, xI x2)], [], M) (xQv R)) {x0 : Nat} {x1 : Int} {x2 : Int} {y0 : Int} {y1 : Int} {y2 : Nat} {M : xj_M} {R : xj_M} (hx1 : xin x1) (hx2 : xin x2) (hy0 : xiN y0) (hy1 : xin y1) (h : f134_122  r2 f x0 x1 x2 y0 y1 y2 M = some R) : xW (d + 2) (none, d + 2, none) xr_134 (122, [(0, xR_ x0), (1, xI x1), (2, xI x2)], [xZ y0, xI y1, xR_ y2], M) (xQv R) := by
  unfold f134_122 at h
  obtain ⟨M147, e148, h⟩ := xbnd h
  refine xs_last (by decide +kernel) hy1 e148 rfl ?_
  refine xe_iincr (i := 2) (n := 1) (by decide +kernel) (by decide) rfl (xk_k (show ¬ (0 : Nat) = 2 by decide) (Or.inl (show ¬ (0 + 1 : Nat) = 2 by decide)) (xk_k (show ¬ (1 : Nat) = 2 by decide) (Or.inr (xI_cat _)) (xk_d rfl xk_n))) rfl ?_
  refine xe_goto (off := -124) (nx := 2) (by decide +kernel) (by decide) ?_
  refine xW_lv rfl (l := [(0, xR_ (x0)), (1, xI (x1)), (2, xI (xwr ((x2) + (1))))]) (xsb_of ⟨rfl, rfl, rfl, trivial⟩ (show [2, 0, 1].Nodup by decide)) ?_
  exact hr2 hx1 (xin_wr _) h
def f134_68  (r2 : Nat → Int → Int → xj_M → Option (xj_M)) (f : Nat) (x0 : Nat) (x1 : Int) (x2 : Int) (x3 : Int) (x4 : Int) (y0 : Int) (M : xj_M) : Option (xj_M) := (if (x4) = (3) then f134_129   f (x0) (x1) (x2) M else (if (y0) = 0 then ((xq_gr 9 12 (x0) M).bind fun v151 => (if ¬ (x4) = (2) then ((xq_gr 9 3 (x0) M).bind fun v154 => ((xq_gr 6 13 (v154) M).bind fun v156 => ((xq_al (v156) (x3) M).bind fun v158 => f134_122  r2 f (x0) (x1) (x2) (v158) (x2) (v151) M))) else ((xq_gr 9 0 (x0) M).bind fun v160 => ((xq_gr 9 3 (x0) M).bind fun v162 => ((xq_gr 6 13 (v162) M).bind fun v164 => ((xq_al (v164) (x3) M).bind fun v166 => ((xq_al (v160) (xwr (v166)) M).bind fun v168 => f134_122  r2 f (x0) (x1) (x2) (v168) (x2) (v151) M))))))) else f134_129   f (x0) (x1) (x2) M))
theorem k134_68 {d f : Nat}  {r2 : Nat → Int → Int → xj_M → Option (xj_M)}  (hr2 : ∀ {x0 : Nat} {x1 : Int} {x2 : Int} {M : xj_M} {R : xj_M}, xin x1 → xin x2 → r2 x0 x1 x2 M = some R → xW (d + 2) (none, d + 2, none) xr_134 (2, [(0, xR_ x0), (1, xI x1), (2, xI x2)], [], M) (xQv R)) {x0 : Nat} {x1 : Int} {x2 : Int} {x3 : Int} {x4 : Int} {y0 : Int} {M : xj_M} {R : xj_M} (hx1 : xin x1) (hx2 : xin x2) (hx3 : xin x3) (hx4 : xin x4) (hy0 : xin y0) (h : f134_68  r2 f x0 x1 x2 x3 x4 y0 M = some R) : xW (d + 2) (none, d + 2, none) xr_134 (68, [(0, xR_ x0), (1, xI x1), (2, xI x2), (3, xI x3), (4, xI x4)], [xI y0], M) (xQv R) := by
  unfold f134_68 at h
  refine xe_isr (ins := .istore 5) (len := 2) (i := 5) (by decide +kernel) rfl rfl rfl (by decide) (xk_k (show ¬ (0 : Nat) = 5 by decide) (Or.inl (show ¬ (0 + 1 : Nat) = 5 by decide)) (xk_k (show ¬ (1 : Nat) = 5 by decide) (Or.inl (show ¬ (1 + 1 : Nat) = 5 by decide)) (xk_k (show ¬ (2 : Nat) = 5 by decide) (Or.inl (show ¬ (2 + 1 : Nat) = 5 by decide)) (xk_k (show ¬ (3 : Nat) = 5 by decide) (Or.inl (show ¬ (3 + 1 : Nat) = 5 by decide)) (xk_k (show ¬ (4 : Nat) = 5 by decide) (Or.inr (xI_cat _)) xk_n))))) rfl ?_
  refine xe_ldn (ins := .iload 4) (len := 2) (by decide +kernel) rfl rfl rfl rfl ?_
  refine xe_iconst (n := 3) (by decide +kernel) rfl ?_
  refine xe_icmpeq (off := 56) (t := 129) (by decide +kernel) (by decide) rfl hx4 (show xin (3) by decide) (fun c149 => ?_) (fun c149 => ?_)
  · rw [if_pos c149] at h
    refine xW_lv rfl (l := [(0, xR_ (x0)), (1, xI (x1)), (2, xI (x2))]) (xsb_of ⟨rfl, rfl, rfl, trivial⟩ (show [5, 0, 1, 2, 3, 4].Nodup by decide)) ?_
    exact k134_129   hx1 hx2 h
  · rw [if_neg c149] at h
    refine xe_ldn (ins := .iload 5) (len := 2) (by decide +kernel) rfl rfl rfl rfl ?_
    refine xe_ifeq (off := 6) (t := 84) (by decide +kernel) (by decide) rfl hy0 (fun c150 => ?_) (fun c150 => ?_)
    · rw [if_pos c150] at h
      refine xe_alr (ins := .aload_n 0) (len := 1) (i := 0) (by decide +kernel) rfl rfl rfl rfl rfl ?_
      obtain ⟨v151, e152, h⟩ := xbnd h
      refine xs_gr (i := 34) (c := 9) (k := 12) (by decide +kernel) (by decide) (by decide +kernel) e152 rfl ?_
      refine xe_ldn (ins := .iload_n 2) (len := 1) (by decide +kernel) rfl rfl rfl rfl ?_
      refine xe_ldn (ins := .iload 4) (len := 2) (by decide +kernel) rfl rfl rfl rfl ?_
      refine xe_iconst (n := 2) (by decide +kernel) rfl ?_
      refine xe_icmpne (off := 21) (t := 113) (by decide +kernel) (by decide) rfl hx4 (show xin (2) by decide) (fun c153 => ?_) (fun c153 => ?_)
      · rw [if_pos c153] at h
        refine xe_alr (ins := .aload_n 0) (len := 1) (i := 0) (by decide +kernel) rfl rfl rfl rfl rfl ?_
        obtain ⟨v154, e155, h⟩ := xbnd h
        refine xs_gr (i := 40) (c := 9) (k := 3) (by decide +kernel) (by decide) (by decide +kernel) e155 rfl ?_
        obtain ⟨v156, e157, h⟩ := xbnd h
        refine xs_gr (i := 104) (c := 6) (k := 13) (by decide +kernel) (by decide) (by decide +kernel) e157 rfl ?_
        refine xe_ldn (ins := .iload_n 3) (len := 1) (by decide +kernel) rfl rfl rfl rfl ?_
        obtain ⟨v158, e159, h⟩ := xbnd h
        refine xs_lald (by decide +kernel) hx3 e159 rfl ?_
        refine xW_lv rfl (l := [(0, xR_ (x0)), (1, xI (x1)), (2, xI (x2))]) (xsb_of ⟨rfl, rfl, rfl, trivial⟩ (show [5, 0, 1, 2, 3, 4].Nodup by decide)) ?_
        exact k134_122  hr2 hx1 hx2 (xq_al_in e159) hx2 h
      · rw [if_neg c153] at h
        refine xe_alr (ins := .aload_n 0) (len := 1) (i := 0) (by decide +kernel) rfl rfl rfl rfl rfl ?_
        obtain ⟨v160, e161, h⟩ := xbnd h
        refine xs_gr (i := 9) (c := 9) (k := 0) (by decide +kernel) (by decide) (by decide +kernel) e161 rfl ?_
        refine xe_alr (ins := .aload_n 0) (len := 1) (i := 0) (by decide +kernel) rfl rfl rfl rfl rfl ?_
        obtain ⟨v162, e163, h⟩ := xbnd h
        refine xs_gr (i := 40) (c := 9) (k := 3) (by decide +kernel) (by decide) (by decide +kernel) e163 rfl ?_
        obtain ⟨v164, e165, h⟩ := xbnd h
        refine xs_gr (i := 104) (c := 6) (k := 13) (by decide +kernel) (by decide) (by decide +kernel) e165 rfl ?_
        refine xe_ldn (ins := .iload_n 3) (len := 1) (by decide +kernel) rfl rfl rfl rfl ?_
        obtain ⟨v166, e167, h⟩ := xbnd h
        refine xs_lald (by decide +kernel) hx3 e167 rfl ?_
        refine xe_l2i (by decide +kernel) rfl ?_
        obtain ⟨v168, e169, h⟩ := xbnd h
        refine xs_lald (by decide +kernel) (xin_wr _) e169 rfl ?_
        refine xe_goto (off := 12) (nx := 122) (by decide +kernel) (by decide) ?_
        refine xW_lv rfl (l := [(0, xR_ (x0)), (1, xI (x1)), (2, xI (x2))]) (xsb_of ⟨rfl, rfl, rfl, trivial⟩ (show [5, 0, 1, 2, 3, 4].Nodup by decide)) ?_
        exact k134_122  hr2 hx1 hx2 (xq_al_in e169) hx2 h
    · rw [if_neg c150] at h
      refine xe_goto (off := 48) (nx := 129) (by decide +kernel) (by decide) ?_
      refine xW_lv rfl (l := [(0, xR_ (x0)), (1, xI (x1)), (2, xI (x2))]) (xsb_of ⟨rfl, rfl, rfl, trivial⟩ (show [5, 0, 1, 2, 3, 4].Nodup by decide)) ?_
      exact k134_129   hx1 hx2 h
def f134_67  (r2 : Nat → Int → Int → xj_M → Option (xj_M)) (f : Nat) (x0 : Nat) (x1 : Int) (x2 : Int) (x3 : Int) (x4 : Int) (M : xj_M) : Option (xj_M) := f134_68  r2 f (x0) (x1) (x2) (x3) (x4) (0) M
theorem k134_67 {d f : Nat}  {r2 : Nat → Int → Int → xj_M → Option (xj_M)}  (hr2 : ∀ {x0 : Nat} {x1 : Int} {x2 : Int} {M : xj_M} {R : xj_M}, xin x1 → xin x2 → r2 x0 x1 x2 M = some R → xW (d + 2) (none, d + 2, none) xr_134 (2, [(0, xR_ x0), (1, xI x1), (2, xI x2)], [], M) (xQv R)) {x0 : Nat} {x1 : Int} {x2 : Int} {x3 : Int} {x4 : Int} {M : xj_M} {R : xj_M} (hx1 : xin x1) (hx2 : xin x2) (hx3 : xin x3) (hx4 : xin x4) (h : f134_67  r2 f x0 x1 x2 x3 x4 M = some R) : xW (d + 2) (none, d + 2, none) xr_134 (67, [(0, xR_ x0), (1, xI x1), (2, xI x2), (3, xI x3), (4, xI x4)], [], M) (xQv R) := by
  unfold f134_67 at h
  refine xe_iconst (n := 0) (by decide +kernel) rfl ?_
  refine xW_lv rfl (l := [(0, xR_ (x0)), (1, xI (x1)), (2, xI (x2)), (3, xI (x3)), (4, xI (x4))]) (xsb_of ⟨rfl, rfl, rfl, rfl, rfl, trivial⟩ (show [0, 1, 2, 3, 4].Nodup by decide)) ?_
  exact k134_68  hr2 hx1 hx2 hx3 hx4 (show xin (0) by decide) h
def f134_2b  (r2 : Nat → Int → Int → xj_M → Option (xj_M)) (f : Nat) (x0 : Nat) (x1 : Int) (x2 : Int) (M : xj_M) : Option (xj_M) := ((xq_gr 9 3 (x0) M).bind fun v170 => ((xq_gr 6 11 (v170) M).bind fun v172 => ((xq_ai 3 (v172) (x1) M).bind fun v174 => (if (v174) ≤ (x2) then f134_129   f (x0) (x1) (x2) M else ((xq_gr 9 3 (x0) M).bind fun v177 => ((xq_gr 6 12 (v177) M).bind fun v179 => ((xq_ai 3 (v179) (xwr ((xwr ((4) * (x1))) + (x2))) M).bind fun v181 => (if ¬ (v181) = (2) then f134_67  r2 f (x0) (x1) (x2) (xwr ((xwr ((4) * (x1))) + (x2))) (v181) M else ((xq_gr 9 8 (x0) M).bind fun v184 => ((xq_gi 9 6 (x0) M).bind fun v186 => ((xq_ai 3 (v184) (v186) M).bind fun v188 => ((xq_gr 9 3 (x0) M).bind fun v190 => ((xq_gr 6 13 (v190) M).bind fun v192 => ((xq_al (v192) (xwr ((xwr ((4) * (x1))) + (x2))) M).bind fun v194 => (if ¬ (xand (xshr (v188) (xwr (v194))) (1)) = 0 then f134_67  r2 f (x0) (x1) (x2) (xwr ((xwr ((4) * (x1))) + (x2))) (v181) M else f134_68  r2 f (x0) (x1) (x2) (xwr ((xwr ((4) * (x1))) + (x2))) (v181) (1) M)))))))))))))))
theorem k134_2b {d f : Nat}  {r2 : Nat → Int → Int → xj_M → Option (xj_M)}  (hr2 : ∀ {x0 : Nat} {x1 : Int} {x2 : Int} {M : xj_M} {R : xj_M}, xin x1 → xin x2 → r2 x0 x1 x2 M = some R → xW (d + 2) (none, d + 2, none) xr_134 (2, [(0, xR_ x0), (1, xI x1), (2, xI x2)], [], M) (xQv R)) {x0 : Nat} {x1 : Int} {x2 : Int} {M : xj_M} {R : xj_M} (hx1 : xin x1) (hx2 : xin x2) (h : f134_2b  r2 f x0 x1 x2 M = some R) : xW (d + 2) (none, d + 2, none) xr_134 (2, [(0, xR_ x0), (1, xI x1), (2, xI x2)], [], M) (xQv R) := by
  unfold f134_2b at h
  refine xe_ldn (ins := .iload_n 2) (len := 1) (by decide +kernel) rfl rfl rfl rfl ?_
  refine xe_alr (ins := .aload_n 0) (len := 1) (i := 0) (by decide +kernel) rfl rfl rfl rfl rfl ?_
  obtain ⟨v170, e171, h⟩ := xbnd h
  refine xs_gr (i := 40) (c := 9) (k := 3) (by decide +kernel) (by decide) (by decide +kernel) e171 rfl ?_
  obtain ⟨v172, e173, h⟩ := xbnd h
  refine xs_gr (i := 98) (c := 6) (k := 11) (by decide +kernel) (by decide) (by decide +kernel) e173 rfl ?_
  refine xe_ldn (ins := .iload_n 1) (len := 1) (by decide +kernel) rfl rfl rfl rfl ?_
  obtain ⟨v174, e175, h⟩ := xbnd h
  refine xs_iald rfl (by decide +kernel) hx1 e175 rfl ?_
  refine xe_icmpge (off := 117) (t := 129) (by decide +kernel) (by decide) rfl hx2 (xq_ai_in e175) (fun c176 => ?_) (fun c176 => ?_)
  · rw [if_pos c176] at h
    refine xW_lv rfl (l := [(0, xR_ (x0)), (1, xI (x1)), (2, xI (x2))]) (xsb_of ⟨rfl, rfl, rfl, trivial⟩ (show [0, 1, 2].Nodup by decide)) ?_
    exact k134_129   hx1 hx2 h
  · rw [if_neg c176] at h
    refine xe_iconst (n := 4) (by decide +kernel) rfl ?_
    refine xe_ldn (ins := .iload_n 1) (len := 1) (by decide +kernel) rfl rfl rfl rfl ?_
    refine xe_imul (by decide +kernel) rfl ?_
    refine xe_ldn (ins := .iload_n 2) (len := 1) (by decide +kernel) rfl rfl rfl rfl ?_
    refine xe_iadd (by decide +kernel) rfl ?_
    refine xe_isr (ins := .istore_n 3) (len := 1) (i := 3) (by decide +kernel) rfl rfl rfl (by decide) (xk_k (show ¬ (0 : Nat) = 3 by decide) (Or.inl (show ¬ (0 + 1 : Nat) = 3 by decide)) (xk_k (show ¬ (1 : Nat) = 3 by decide) (Or.inl (show ¬ (1 + 1 : Nat) = 3 by decide)) (xk_k (show ¬ (2 : Nat) = 3 by decide) (Or.inr (xI_cat _)) xk_n))) rfl ?_
    refine xe_alr (ins := .aload_n 0) (len := 1) (i := 0) (by decide +kernel) rfl rfl rfl rfl rfl ?_
    obtain ⟨v177, e178, h⟩ := xbnd h
    refine xs_gr (i := 40) (c := 9) (k := 3) (by decide +kernel) (by decide) (by decide +kernel) e178 rfl ?_
    obtain ⟨v179, e180, h⟩ := xbnd h
    refine xs_gr (i := 101) (c := 6) (k := 12) (by decide +kernel) (by decide) (by decide +kernel) e180 rfl ?_
    refine xe_ldn (ins := .iload_n 3) (len := 1) (by decide +kernel) rfl rfl rfl rfl ?_
    obtain ⟨v181, e182, h⟩ := xbnd h
    refine xs_iald rfl (by decide +kernel) (xin_wr _) e182 rfl ?_
    refine xe_isr (ins := .istore 4) (len := 2) (i := 4) (by decide +kernel) rfl rfl rfl (by decide) (xk_k (show ¬ (3 : Nat) = 4 by decide) (Or.inr (xI_cat _)) (xk_k (show ¬ (0 : Nat) = 4 by decide) (Or.inl (show ¬ (0 + 1 : Nat) = 4 by decide)) (xk_k (show ¬ (1 : Nat) = 4 by decide) (Or.inl (show ¬ (1 + 1 : Nat) = 4 by decide)) (xk_k (show ¬ (2 : Nat) = 4 by decide) (Or.inl (show ¬ (2 + 1 : Nat) = 4 by decide)) xk_n)))) rfl ?_
    refine xe_ldn (ins := .iload 4) (len := 2) (by decide +kernel) rfl rfl rfl rfl ?_
    refine xe_iconst (n := 2) (by decide +kernel) rfl ?_
    refine xe_icmpne (off := 32) (t := 67) (by decide +kernel) (by decide) rfl (xq_ai_in e182) (show xin (2) by decide) (fun c183 => ?_) (fun c183 => ?_)
    · rw [if_pos c183] at h
      refine xW_lv rfl (l := [(0, xR_ (x0)), (1, xI (x1)), (2, xI (x2)), (3, xI (xwr ((xwr ((4) * (x1))) + (x2)))), (4, xI (v181))]) (xsb_of ⟨rfl, rfl, rfl, rfl, rfl, trivial⟩ (show [4, 3, 0, 1, 2].Nodup by decide)) ?_
      exact k134_67  hr2 hx1 hx2 (xin_wr _) (xq_ai_in e182) h
    · rw [if_neg c183] at h
      refine xe_alr (ins := .aload_n 0) (len := 1) (i := 0) (by decide +kernel) rfl rfl rfl rfl rfl ?_
      obtain ⟨v184, e185, h⟩ := xbnd h
      refine xs_gr (i := 22) (c := 9) (k := 8) (by decide +kernel) (by decide) (by decide +kernel) e185 rfl ?_
      refine xe_alr (ins := .aload_n 0) (len := 1) (i := 0) (by decide +kernel) rfl rfl rfl rfl rfl ?_
      obtain ⟨v186, e187, h⟩ := xbnd h
      refine xs_gi (i := 52) (c := 9) (k := 6) (by decide +kernel) (by decide) (by decide +kernel) e187 rfl ?_
      obtain ⟨v188, e189, h⟩ := xbnd h
      refine xs_iald rfl (by decide +kernel) (xq_gi_in e187) e189 rfl ?_
      refine xe_alr (ins := .aload_n 0) (len := 1) (i := 0) (by decide +kernel) rfl rfl rfl rfl rfl ?_
      obtain ⟨v190, e191, h⟩ := xbnd h
      refine xs_gr (i := 40) (c := 9) (k := 3) (by decide +kernel) (by decide) (by decide +kernel) e191 rfl ?_
      obtain ⟨v192, e193, h⟩ := xbnd h
      refine xs_gr (i := 104) (c := 6) (k := 13) (by decide +kernel) (by decide) (by decide +kernel) e193 rfl ?_
      refine xe_ldn (ins := .iload_n 3) (len := 1) (by decide +kernel) rfl rfl rfl rfl ?_
      obtain ⟨v194, e195, h⟩ := xbnd h
      refine xs_lald (by decide +kernel) (xin_wr _) e195 rfl ?_
      refine xe_l2i (by decide +kernel) rfl ?_
      refine xe_ishr (by decide +kernel) rfl ?_
      refine xe_iconst (n := 1) (by decide +kernel) rfl ?_
      refine xe_iand (by decide +kernel) rfl ?_
      refine xe_ifne (off := 7) (t := 67) (by decide +kernel) (by decide) rfl (xin_of _) (fun c196 => ?_) (fun c196 => ?_)
      · rw [if_pos c196] at h
        refine xW_lv rfl (l := [(0, xR_ (x0)), (1, xI (x1)), (2, xI (x2)), (3, xI (xwr ((xwr ((4) * (x1))) + (x2)))), (4, xI (v181))]) (xsb_of ⟨rfl, rfl, rfl, rfl, rfl, trivial⟩ (show [4, 3, 0, 1, 2].Nodup by decide)) ?_
        exact k134_67  hr2 hx1 hx2 (xin_wr _) (xq_ai_in e182) h
      · rw [if_neg c196] at h
        refine xe_iconst (n := 1) (by decide +kernel) rfl ?_
        refine xe_goto (off := 4) (nx := 68) (by decide +kernel) (by decide) ?_
        refine xW_lv rfl (l := [(0, xR_ (x0)), (1, xI (x1)), (2, xI (x2)), (3, xI (xwr ((xwr ((4) * (x1))) + (x2)))), (4, xI (v181))]) (xsb_of ⟨rfl, rfl, rfl, rfl, rfl, trivial⟩ (show [4, 3, 0, 1, 2].Nodup by decide)) ?_
        exact k134_68  hr2 hx1 hx2 (xin_wr _) (xq_ai_in e182) (show xin (1) by decide) h
def f134_2   (f : Nat) : Nat → Nat → Int → Int → xj_M → Option (xj_M)
  | 0, _, _, _, _ => none
  | n + 1, x0, x1, x2, M => f134_2b   (f134_2   f n) f x0 x1 x2 M
theorem k134_2 {d f : Nat}     : ∀ {n : Nat} {x0 : Nat} {x1 : Int} {x2 : Int} {M : xj_M} {R : xj_M}, xin x1 → xin x2 → f134_2   f n x0 x1 x2 M = some R → xW (d + 2) (none, d + 2, none) xr_134 (2, [(0, xR_ x0), (1, xI x1), (2, xI x2)], [], M) (xQv R) := by
  intro n
  induction n with
  | zero => intros; rename_i h; cases h
  | succ n ih => intros; rename_i h; exact k134_2b   ih (by assumption) (by assumption) h
def f134  (f : Nat) (a0 : Nat) (a1 : Int) (M : xj_M) : Option (xj_M) := f134_2   f f (a0) (a1) (0) M
theorem k134 {d f : Nat}   {a0 : Nat} {a1 : Int} {M : xj_M} {R : xj_M} (ha1 : xin a1) (h : f134  f a0 a1 M = some R) : xT (d + 3) 134 [xR_ a0, xI a1] M (xQv R) := by
  refine xT_m xr_134_e (X := (none, d + 2, none)) rfl (xa_1 (xR_cat _) (xa_1 (xI_cat _) xa_n)) (by decide) ?_
  unfold f134 at h
  refine xe_iconst (n := 0) (by decide +kernel) rfl ?_
  refine xe_isr (ins := .istore_n 2) (len := 1) (i := 2) (by decide +kernel) rfl rfl rfl (by decide) (xk_k (show ¬ (0 : Nat) = 2 by decide) (Or.inl (show ¬ (0 + 1 : Nat) = 2 by decide)) (xk_k (show ¬ (1 : Nat) = 2 by decide) (Or.inr (xI_cat _)) xk_n)) rfl ?_
  refine xW_lv rfl (l := [(0, xR_ (a0)), (1, xI (a1)), (2, xI (0))]) (xsb_of ⟨rfl, rfl, rfl, trivial⟩ (show [2, 0, 1].Nodup by decide)) ?_
  exact k134_2   ha1 (show xin (0) by decide) h
-- ChangeHouse$Ways.match
def xr_136 : xj_mR := (9, yX9_match, cX9_match, 12, (Option.some Jvm.ClassFile.FieldType.int), 3, false, (6, 193), (1, 4))
set_option maxRecDepth 20000 in
theorem xr_136_e : xj_row 136 = some xr_136 := rfl
def f136_41   (f : Nat)  (M : xj_M) : Option (Int × xj_M) := (some (-1, M))
theorem k136_41 {d f : Nat}      {M : xj_M} {R : Int × xj_M}  (h : f136_41   f  M = some R) : xW (d + 1) (none, d + 1, none) xr_136 (41, [], [], M) (xQi R) := by
  unfold f136_41 at h
  refine xe_iconst (n := -1) (by decide +kernel) rfl ?_
  cases h
  exact xe_ret_i (ty := .int) (by decide +kernel) rfl rfl ⟨rfl, rfl, (show xin (-1) by decide)⟩
def f136_172  (r46 : Nat → Int → Nat → Int → Int → Int → xj_M → Option (Int × xj_M)) (f : Nat) (x0 : Nat) (x1 : Int) (x2 : Nat) (x3 : Int) (x4 : Int) (x5 : Int) (M : xj_M) : Option (Int × xj_M) := r46 (x0) (x1) (x2) (x3) (x4) (xwr ((x5) + (1))) M
theorem k136_172 {d f : Nat}  {r46 : Nat → Int → Nat → Int → Int → Int → xj_M → Option (Int × xj_M)}  (hr46 : ∀ {x0 : Nat} {x1 : Int} {x2 : Nat} {x3 : Int} {x4 : Int} {x5 : Int} {M : xj_M} {R : Int × xj_M}, xin x1 → xin x3 → xin x4 → xin x5 → r46 x0 x1 x2 x3 x4 x5 M = some R → xW (d + 1) (none, d + 1, none) xr_136 (46, [(0, xR_ x0), (1, xI x1), (2, xR_ x2), (3, xI x3), (4, xI x4), (5, xI x5)], [], M) (xQi R)) {x0 : Nat} {x1 : Int} {x2 : Nat} {x3 : Int} {x4 : Int} {x5 : Int} {M : xj_M} {R : Int × xj_M} (hx1 : xin x1) (hx3 : xin x3) (hx4 : xin x4) (hx5 : xin x5) (h : f136_172  r46 f x0 x1 x2 x3 x4 x5 M = some R) : xW (d + 1) (none, d + 1, none) xr_136 (172, [(0, xR_ x0), (1, xI x1), (2, xR_ x2), (3, xI x3), (4, xI x4), (5, xI x5)], [], M) (xQi R) := by
  unfold f136_172 at h
  refine xe_iincr (i := 5) (n := 1) (by decide +kernel) (by decide) rfl (xk_k (show ¬ (0 : Nat) = 5 by decide) (Or.inl (show ¬ (0 + 1 : Nat) = 5 by decide)) (xk_k (show ¬ (1 : Nat) = 5 by decide) (Or.inl (show ¬ (1 + 1 : Nat) = 5 by decide)) (xk_k (show ¬ (2 : Nat) = 5 by decide) (Or.inl (show ¬ (2 + 1 : Nat) = 5 by decide)) (xk_k (show ¬ (3 : Nat) = 5 by decide) (Or.inl (show ¬ (3 + 1 : Nat) = 5 by decide)) (xk_k (show ¬ (4 : Nat) = 5 by decide) (Or.inr (xI_cat _)) (xk_d rfl xk_n)))))) rfl ?_
  refine xe_goto (off := -129) (nx := 46) (by decide +kernel) (by decide) ?_
  refine xW_lv rfl (l := [(0, xR_ (x0)), (1, xI (x1)), (2, xR_ (x2)), (3, xI (x3)), (4, xI (x4)), (5, xI (xwr ((x5) + (1))))]) (xsb_of ⟨rfl, rfl, rfl, rfl, rfl, rfl, trivial⟩ (show [5, 0, 1, 2, 3, 4].Nodup by decide)) ?_
  exact hr46 hx1 hx3 hx4 (xin_wr _) h
def f136_154  (r46 : Nat → Int → Nat → Int → Int → Int → xj_M → Option (Int × xj_M)) (f : Nat) (x0 : Nat) (x1 : Int) (x2 : Nat) (x3 : Int) (x4 : Int) (x5 : Int) (x9 : Int) (x11 : Int) (M : xj_M) : Option (Int × xj_M) := ((xq_gr 9 0 (x0) M).bind fun v101 => ((xq_sl (v101) (x11) (x9) M).bind fun M103 => f136_172  r46 f (x0) (x1) (x2) (x3) (xor_ (x4) (xshl (1) (x11))) (x5) M103))
theorem k136_154 {d f : Nat}  {r46 : Nat → Int → Nat → Int → Int → Int → xj_M → Option (Int × xj_M)}  (hr46 : ∀ {x0 : Nat} {x1 : Int} {x2 : Nat} {x3 : Int} {x4 : Int} {x5 : Int} {M : xj_M} {R : Int × xj_M}, xin x1 → xin x3 → xin x4 → xin x5 → r46 x0 x1 x2 x3 x4 x5 M = some R → xW (d + 1) (none, d + 1, none) xr_136 (46, [(0, xR_ x0), (1, xI x1), (2, xR_ x2), (3, xI x3), (4, xI x4), (5, xI x5)], [], M) (xQi R)) {x0 : Nat} {x1 : Int} {x2 : Nat} {x3 : Int} {x4 : Int} {x5 : Int} {x9 : Int} {x11 : Int} {M : xj_M} {R : Int × xj_M} (hx1 : xin x1) (hx3 : xin x3) (hx4 : xin x4) (hx5 : xin x5) (hx9 : xiN x9) (hx11 : xin x11) (h : f136_154  r46 f x0 x1 x2 x3 x4 x5 x9 x11 M = some R) : xW (d + 1) (none, d + 1, none) xr_136 (154, [(0, xR_ x0), (1, xI x1), (2, xR_ x2), (3, xI x3), (4, xI x4), (5, xI x5), (9, xZ x9), (11, xI x11)], [], M) (xQi R) := by
  unfold f136_154 at h
  refine xe_alr (ins := .aload_n 0) (len := 1) (i := 0) (by decide +kernel) rfl rfl rfl rfl rfl ?_
  obtain ⟨v101, e102, h⟩ := xbnd h
  refine xs_gr (i := 9) (c := 9) (k := 0) (by decide +kernel) (by decide) (by decide +kernel) e102 rfl ?_
  refine xe_ldn (ins := .iload 11) (len := 2) (by decide +kernel) rfl rfl rfl rfl ?_
  refine xe_ldn (ins := .lload 9) (len := 2) (by decide +kernel) rfl rfl rfl rfl ?_
  obtain ⟨M103, e104, h⟩ := xbnd h
  refine xs_last (by decide +kernel) hx11 e104 rfl ?_
  refine xe_ldn (ins := .iload 4) (len := 2) (by decide +kernel) rfl rfl rfl rfl ?_
  refine xe_iconst (n := 1) (by decide +kernel) rfl ?_
  refine xe_ldn (ins := .iload 11) (len := 2) (by decide +kernel) rfl rfl rfl rfl ?_
  refine xe_ishl (by decide +kernel) rfl ?_
  refine xe_ior (by decide +kernel) rfl ?_
  refine xe_isr (ins := .istore 4) (len := 2) (i := 4) (by decide +kernel) rfl rfl rfl (by decide) (xk_k (show ¬ (0 : Nat) = 4 by decide) (Or.inl (show ¬ (0 + 1 : Nat) = 4 by decide)) (xk_k (show ¬ (1 : Nat) = 4 by decide) (Or.inl (show ¬ (1 + 1 : Nat) = 4 by decide)) (xk_k (show ¬ (2 : Nat) = 4 by decide) (Or.inl (show ¬ (2 + 1 : Nat) = 4 by decide)) (xk_k (show ¬ (3 : Nat) = 4 by decide) (Or.inr (xI_cat _)) (xk_d rfl (xk_k (show ¬ (5 : Nat) = 4 by decide) (Or.inl (show ¬ (5 + 1 : Nat) = 4 by decide)) (xk_k (show ¬ (9 : Nat) = 4 by decide) (Or.inl (show ¬ (9 + 1 : Nat) = 4 by decide)) (xk_k (show ¬ (11 : Nat) = 4 by decide) (Or.inl (show ¬ (11 + 1 : Nat) = 4 by decide)) xk_n)))))))) rfl ?_
  refine xW_lv rfl (l := [(0, xR_ (x0)), (1, xI (x1)), (2, xR_ (x2)), (3, xI (x3)), (4, xI (xor_ (x4) (xshl (1) (x11)))), (5, xI (x5))]) (xsb_of ⟨rfl, rfl, rfl, rfl, rfl, rfl, trivial⟩ (show [4, 0, 1, 2, 3, 5, 9, 11].Nodup by decide)) ?_
  exact k136_172  hr46 hx1 hx3 (xin_of _) hx5 h
def f136_117  (r46 : Nat → Int → Nat → Int → Int → Int → xj_M → Option (Int × xj_M)) (f : Nat) (x0 : Nat) (x1 : Int) (x2 : Nat) (x3 : Int) (x4 : Int) (x5 : Int) (x6 : Int) (x7 : Int) (x9 : Int) (M : xj_M) : Option (Int × xj_M) := (if ¬ (x6) = (2) then f136_172  r46 f (x0) (x1) (x2) (x3) (x4) (x5) M else (if ¬ (xand (xshr (x4) (xwr (x7))) (1)) = (1) then f136_154  r46 f (x0) (x1) (x2) (x3) (x4) (x5) (x9) (xwr (x7)) M else ((xq_gr 9 0 (x0) M).bind fun v107 => ((xq_al (v107) (xwr (x7)) M).bind fun v109 => (if (v109) = (x9) then f136_154  r46 f (x0) (x1) (x2) (x3) (x4) (x5) (x9) (xwr (x7)) M else (some (-1, M)))))))
theorem k136_117 {d f : Nat}  {r46 : Nat → Int → Nat → Int → Int → Int → xj_M → Option (Int × xj_M)}  (hr46 : ∀ {x0 : Nat} {x1 : Int} {x2 : Nat} {x3 : Int} {x4 : Int} {x5 : Int} {M : xj_M} {R : Int × xj_M}, xin x1 → xin x3 → xin x4 → xin x5 → r46 x0 x1 x2 x3 x4 x5 M = some R → xW (d + 1) (none, d + 1, none) xr_136 (46, [(0, xR_ x0), (1, xI x1), (2, xR_ x2), (3, xI x3), (4, xI x4), (5, xI x5)], [], M) (xQi R)) {x0 : Nat} {x1 : Int} {x2 : Nat} {x3 : Int} {x4 : Int} {x5 : Int} {x6 : Int} {x7 : Int} {x9 : Int} {M : xj_M} {R : Int × xj_M} (hx1 : xin x1) (hx3 : xin x3) (hx4 : xin x4) (hx5 : xin x5) (hx6 : xin x6) (hx7 : xiN x7) (hx9 : xiN x9) (h : f136_117  r46 f x0 x1 x2 x3 x4 x5 x6 x7 x9 M = some R) : xW (d + 1) (none, d + 1, none) xr_136 (117, [(0, xR_ x0), (1, xI x1), (2, xR_ x2), (3, xI x3), (4, xI x4), (5, xI x5), (6, xI x6), (7, xZ x7), (9, xZ x9)], [], M) (xQi R) := by
  unfold f136_117 at h
  refine xe_ldn (ins := .iload 6) (len := 2) (by decide +kernel) rfl rfl rfl rfl ?_
  refine xe_iconst (n := 2) (by decide +kernel) rfl ?_
  refine xe_icmpne (off := 52) (t := 172) (by decide +kernel) (by decide) rfl hx6 (show xin (2) by decide) (fun c105 => ?_) (fun c105 => ?_)
  · rw [if_pos c105] at h
    refine xW_lv rfl (l := [(0, xR_ (x0)), (1, xI (x1)), (2, xR_ (x2)), (3, xI (x3)), (4, xI (x4)), (5, xI (x5))]) (xsb_of ⟨rfl, rfl, rfl, rfl, rfl, rfl, trivial⟩ (show [0, 1, 2, 3, 4, 5, 6, 7, 9].Nodup by decide)) ?_
    exact k136_172  hr46 hx1 hx3 hx4 hx5 h
  · rw [if_neg c105] at h
    refine xe_ldn (ins := .lload 7) (len := 2) (by decide +kernel) rfl rfl rfl rfl ?_
    refine xe_l2i (by decide +kernel) rfl ?_
    refine xe_isr (ins := .istore 11) (len := 2) (i := 11) (by decide +kernel) rfl rfl rfl (by decide) (xk_k (show ¬ (0 : Nat) = 11 by decide) (Or.inl (show ¬ (0 + 1 : Nat) = 11 by decide)) (xk_k (show ¬ (1 : Nat) = 11 by decide) (Or.inl (show ¬ (1 + 1 : Nat) = 11 by decide)) (xk_k (show ¬ (2 : Nat) = 11 by decide) (Or.inl (show ¬ (2 + 1 : Nat) = 11 by decide)) (xk_k (show ¬ (3 : Nat) = 11 by decide) (Or.inl (show ¬ (3 + 1 : Nat) = 11 by decide)) (xk_k (show ¬ (4 : Nat) = 11 by decide) (Or.inl (show ¬ (4 + 1 : Nat) = 11 by decide)) (xk_k (show ¬ (5 : Nat) = 11 by decide) (Or.inl (show ¬ (5 + 1 : Nat) = 11 by decide)) (xk_k (show ¬ (6 : Nat) = 11 by decide) (Or.inl (show ¬ (6 + 1 : Nat) = 11 by decide)) (xk_k (show ¬ (7 : Nat) = 11 by decide) (Or.inl (show ¬ (7 + 1 : Nat) = 11 by decide)) (xk_k (show ¬ (9 : Nat) = 11 by decide) (Or.inl (show ¬ (9 + 1 : Nat) = 11 by decide)) xk_n))))))))) rfl ?_
    refine xe_ldn (ins := .iload 4) (len := 2) (by decide +kernel) rfl rfl rfl rfl ?_
    refine xe_ldn (ins := .iload 11) (len := 2) (by decide +kernel) rfl rfl rfl rfl ?_
    refine xe_ishr (by decide +kernel) rfl ?_
    refine xe_iconst (n := 1) (by decide +kernel) rfl ?_
    refine xe_iand (by decide +kernel) rfl ?_
    refine xe_iconst (n := 1) (by decide +kernel) rfl ?_
    refine xe_icmpne (off := 18) (t := 154) (by decide +kernel) (by decide) rfl (xin_of _) (show xin (1) by decide) (fun c106 => ?_) (fun c106 => ?_)
    · rw [if_pos c106] at h
      refine xW_lv rfl (l := [(0, xR_ (x0)), (1, xI (x1)), (2, xR_ (x2)), (3, xI (x3)), (4, xI (x4)), (5, xI (x5)), (9, xZ (x9)), (11, xI (xwr (x7)))]) (xsb_of ⟨rfl, rfl, rfl, rfl, rfl, rfl, rfl, rfl, trivial⟩ (show [11, 0, 1, 2, 3, 4, 5, 6, 7, 9].Nodup by decide)) ?_
      exact k136_154  hr46 hx1 hx3 hx4 hx5 hx9 (xin_wr _) h
    · rw [if_neg c106] at h
      refine xe_alr (ins := .aload_n 0) (len := 1) (i := 0) (by decide +kernel) rfl rfl rfl rfl rfl ?_
      obtain ⟨v107, e108, h⟩ := xbnd h
      refine xs_gr (i := 9) (c := 9) (k := 0) (by decide +kernel) (by decide) (by decide +kernel) e108 rfl ?_
      refine xe_ldn (ins := .iload 11) (len := 2) (by decide +kernel) rfl rfl rfl rfl ?_
      obtain ⟨v109, e110, h⟩ := xbnd h
      refine xs_lald (by decide +kernel) (xin_wr _) e110 rfl ?_
      refine xe_ldn (ins := .lload 9) (len := 2) (by decide +kernel) rfl rfl rfl rfl ?_
      refine xe_lcmp (by decide +kernel) rfl (xq_al_in e110) hx9 ?_
      refine xe_ifeq (off := 5) (t := 154) (by decide +kernel) (by decide) rfl (xin_cmp8 _ _) (fun c111 => ?_) (fun c111 => ?_)
      · have c111 := xcmp8_eq.mp c111; rw [if_pos c111] at h
        refine xW_lv rfl (l := [(0, xR_ (x0)), (1, xI (x1)), (2, xR_ (x2)), (3, xI (x3)), (4, xI (x4)), (5, xI (x5)), (9, xZ (x9)), (11, xI (xwr (x7)))]) (xsb_of ⟨rfl, rfl, rfl, rfl, rfl, rfl, rfl, rfl, trivial⟩ (show [11, 0, 1, 2, 3, 4, 5, 6, 7, 9].Nodup by decide)) ?_
        exact k136_154  hr46 hx1 hx3 hx4 hx5 hx9 (xin_wr _) h
      · have c111 := (not_congr xcmp8_eq).mp c111; rw [if_neg c111] at h
        refine xe_iconst (n := -1) (by decide +kernel) rfl ?_
        cases h
        exact xe_ret_i (ty := .int) (by decide +kernel) rfl rfl ⟨rfl, rfl, (show xin (-1) by decide)⟩
def f136_46b  (r46 : Nat → Int → Nat → Int → Int → Int → xj_M → Option (Int × xj_M)) (f : Nat) (x0 : Nat) (x1 : Int) (x2 : Nat) (x3 : Int) (x4 : Int) (x5 : Int) (M : xj_M) : Option (Int × xj_M) := ((xq_gr 9 3 (x0) M).bind fun v112 => ((xq_gr 6 11 (v112) M).bind fun v114 => ((xq_ai 3 (v114) (x1) M).bind fun v116 => (if (v116) ≤ (x5) then (some (x4, M)) else ((xq_gr 9 3 (x0) M).bind fun v119 => ((xq_gr 6 12 (v119) M).bind fun v121 => ((xq_ai 3 (v121) (xwr ((xwr ((4) * (x1))) + (x5))) M).bind fun v123 => ((xq_gr 9 3 (x0) M).bind fun v125 => ((xq_gr 6 13 (v125) M).bind fun v127 => ((xq_al (v127) (xwr ((xwr ((4) * (x1))) + (x5))) M).bind fun v129 => ((xq_is 5 (x2) M).bind fun _ => ((f70  f (x2) (x3) (x5) M).bind fun R133 => (if ¬ (v123) = (4) then f136_117  r46 f (x0) (x1) (x2) (x3) (x4) (x5) (v123) (v129) (R133.1) R133.2 else (if (v129) = (R133.1) then f136_117  r46 f (x0) (x1) (x2) (x3) (x4) (x5) (v123) (v129) (R133.1) R133.2 else (some (-1, R133.2))))))))))))))))
theorem k136_46b {d f : Nat}  {r46 : Nat → Int → Nat → Int → Int → Int → xj_M → Option (Int × xj_M)}  (hr46 : ∀ {x0 : Nat} {x1 : Int} {x2 : Nat} {x3 : Int} {x4 : Int} {x5 : Int} {M : xj_M} {R : Int × xj_M}, xin x1 → xin x3 → xin x4 → xin x5 → r46 x0 x1 x2 x3 x4 x5 M = some R → xW (d + 1) (none, d + 1, none) xr_136 (46, [(0, xR_ x0), (1, xI x1), (2, xR_ x2), (3, xI x3), (4, xI x4), (5, xI x5)], [], M) (xQi R)) {x0 : Nat} {x1 : Int} {x2 : Nat} {x3 : Int} {x4 : Int} {x5 : Int} {M : xj_M} {R : Int × xj_M} (hx1 : xin x1) (hx3 : xin x3) (hx4 : xin x4) (hx5 : xin x5) (h : f136_46b  r46 f x0 x1 x2 x3 x4 x5 M = some R) : xW (d + 1) (none, d + 1, none) xr_136 (46, [(0, xR_ x0), (1, xI x1), (2, xR_ x2), (3, xI x3), (4, xI x4), (5, xI x5)], [], M) (xQi R) := by
  unfold f136_46b at h
  refine xe_ldn (ins := .iload 5) (len := 2) (by decide +kernel) rfl rfl rfl rfl ?_
  refine xe_alr (ins := .aload_n 0) (len := 1) (i := 0) (by decide +kernel) rfl rfl rfl rfl rfl ?_
  obtain ⟨v112, e113, h⟩ := xbnd h
  refine xs_gr (i := 40) (c := 9) (k := 3) (by decide +kernel) (by decide) (by decide +kernel) e113 rfl ?_
  obtain ⟨v114, e115, h⟩ := xbnd h
  refine xs_gr (i := 98) (c := 6) (k := 11) (by decide +kernel) (by decide) (by decide +kernel) e115 rfl ?_
  refine xe_ldn (ins := .iload_n 1) (len := 1) (by decide +kernel) rfl rfl rfl rfl ?_
  obtain ⟨v116, e117, h⟩ := xbnd h
  refine xs_iald rfl (by decide +kernel) hx1 e117 rfl ?_
  refine xe_icmpge (off := 121) (t := 178) (by decide +kernel) (by decide) rfl hx5 (xq_ai_in e117) (fun c118 => ?_) (fun c118 => ?_)
  · rw [if_pos c118] at h
    refine xe_ldn (ins := .iload 4) (len := 2) (by decide +kernel) rfl rfl rfl rfl ?_
    cases h
    exact xe_ret_i (ty := .int) (by decide +kernel) rfl rfl ⟨rfl, rfl, hx4⟩
  · rw [if_neg c118] at h
    refine xe_alr (ins := .aload_n 0) (len := 1) (i := 0) (by decide +kernel) rfl rfl rfl rfl rfl ?_
    obtain ⟨v119, e120, h⟩ := xbnd h
    refine xs_gr (i := 40) (c := 9) (k := 3) (by decide +kernel) (by decide) (by decide +kernel) e120 rfl ?_
    obtain ⟨v121, e122, h⟩ := xbnd h
    refine xs_gr (i := 101) (c := 6) (k := 12) (by decide +kernel) (by decide) (by decide +kernel) e122 rfl ?_
    refine xe_iconst (n := 4) (by decide +kernel) rfl ?_
    refine xe_ldn (ins := .iload_n 1) (len := 1) (by decide +kernel) rfl rfl rfl rfl ?_
    refine xe_imul (by decide +kernel) rfl ?_
    refine xe_ldn (ins := .iload 5) (len := 2) (by decide +kernel) rfl rfl rfl rfl ?_
    refine xe_iadd (by decide +kernel) rfl ?_
    obtain ⟨v123, e124, h⟩ := xbnd h
    refine xs_iald rfl (by decide +kernel) (xin_wr _) e124 rfl ?_
    refine xe_isr (ins := .istore 6) (len := 2) (i := 6) (by decide +kernel) rfl rfl rfl (by decide) (xk_k (show ¬ (0 : Nat) = 6 by decide) (Or.inl (show ¬ (0 + 1 : Nat) = 6 by decide)) (xk_k (show ¬ (1 : Nat) = 6 by decide) (Or.inl (show ¬ (1 + 1 : Nat) = 6 by decide)) (xk_k (show ¬ (2 : Nat) = 6 by decide) (Or.inl (show ¬ (2 + 1 : Nat) = 6 by decide)) (xk_k (show ¬ (3 : Nat) = 6 by decide) (Or.inl (show ¬ (3 + 1 : Nat) = 6 by decide)) (xk_k (show ¬ (4 : Nat) = 6 by decide) (Or.inl (show ¬ (4 + 1 : Nat) = 6 by decide)) (xk_k (show ¬ (5 : Nat) = 6 by decide) (Or.inr (xI_cat _)) xk_n)))))) rfl ?_
    refine xe_alr (ins := .aload_n 0) (len := 1) (i := 0) (by decide +kernel) rfl rfl rfl rfl rfl ?_
    obtain ⟨v125, e126, h⟩ := xbnd h
    refine xs_gr (i := 40) (c := 9) (k := 3) (by decide +kernel) (by decide) (by decide +kernel) e126 rfl ?_
    obtain ⟨v127, e128, h⟩ := xbnd h
    refine xs_gr (i := 104) (c := 6) (k := 13) (by decide +kernel) (by decide) (by decide +kernel) e128 rfl ?_
    refine xe_iconst (n := 4) (by decide +kernel) rfl ?_
    refine xe_ldn (ins := .iload_n 1) (len := 1) (by decide +kernel) rfl rfl rfl rfl ?_
    refine xe_imul (by decide +kernel) rfl ?_
    refine xe_ldn (ins := .iload 5) (len := 2) (by decide +kernel) rfl rfl rfl rfl ?_
    refine xe_iadd (by decide +kernel) rfl ?_
    obtain ⟨v129, e130, h⟩ := xbnd h
    refine xs_lald (by decide +kernel) (xin_wr _) e130 rfl ?_
    refine xe_lsr (ins := .lstore 7) (len := 2) (i := 7) (by decide +kernel) rfl rfl rfl (by decide) (xk2_k (show ¬ (6 : Nat) = 7 by decide) (show ¬ (6 : Nat) = 7 + 1 by decide) (Or.inr (xI_cat _)) (xk2_k (show ¬ (0 : Nat) = 7 by decide) (show ¬ (0 : Nat) = 7 + 1 by decide) (Or.inl (show ¬ (0 + 1 : Nat) = 7 by decide)) (xk2_k (show ¬ (1 : Nat) = 7 by decide) (show ¬ (1 : Nat) = 7 + 1 by decide) (Or.inl (show ¬ (1 + 1 : Nat) = 7 by decide)) (xk2_k (show ¬ (2 : Nat) = 7 by decide) (show ¬ (2 : Nat) = 7 + 1 by decide) (Or.inl (show ¬ (2 + 1 : Nat) = 7 by decide)) (xk2_k (show ¬ (3 : Nat) = 7 by decide) (show ¬ (3 : Nat) = 7 + 1 by decide) (Or.inl (show ¬ (3 + 1 : Nat) = 7 by decide)) (xk2_k (show ¬ (4 : Nat) = 7 by decide) (show ¬ (4 : Nat) = 7 + 1 by decide) (Or.inl (show ¬ (4 + 1 : Nat) = 7 by decide)) (xk2_k (show ¬ (5 : Nat) = 7 by decide) (show ¬ (5 : Nat) = 7 + 1 by decide) (Or.inl (show ¬ (5 + 1 : Nat) = 7 by decide)) xk2_n))))))) rfl ?_
    refine xe_alr (ins := .aload_n 2) (len := 1) (i := 2) (by decide +kernel) rfl rfl rfl rfl rfl ?_
    refine xe_ldn (ins := .iload_n 3) (len := 1) (by decide +kernel) rfl rfl rfl rfl ?_
    refine xe_ldn (ins := .iload 5) (len := 2) (by decide +kernel) rfl rfl rfl rfl ?_
    obtain ⟨_, e132, h⟩ := xbnd h
    obtain ⟨R133, e131, h⟩ := xbnd h
    refine xs_cv (i := 127) (j := 70) (ar := [xI (x5), xI (x3)]) (rest := []) (r2 := xr_70) (by decide +kernel) (by decide +kernel) (by decide +kernel) xr_70_e rfl (by decide) (by decide) e132 ?_
    refine xc_l (k70 (d := d + 0)  hx3 hx5 e131) rfl (fun hi134 => ?_)
    refine xe_lsr (ins := .lstore 9) (len := 2) (i := 9) (by decide +kernel) rfl rfl rfl (by decide) (xk2_k (show ¬ (7 : Nat) = 9 by decide) (show ¬ (7 : Nat) = 9 + 1 by decide) (Or.inl (show ¬ (7 + 1 : Nat) = 9 by decide)) (xk2_k (show ¬ (6 : Nat) = 9 by decide) (show ¬ (6 : Nat) = 9 + 1 by decide) (Or.inl (show ¬ (6 + 1 : Nat) = 9 by decide)) (xk2_k (show ¬ (0 : Nat) = 9 by decide) (show ¬ (0 : Nat) = 9 + 1 by decide) (Or.inl (show ¬ (0 + 1 : Nat) = 9 by decide)) (xk2_k (show ¬ (1 : Nat) = 9 by decide) (show ¬ (1 : Nat) = 9 + 1 by decide) (Or.inl (show ¬ (1 + 1 : Nat) = 9 by decide)) (xk2_k (show ¬ (2 : Nat) = 9 by decide) (show ¬ (2 : Nat) = 9 + 1 by decide) (Or.inl (show ¬ (2 + 1 : Nat) = 9 by decide)) (xk2_k (show ¬ (3 : Nat) = 9 by decide) (show ¬ (3 : Nat) = 9 + 1 by decide) (Or.inl (show ¬ (3 + 1 : Nat) = 9 by decide)) (xk2_k (show ¬ (4 : Nat) = 9 by decide) (show ¬ (4 : Nat) = 9 + 1 by decide) (Or.inl (show ¬ (4 + 1 : Nat) = 9 by decide)) (xk2_k (show ¬ (5 : Nat) = 9 by decide) (show ¬ (5 : Nat) = 9 + 1 by decide) (Or.inl (show ¬ (5 + 1 : Nat) = 9 by decide)) xk2_n)))))))) rfl ?_
    refine xe_ldn (ins := .iload 6) (len := 2) (by decide +kernel) rfl rfl rfl rfl ?_
    refine xe_iconst (n := 4) (by decide +kernel) rfl ?_
    refine xe_icmpne (off := 13) (t := 117) (by decide +kernel) (by decide) rfl (xq_ai_in e124) (show xin (4) by decide) (fun c135 => ?_) (fun c135 => ?_)
    · rw [if_pos c135] at h
      refine xW_lv rfl (l := [(0, xR_ (x0)), (1, xI (x1)), (2, xR_ (x2)), (3, xI (x3)), (4, xI (x4)), (5, xI (x5)), (6, xI (v123)), (7, xZ (v129)), (9, xZ (R133.1))]) (xsb_of ⟨rfl, rfl, rfl, rfl, rfl, rfl, rfl, rfl, rfl, trivial⟩ (show [9, 7, 6, 0, 1, 2, 3, 4, 5].Nodup by decide)) ?_
      exact k136_117  hr46 hx1 hx3 hx4 hx5 (xq_ai_in e124) (xq_al_in e130) hi134 h
    · rw [if_neg c135] at h
      refine xe_ldn (ins := .lload 7) (len := 2) (by decide +kernel) rfl rfl rfl rfl ?_
      refine xe_ldn (ins := .lload 9) (len := 2) (by decide +kernel) rfl rfl rfl rfl ?_
      refine xe_lcmp (by decide +kernel) rfl (xq_al_in e130) hi134 ?_
      refine xe_ifeq (off := 5) (t := 117) (by decide +kernel) (by decide) rfl (xin_cmp8 _ _) (fun c136 => ?_) (fun c136 => ?_)
      · have c136 := xcmp8_eq.mp c136; rw [if_pos c136] at h
        refine xW_lv rfl (l := [(0, xR_ (x0)), (1, xI (x1)), (2, xR_ (x2)), (3, xI (x3)), (4, xI (x4)), (5, xI (x5)), (6, xI (v123)), (7, xZ (v129)), (9, xZ (R133.1))]) (xsb_of ⟨rfl, rfl, rfl, rfl, rfl, rfl, rfl, rfl, rfl, trivial⟩ (show [9, 7, 6, 0, 1, 2, 3, 4, 5].Nodup by decide)) ?_
        exact k136_117  hr46 hx1 hx3 hx4 hx5 (xq_ai_in e124) (xq_al_in e130) hi134 h
      · have c136 := (not_congr xcmp8_eq).mp c136; rw [if_neg c136] at h
        refine xe_iconst (n := -1) (by decide +kernel) rfl ?_
        cases h
        exact xe_ret_i (ty := .int) (by decide +kernel) rfl rfl ⟨rfl, rfl, (show xin (-1) by decide)⟩
def f136_46   (f : Nat) : Nat → Nat → Int → Nat → Int → Int → Int → xj_M → Option (Int × xj_M)
  | 0, _, _, _, _, _, _, _ => none
  | n + 1, x0, x1, x2, x3, x4, x5, M => f136_46b   (f136_46   f n) f x0 x1 x2 x3 x4 x5 M
theorem k136_46 {d f : Nat}     : ∀ {n : Nat} {x0 : Nat} {x1 : Int} {x2 : Nat} {x3 : Int} {x4 : Int} {x5 : Int} {M : xj_M} {R : Int × xj_M}, xin x1 → xin x3 → xin x4 → xin x5 → f136_46   f n x0 x1 x2 x3 x4 x5 M = some R → xW (d + 1) (none, d + 1, none) xr_136 (46, [(0, xR_ x0), (1, xI x1), (2, xR_ x2), (3, xI x3), (4, xI x4), (5, xI x5)], [], M) (xQi R) := by
  intro n
  induction n with
  | zero => intros; rename_i h; cases h
  | succ n ih => intros; rename_i h; exact k136_46b   ih (by assumption) (by assumption) (by assumption) (by assumption) h
def f136  (f : Nat) (a0 : Nat) (a1 : Int) (a2 : Nat) (a3 : Int) (M : xj_M) : Option (Int × xj_M) := ((xq_gr 9 8 (a0) M).bind fun v137 => ((xq_gi 9 6 (a0) M).bind fun v139 => ((xq_ai 3 (v137) (v139) M).bind fun v141 => ((xq_gr 5 3 (a2) M).bind fun v143 => ((xq_ai 3 (v143) (a3) M).bind fun v145 => ((xq_gr 9 1 (a0) M).bind fun v147 => ((xq_ai 3 (v147) (a1) M).bind fun v149 => (if (v145) < (v149) then f136_41   f  M else ((xq_gr 5 3 (a2) M).bind fun v152 => ((xq_ai 3 (v152) (a3) M).bind fun v154 => ((xq_gr 9 2 (a0) M).bind fun v156 => ((xq_ai 3 (v156) (a1) M).bind fun v158 => (if (v154) ≤ (v158) then f136_46   f f (a0) (a1) (a2) (a3) (v141) (0) M else f136_41   f  M)))))))))))))
theorem k136 {d f : Nat}   {a0 : Nat} {a1 : Int} {a2 : Nat} {a3 : Int} {M : xj_M} {R : Int × xj_M} (ha1 : xin a1) (ha3 : xin a3) (h : f136  f a0 a1 a2 a3 M = some R) : xT (d + 2) 136 [xR_ a0, xI a1, xR_ a2, xI a3] M (xQi R) := by
  refine xT_m xr_136_e (X := (none, d + 1, none)) rfl (xa_1 (xR_cat _) (xa_1 (xI_cat _) (xa_1 (xR_cat _) (xa_1 (xI_cat _) xa_n)))) (by decide) ?_
  unfold f136 at h
  refine xe_alr (ins := .aload_n 0) (len := 1) (i := 0) (by decide +kernel) rfl rfl rfl rfl rfl ?_
  obtain ⟨v137, e138, h⟩ := xbnd h
  refine xs_gr (i := 22) (c := 9) (k := 8) (by decide +kernel) (by decide) (by decide +kernel) e138 rfl ?_
  refine xe_alr (ins := .aload_n 0) (len := 1) (i := 0) (by decide +kernel) rfl rfl rfl rfl rfl ?_
  obtain ⟨v139, e140, h⟩ := xbnd h
  refine xs_gi (i := 52) (c := 9) (k := 6) (by decide +kernel) (by decide) (by decide +kernel) e140 rfl ?_
  obtain ⟨v141, e142, h⟩ := xbnd h
  refine xs_iald rfl (by decide +kernel) (xq_gi_in e140) e142 rfl ?_
  refine xe_isr (ins := .istore 4) (len := 2) (i := 4) (by decide +kernel) rfl rfl rfl (by decide) (xk_k (show ¬ (0 : Nat) = 4 by decide) (Or.inl (show ¬ (0 + 1 : Nat) = 4 by decide)) (xk_k (show ¬ (1 : Nat) = 4 by decide) (Or.inl (show ¬ (1 + 1 : Nat) = 4 by decide)) (xk_k (show ¬ (2 : Nat) = 4 by decide) (Or.inl (show ¬ (2 + 1 : Nat) = 4 by decide)) (xk_k (show ¬ (3 : Nat) = 4 by decide) (Or.inr (xI_cat _)) xk_n)))) rfl ?_
  refine xe_alr (ins := .aload_n 2) (len := 1) (i := 2) (by decide +kernel) rfl rfl rfl rfl rfl ?_
  obtain ⟨v143, e144, h⟩ := xbnd h
  refine xs_gr (i := 124) (c := 5) (k := 3) (by decide +kernel) (by decide) (by decide +kernel) e144 rfl ?_
  refine xe_ldn (ins := .iload_n 3) (len := 1) (by decide +kernel) rfl rfl rfl rfl ?_
  obtain ⟨v145, e146, h⟩ := xbnd h
  refine xs_iald rfl (by decide +kernel) ha3 e146 rfl ?_
  refine xe_alr (ins := .aload_n 0) (len := 1) (i := 0) (by decide +kernel) rfl rfl rfl rfl rfl ?_
  obtain ⟨v147, e148, h⟩ := xbnd h
  refine xs_gr (i := 15) (c := 9) (k := 1) (by decide +kernel) (by decide) (by decide +kernel) e148 rfl ?_
  refine xe_ldn (ins := .iload_n 1) (len := 1) (by decide +kernel) rfl rfl rfl rfl ?_
  obtain ⟨v149, e150, h⟩ := xbnd h
  refine xs_iald rfl (by decide +kernel) ha1 e150 rfl ?_
  refine xe_icmplt (off := 18) (t := 41) (by decide +kernel) (by decide) rfl (xq_ai_in e146) (xq_ai_in e150) (fun c151 => ?_) (fun c151 => ?_)
  · rw [if_pos c151] at h
    refine xW_lv rfl (l := []) (xsb_of trivial (show [4, 0, 1, 2, 3].Nodup by decide)) ?_
    exact k136_41    h
  · rw [if_neg c151] at h
    refine xe_alr (ins := .aload_n 2) (len := 1) (i := 2) (by decide +kernel) rfl rfl rfl rfl rfl ?_
    obtain ⟨v152, e153, h⟩ := xbnd h
    refine xs_gr (i := 124) (c := 5) (k := 3) (by decide +kernel) (by decide) (by decide +kernel) e153 rfl ?_
    refine xe_ldn (ins := .iload_n 3) (len := 1) (by decide +kernel) rfl rfl rfl rfl ?_
    obtain ⟨v154, e155, h⟩ := xbnd h
    refine xs_iald rfl (by decide +kernel) ha3 e155 rfl ?_
    refine xe_alr (ins := .aload_n 0) (len := 1) (i := 0) (by decide +kernel) rfl rfl rfl rfl rfl ?_
    obtain ⟨v156, e157, h⟩ := xbnd h
    refine xs_gr (i := 19) (c := 9) (k := 2) (by decide +kernel) (by decide) (by decide +kernel) e157 rfl ?_
    refine xe_ldn (ins := .iload_n 1) (len := 1) (by decide +kernel) rfl rfl rfl rfl ?_
    obtain ⟨v158, e159, h⟩ := xbnd h
    refine xs_iald rfl (by decide +kernel) ha1 e159 rfl ?_
    refine xe_icmple (off := 5) (t := 43) (by decide +kernel) (by decide) rfl (xq_ai_in e155) (xq_ai_in e159) (fun c160 => ?_) (fun c160 => ?_)
    · rw [if_pos c160] at h
      refine xe_iconst (n := 0) (by decide +kernel) rfl ?_
      refine xe_isr (ins := .istore 5) (len := 2) (i := 5) (by decide +kernel) rfl rfl rfl (by decide) (xk_k (show ¬ (4 : Nat) = 5 by decide) (Or.inr (xI_cat _)) (xk_k (show ¬ (0 : Nat) = 5 by decide) (Or.inl (show ¬ (0 + 1 : Nat) = 5 by decide)) (xk_k (show ¬ (1 : Nat) = 5 by decide) (Or.inl (show ¬ (1 + 1 : Nat) = 5 by decide)) (xk_k (show ¬ (2 : Nat) = 5 by decide) (Or.inl (show ¬ (2 + 1 : Nat) = 5 by decide)) (xk_k (show ¬ (3 : Nat) = 5 by decide) (Or.inl (show ¬ (3 + 1 : Nat) = 5 by decide)) xk_n))))) rfl ?_
      refine xW_lv rfl (l := [(0, xR_ (a0)), (1, xI (a1)), (2, xR_ (a2)), (3, xI (a3)), (4, xI (v141)), (5, xI (0))]) (xsb_of ⟨rfl, rfl, rfl, rfl, rfl, rfl, trivial⟩ (show [5, 4, 0, 1, 2, 3].Nodup by decide)) ?_
      exact k136_46   ha1 ha3 (xq_ai_in e142) (show xin (0) by decide) h
    · rw [if_neg c160] at h
      refine xW_lv rfl (l := []) (xsb_of trivial (show [4, 0, 1, 2, 3].Nodup by decide)) ?_
      exact k136_41    h
-- ChangeHouse$Ways.isRepeated
def xr_137 : xj_mR := (9, yX9_isRepeated, cX9_isRepeated, 8, (Option.some Jvm.ClassFile.FieldType.boolean), 3, false, (6, 201), (1, 4))
set_option maxRecDepth 20000 in
theorem xr_137_e : xj_row 137 = some xr_137 := rfl
def f137_45  (r6 : Nat → Int → Nat → Int → Int → Int → xj_M → Option (Int × xj_M)) (f : Nat) (x0 : Nat) (x1 : Int) (x2 : Nat) (x3 : Int) (x5 : Int) (y0 : Int) (y1 : Int) (M : xj_M) : Option (Int × xj_M) := r6 (x0) (x1) (x2) (x3) (xor_ (y1) (y0)) (xwr ((x5) + (1))) M
theorem k137_45 {d f : Nat}  {r6 : Nat → Int → Nat → Int → Int → Int → xj_M → Option (Int × xj_M)}  (hr6 : ∀ {x0 : Nat} {x1 : Int} {x2 : Nat} {x3 : Int} {x4 : Int} {x5 : Int} {M : xj_M} {R : Int × xj_M}, xin x1 → xin x3 → xin x4 → xin x5 → r6 x0 x1 x2 x3 x4 x5 M = some R → xW (d + 1) (none, d + 1, none) xr_137 (6, [(0, xR_ x0), (1, xI x1), (2, xR_ x2), (3, xI x3), (4, xI x4), (5, xI x5)], [], M) (xQi R)) {x0 : Nat} {x1 : Int} {x2 : Nat} {x3 : Int} {x5 : Int} {y0 : Int} {y1 : Int} {M : xj_M} {R : Int × xj_M} (hx1 : xin x1) (hx3 : xin x3) (hx5 : xin x5) (hy0 : xin y0) (hy1 : xin y1) (h : f137_45  r6 f x0 x1 x2 x3 x5 y0 y1 M = some R) : xW (d + 1) (none, d + 1, none) xr_137 (45, [(0, xR_ x0), (1, xI x1), (2, xR_ x2), (3, xI x3), (5, xI x5)], [xI y0, xI y1], M) (xQi R) := by
  unfold f137_45 at h
  refine xe_ior (by decide +kernel) rfl ?_
  refine xe_isr (ins := .istore 4) (len := 2) (i := 4) (by decide +kernel) rfl rfl rfl (by decide) (xk_k (show ¬ (0 : Nat) = 4 by decide) (Or.inl (show ¬ (0 + 1 : Nat) = 4 by decide)) (xk_k (show ¬ (1 : Nat) = 4 by decide) (Or.inl (show ¬ (1 + 1 : Nat) = 4 by decide)) (xk_k (show ¬ (2 : Nat) = 4 by decide) (Or.inl (show ¬ (2 + 1 : Nat) = 4 by decide)) (xk_k (show ¬ (3 : Nat) = 4 by decide) (Or.inr (xI_cat _)) (xk_k (show ¬ (5 : Nat) = 4 by decide) (Or.inl (show ¬ (5 + 1 : Nat) = 4 by decide)) xk_n))))) rfl ?_
  refine xe_iincr (i := 5) (n := 1) (by decide +kernel) (by decide) rfl (xk_k (show ¬ (4 : Nat) = 5 by decide) (Or.inr (xI_cat _)) (xk_k (show ¬ (0 : Nat) = 5 by decide) (Or.inl (show ¬ (0 + 1 : Nat) = 5 by decide)) (xk_k (show ¬ (1 : Nat) = 5 by decide) (Or.inl (show ¬ (1 + 1 : Nat) = 5 by decide)) (xk_k (show ¬ (2 : Nat) = 5 by decide) (Or.inl (show ¬ (2 + 1 : Nat) = 5 by decide)) (xk_k (show ¬ (3 : Nat) = 5 by decide) (Or.inl (show ¬ (3 + 1 : Nat) = 5 by decide)) (xk_d rfl xk_n)))))) rfl ?_
  refine xe_goto (off := -45) (nx := 6) (by decide +kernel) (by decide) ?_
  refine xW_lv rfl (l := [(0, xR_ (x0)), (1, xI (x1)), (2, xR_ (x2)), (3, xI (x3)), (4, xI (xor_ (y1) (y0))), (5, xI (xwr ((x5) + (1))))]) (xsb_of ⟨rfl, rfl, rfl, rfl, rfl, rfl, trivial⟩ (show [5, 4, 0, 1, 2, 3].Nodup by decide)) ?_
  exact hr6 hx1 hx3 (xin_of _) (xin_wr _) h
def f137_181  (r59 : Nat → Int → Nat → Int → Int → Int → xj_M → Option (Int × xj_M)) (r120 : Nat → Int → Nat → Int → Int → Int → Int → Int → xj_M → Option (Int × xj_M)) (f : Nat) (x0 : Nat) (x1 : Int) (x2 : Nat) (x3 : Int) (x4 : Int) (x5 : Int) (x7 : Int) (y0 : Int) (M : xj_M) : Option (Int × xj_M) := r120 (x0) (x1) (x2) (x3) (x4) (x5) (y0) (xwr ((x7) + (1))) M
theorem k137_181 {d f : Nat}  {r59 : Nat → Int → Nat → Int → Int → Int → xj_M → Option (Int × xj_M)} {r120 : Nat → Int → Nat → Int → Int → Int → Int → Int → xj_M → Option (Int × xj_M)}  (hr59 : ∀ {x0 : Nat} {x1 : Int} {x2 : Nat} {x3 : Int} {x4 : Int} {x5 : Int} {M : xj_M} {R : Int × xj_M}, xin x1 → xin x3 → xin x4 → xin x5 → r59 x0 x1 x2 x3 x4 x5 M = some R → xW (d + 1) (none, d + 1, none) xr_137 (59, [(0, xR_ x0), (1, xI x1), (2, xR_ x2), (3, xI x3), (4, xI x4), (5, xI x5)], [], M) (xQi R)) (hr120 : ∀ {x0 : Nat} {x1 : Int} {x2 : Nat} {x3 : Int} {x4 : Int} {x5 : Int} {x6 : Int} {x7 : Int} {M : xj_M} {R : Int × xj_M}, xin x1 → xin x3 → xin x4 → xin x5 → xin x6 → xin x7 → r120 x0 x1 x2 x3 x4 x5 x6 x7 M = some R → xW (d + 1) (none, d + 1, none) xr_137 (120, [(0, xR_ x0), (1, xI x1), (2, xR_ x2), (3, xI x3), (4, xI x4), (5, xI x5), (6, xI x6), (7, xI x7)], [], M) (xQi R)) {x0 : Nat} {x1 : Int} {x2 : Nat} {x3 : Int} {x4 : Int} {x5 : Int} {x7 : Int} {y0 : Int} {M : xj_M} {R : Int × xj_M} (hx1 : xin x1) (hx3 : xin x3) (hx4 : xin x4) (hx5 : xin x5) (hx7 : xin x7) (hy0 : xin y0) (h : f137_181  r59 r120 f x0 x1 x2 x3 x4 x5 x7 y0 M = some R) : xW (d + 1) (none, d + 1, none) xr_137 (181, [(0, xR_ x0), (1, xI x1), (2, xR_ x2), (3, xI x3), (4, xI x4), (5, xI x5), (7, xI x7)], [xI y0], M) (xQi R) := by
  unfold f137_181 at h
  refine xe_isr (ins := .istore 6) (len := 2) (i := 6) (by decide +kernel) rfl rfl rfl (by decide) (xk_k (show ¬ (0 : Nat) = 6 by decide) (Or.inl (show ¬ (0 + 1 : Nat) = 6 by decide)) (xk_k (show ¬ (1 : Nat) = 6 by decide) (Or.inl (show ¬ (1 + 1 : Nat) = 6 by decide)) (xk_k (show ¬ (2 : Nat) = 6 by decide) (Or.inl (show ¬ (2 + 1 : Nat) = 6 by decide)) (xk_k (show ¬ (3 : Nat) = 6 by decide) (Or.inl (show ¬ (3 + 1 : Nat) = 6 by decide)) (xk_k (show ¬ (4 : Nat) = 6 by decide) (Or.inl (show ¬ (4 + 1 : Nat) = 6 by decide)) (xk_k (show ¬ (5 : Nat) = 6 by decide) (Or.inr (xI_cat _)) (xk_k (show ¬ (7 : Nat) = 6 by decide) (Or.inl (show ¬ (7 + 1 : Nat) = 6 by decide)) xk_n))))))) rfl ?_
  refine xe_iincr (i := 7) (n := 1) (by decide +kernel) (by decide) rfl (xk_k (show ¬ (6 : Nat) = 7 by decide) (Or.inr (xI_cat _)) (xk_k (show ¬ (0 : Nat) = 7 by decide) (Or.inl (show ¬ (0 + 1 : Nat) = 7 by decide)) (xk_k (show ¬ (1 : Nat) = 7 by decide) (Or.inl (show ¬ (1 + 1 : Nat) = 7 by decide)) (xk_k (show ¬ (2 : Nat) = 7 by decide) (Or.inl (show ¬ (2 + 1 : Nat) = 7 by decide)) (xk_k (show ¬ (3 : Nat) = 7 by decide) (Or.inl (show ¬ (3 + 1 : Nat) = 7 by decide)) (xk_k (show ¬ (4 : Nat) = 7 by decide) (Or.inl (show ¬ (4 + 1 : Nat) = 7 by decide)) (xk_k (show ¬ (5 : Nat) = 7 by decide) (Or.inl (show ¬ (5 + 1 : Nat) = 7 by decide)) (xk_d rfl xk_n)))))))) rfl ?_
  refine xe_goto (off := -66) (nx := 120) (by decide +kernel) (by decide) ?_
  refine xW_lv rfl (l := [(0, xR_ (x0)), (1, xI (x1)), (2, xR_ (x2)), (3, xI (x3)), (4, xI (x4)), (5, xI (x5)), (6, xI (y0)), (7, xI (xwr ((x7) + (1))))]) (xsb_of ⟨rfl, rfl, rfl, rfl, rfl, rfl, rfl, rfl, trivial⟩ (show [7, 6, 0, 1, 2, 3, 4, 5].Nodup by decide)) ?_
  exact hr120 hx1 hx3 hx4 hx5 hy0 (xin_wr _) h
def f137_176  (r59 : Nat → Int → Nat → Int → Int → Int → xj_M → Option (Int × xj_M)) (r120 : Nat → Int → Nat → Int → Int → Int → Int → Int → xj_M → Option (Int × xj_M)) (f : Nat) (x0 : Nat) (x1 : Int) (x2 : Nat) (x3 : Int) (x4 : Int) (x5 : Int) (x7 : Int) (M : xj_M) : Option (Int × xj_M) := f137_181  r59 r120 f (x0) (x1) (x2) (x3) (x4) (x5) (x7) (1) M
theorem k137_176 {d f : Nat}  {r59 : Nat → Int → Nat → Int → Int → Int → xj_M → Option (Int × xj_M)} {r120 : Nat → Int → Nat → Int → Int → Int → Int → Int → xj_M → Option (Int × xj_M)}  (hr59 : ∀ {x0 : Nat} {x1 : Int} {x2 : Nat} {x3 : Int} {x4 : Int} {x5 : Int} {M : xj_M} {R : Int × xj_M}, xin x1 → xin x3 → xin x4 → xin x5 → r59 x0 x1 x2 x3 x4 x5 M = some R → xW (d + 1) (none, d + 1, none) xr_137 (59, [(0, xR_ x0), (1, xI x1), (2, xR_ x2), (3, xI x3), (4, xI x4), (5, xI x5)], [], M) (xQi R)) (hr120 : ∀ {x0 : Nat} {x1 : Int} {x2 : Nat} {x3 : Int} {x4 : Int} {x5 : Int} {x6 : Int} {x7 : Int} {M : xj_M} {R : Int × xj_M}, xin x1 → xin x3 → xin x4 → xin x5 → xin x6 → xin x7 → r120 x0 x1 x2 x3 x4 x5 x6 x7 M = some R → xW (d + 1) (none, d + 1, none) xr_137 (120, [(0, xR_ x0), (1, xI x1), (2, xR_ x2), (3, xI x3), (4, xI x4), (5, xI x5), (6, xI x6), (7, xI x7)], [], M) (xQi R)) {x0 : Nat} {x1 : Int} {x2 : Nat} {x3 : Int} {x4 : Int} {x5 : Int} {x7 : Int} {M : xj_M} {R : Int × xj_M} (hx1 : xin x1) (hx3 : xin x3) (hx4 : xin x4) (hx5 : xin x5) (hx7 : xin x7) (h : f137_176  r59 r120 f x0 x1 x2 x3 x4 x5 x7 M = some R) : xW (d + 1) (none, d + 1, none) xr_137 (176, [(0, xR_ x0), (1, xI x1), (2, xR_ x2), (3, xI x3), (4, xI x4), (5, xI x5), (7, xI x7)], [], M) (xQi R) := by
  unfold f137_176 at h
  refine xe_iconst (n := 1) (by decide +kernel) rfl ?_
  refine xe_goto (off := 4) (nx := 181) (by decide +kernel) (by decide) ?_
  refine xW_lv rfl (l := [(0, xR_ (x0)), (1, xI (x1)), (2, xR_ (x2)), (3, xI (x3)), (4, xI (x4)), (5, xI (x5)), (7, xI (x7))]) (xsb_of ⟨rfl, rfl, rfl, rfl, rfl, rfl, rfl, trivial⟩ (show [0, 1, 2, 3, 4, 5, 7].Nodup by decide)) ?_
  exact k137_181  hr59 hr120 hx1 hx3 hx4 hx5 hx7 (show xin (1) by decide) h
def f137_189  (r59 : Nat → Int → Nat → Int → Int → Int → xj_M → Option (Int × xj_M)) (f : Nat) (x0 : Nat) (x1 : Int) (x2 : Nat) (x3 : Int) (x4 : Int) (x5 : Int) (x6 : Int) (M : xj_M) : Option (Int × xj_M) := (if (x6) = 0 then r59 (x0) (x1) (x2) (x3) (x4) (xwr ((x5) + (-1))) M else (some (1, M)))
theorem k137_189 {d f : Nat}  {r59 : Nat → Int → Nat → Int → Int → Int → xj_M → Option (Int × xj_M)}  (hr59 : ∀ {x0 : Nat} {x1 : Int} {x2 : Nat} {x3 : Int} {x4 : Int} {x5 : Int} {M : xj_M} {R : Int × xj_M}, xin x1 → xin x3 → xin x4 → xin x5 → r59 x0 x1 x2 x3 x4 x5 M = some R → xW (d + 1) (none, d + 1, none) xr_137 (59, [(0, xR_ x0), (1, xI x1), (2, xR_ x2), (3, xI x3), (4, xI x4), (5, xI x5)], [], M) (xQi R)) {x0 : Nat} {x1 : Int} {x2 : Nat} {x3 : Int} {x4 : Int} {x5 : Int} {x6 : Int} {M : xj_M} {R : Int × xj_M} (hx1 : xin x1) (hx3 : xin x3) (hx4 : xin x4) (hx5 : xin x5) (hx6 : xin x6) (h : f137_189  r59 f x0 x1 x2 x3 x4 x5 x6 M = some R) : xW (d + 1) (none, d + 1, none) xr_137 (189, [(0, xR_ x0), (1, xI x1), (2, xR_ x2), (3, xI x3), (4, xI x4), (5, xI x5), (6, xI x6)], [], M) (xQi R) := by
  unfold f137_189 at h
  refine xe_ldn (ins := .iload 6) (len := 2) (by decide +kernel) rfl rfl rfl rfl ?_
  refine xe_ifeq (off := 5) (t := 196) (by decide +kernel) (by decide) rfl hx6 (fun c101 => ?_) (fun c101 => ?_)
  · rw [if_pos c101] at h
    refine xe_iincr (i := 5) (n := -1) (by decide +kernel) (by decide) rfl (xk_k (show ¬ (0 : Nat) = 5 by decide) (Or.inl (show ¬ (0 + 1 : Nat) = 5 by decide)) (xk_k (show ¬ (1 : Nat) = 5 by decide) (Or.inl (show ¬ (1 + 1 : Nat) = 5 by decide)) (xk_k (show ¬ (2 : Nat) = 5 by decide) (Or.inl (show ¬ (2 + 1 : Nat) = 5 by decide)) (xk_k (show ¬ (3 : Nat) = 5 by decide) (Or.inl (show ¬ (3 + 1 : Nat) = 5 by decide)) (xk_k (show ¬ (4 : Nat) = 5 by decide) (Or.inr (xI_cat _)) (xk_d rfl (xk_k (show ¬ (6 : Nat) = 5 by decide) (Or.inl (show ¬ (6 + 1 : Nat) = 5 by decide)) xk_n))))))) rfl ?_
    refine xe_goto (off := -140) (nx := 59) (by decide +kernel) (by decide) ?_
    refine xW_lv rfl (l := [(0, xR_ (x0)), (1, xI (x1)), (2, xR_ (x2)), (3, xI (x3)), (4, xI (x4)), (5, xI (xwr ((x5) + (-1))))]) (xsb_of ⟨rfl, rfl, rfl, rfl, rfl, rfl, trivial⟩ (show [5, 0, 1, 2, 3, 4, 6].Nodup by decide)) ?_
    exact hr59 hx1 hx3 hx4 (xin_wr _) h
  · rw [if_neg c101] at h
    refine xe_iconst (n := 1) (by decide +kernel) rfl ?_
    cases h
    exact xe_ret_i (ty := .boolean) (by decide +kernel) rfl (by decide) ⟨rfl, rfl, (show xin (1) by decide)⟩
def f137_120b  (r59 : Nat → Int → Nat → Int → Int → Int → xj_M → Option (Int × xj_M)) (r120 : Nat → Int → Nat → Int → Int → Int → Int → Int → xj_M → Option (Int × xj_M)) (f : Nat) (x0 : Nat) (x1 : Int) (x2 : Nat) (x3 : Int) (x4 : Int) (x5 : Int) (x6 : Int) (x7 : Int) (M : xj_M) : Option (Int × xj_M) := (if (x6) = 0 then f137_189  r59 f (x0) (x1) (x2) (x3) (x4) (x5) (x6) M else ((xq_gr 9 3 (x0) M).bind fun v103 => ((xq_gr 6 11 (v103) M).bind fun v105 => ((xq_ai 3 (v105) (x1) M).bind fun v107 => (if (v107) ≤ (x7) then f137_189  r59 f (x0) (x1) (x2) (x3) (x4) (x5) (x6) M else ((xq_gr 9 3 (x0) M).bind fun v110 => ((xq_gr 6 12 (v110) M).bind fun v112 => ((xq_ai 3 (v112) (xwr ((xwr ((4) * (x1))) + (x7))) M).bind fun v114 => (if (v114) = (3) then f137_176  r59 r120 f (x0) (x1) (x2) (x3) (x4) (x5) (x7) M else ((xq_is 5 (x2) M).bind fun _ => ((f70  f (x2) (x3) (x7) M).bind fun R119 => ((xq_is 5 (x2) R119.2).bind fun _ => ((f70  f (x2) (x5) (x7) R119.2).bind fun R123 => (if ¬ (R119.1) = (R123.1) then f137_181  r59 r120 f (x0) (x1) (x2) (x3) (x4) (x5) (x7) (0) R123.2 else f137_176  r59 r120 f (x0) (x1) (x2) (x3) (x4) (x5) (x7) R123.2))))))))))))))
theorem k137_120b {d f : Nat}  {r59 : Nat → Int → Nat → Int → Int → Int → xj_M → Option (Int × xj_M)} {r120 : Nat → Int → Nat → Int → Int → Int → Int → Int → xj_M → Option (Int × xj_M)}  (hr59 : ∀ {x0 : Nat} {x1 : Int} {x2 : Nat} {x3 : Int} {x4 : Int} {x5 : Int} {M : xj_M} {R : Int × xj_M}, xin x1 → xin x3 → xin x4 → xin x5 → r59 x0 x1 x2 x3 x4 x5 M = some R → xW (d + 1) (none, d + 1, none) xr_137 (59, [(0, xR_ x0), (1, xI x1), (2, xR_ x2), (3, xI x3), (4, xI x4), (5, xI x5)], [], M) (xQi R)) (hr120 : ∀ {x0 : Nat} {x1 : Int} {x2 : Nat} {x3 : Int} {x4 : Int} {x5 : Int} {x6 : Int} {x7 : Int} {M : xj_M} {R : Int × xj_M}, xin x1 → xin x3 → xin x4 → xin x5 → xin x6 → xin x7 → r120 x0 x1 x2 x3 x4 x5 x6 x7 M = some R → xW (d + 1) (none, d + 1, none) xr_137 (120, [(0, xR_ x0), (1, xI x1), (2, xR_ x2), (3, xI x3), (4, xI x4), (5, xI x5), (6, xI x6), (7, xI x7)], [], M) (xQi R)) {x0 : Nat} {x1 : Int} {x2 : Nat} {x3 : Int} {x4 : Int} {x5 : Int} {x6 : Int} {x7 : Int} {M : xj_M} {R : Int × xj_M} (hx1 : xin x1) (hx3 : xin x3) (hx4 : xin x4) (hx5 : xin x5) (hx6 : xin x6) (hx7 : xin x7) (h : f137_120b  r59 r120 f x0 x1 x2 x3 x4 x5 x6 x7 M = some R) : xW (d + 1) (none, d + 1, none) xr_137 (120, [(0, xR_ x0), (1, xI x1), (2, xR_ x2), (3, xI x3), (4, xI x4), (5, xI x5), (6, xI x6), (7, xI x7)], [], M) (xQi R) := by
  unfold f137_120b at h
  refine xe_ldn (ins := .iload 6) (len := 2) (by decide +kernel) rfl rfl rfl rfl ?_
  refine xe_ifeq (off := 67) (t := 189) (by decide +kernel) (by decide) rfl hx6 (fun c102 => ?_) (fun c102 => ?_)
  · rw [if_pos c102] at h
    refine xW_lv rfl (l := [(0, xR_ (x0)), (1, xI (x1)), (2, xR_ (x2)), (3, xI (x3)), (4, xI (x4)), (5, xI (x5)), (6, xI (x6))]) (xsb_of ⟨rfl, rfl, rfl, rfl, rfl, rfl, rfl, trivial⟩ (show [0, 1, 2, 3, 4, 5, 6, 7].Nodup by decide)) ?_
    exact k137_189  hr59 hx1 hx3 hx4 hx5 hx6 h
  · rw [if_neg c102] at h
    refine xe_ldn (ins := .iload 7) (len := 2) (by decide +kernel) rfl rfl rfl rfl ?_
    refine xe_alr (ins := .aload_n 0) (len := 1) (i := 0) (by decide +kernel) rfl rfl rfl rfl rfl ?_
    obtain ⟨v103, e104, h⟩ := xbnd h
    refine xs_gr (i := 40) (c := 9) (k := 3) (by decide +kernel) (by decide) (by decide +kernel) e104 rfl ?_
    obtain ⟨v105, e106, h⟩ := xbnd h
    refine xs_gr (i := 98) (c := 6) (k := 11) (by decide +kernel) (by decide) (by decide +kernel) e106 rfl ?_
    refine xe_ldn (ins := .iload_n 1) (len := 1) (by decide +kernel) rfl rfl rfl rfl ?_
    obtain ⟨v107, e108, h⟩ := xbnd h
    refine xs_iald rfl (by decide +kernel) hx1 e108 rfl ?_
    refine xe_icmpge (off := 53) (t := 189) (by decide +kernel) (by decide) rfl hx7 (xq_ai_in e108) (fun c109 => ?_) (fun c109 => ?_)
    · rw [if_pos c109] at h
      refine xW_lv rfl (l := [(0, xR_ (x0)), (1, xI (x1)), (2, xR_ (x2)), (3, xI (x3)), (4, xI (x4)), (5, xI (x5)), (6, xI (x6))]) (xsb_of ⟨rfl, rfl, rfl, rfl, rfl, rfl, rfl, trivial⟩ (show [0, 1, 2, 3, 4, 5, 6, 7].Nodup by decide)) ?_
      exact k137_189  hr59 hx1 hx3 hx4 hx5 hx6 h
    · rw [if_neg c109] at h
      refine xe_alr (ins := .aload_n 0) (len := 1) (i := 0) (by decide +kernel) rfl rfl rfl rfl rfl ?_
      obtain ⟨v110, e111, h⟩ := xbnd h
      refine xs_gr (i := 40) (c := 9) (k := 3) (by decide +kernel) (by decide) (by decide +kernel) e111 rfl ?_
      obtain ⟨v112, e113, h⟩ := xbnd h
      refine xs_gr (i := 101) (c := 6) (k := 12) (by decide +kernel) (by decide) (by decide +kernel) e113 rfl ?_
      refine xe_iconst (n := 4) (by decide +kernel) rfl ?_
      refine xe_ldn (ins := .iload_n 1) (len := 1) (by decide +kernel) rfl rfl rfl rfl ?_
      refine xe_imul (by decide +kernel) rfl ?_
      refine xe_ldn (ins := .iload 7) (len := 2) (by decide +kernel) rfl rfl rfl rfl ?_
      refine xe_iadd (by decide +kernel) rfl ?_
      obtain ⟨v114, e115, h⟩ := xbnd h
      refine xs_iald rfl (by decide +kernel) (xin_wr _) e115 rfl ?_
      refine xe_iconst (n := 3) (by decide +kernel) rfl ?_
      refine xe_icmpeq (off := 22) (t := 176) (by decide +kernel) (by decide) rfl (xq_ai_in e115) (show xin (3) by decide) (fun c116 => ?_) (fun c116 => ?_)
      · rw [if_pos c116] at h
        refine xW_lv rfl (l := [(0, xR_ (x0)), (1, xI (x1)), (2, xR_ (x2)), (3, xI (x3)), (4, xI (x4)), (5, xI (x5)), (7, xI (x7))]) (xsb_of ⟨rfl, rfl, rfl, rfl, rfl, rfl, rfl, trivial⟩ (show [0, 1, 2, 3, 4, 5, 6, 7].Nodup by decide)) ?_
        exact k137_176  hr59 hr120 hx1 hx3 hx4 hx5 hx7 h
      · rw [if_neg c116] at h
        refine xe_alr (ins := .aload_n 2) (len := 1) (i := 2) (by decide +kernel) rfl rfl rfl rfl rfl ?_
        refine xe_ldn (ins := .iload_n 3) (len := 1) (by decide +kernel) rfl rfl rfl rfl ?_
        refine xe_ldn (ins := .iload 7) (len := 2) (by decide +kernel) rfl rfl rfl rfl ?_
        obtain ⟨_, e118, h⟩ := xbnd h
        obtain ⟨R119, e117, h⟩ := xbnd h
        refine xs_cv (i := 127) (j := 70) (ar := [xI (x7), xI (x3)]) (rest := []) (r2 := xr_70) (by decide +kernel) (by decide +kernel) (by decide +kernel) xr_70_e rfl (by decide) (by decide) e118 ?_
        refine xc_l (k70 (d := d + 0)  hx3 hx7 e117) rfl (fun hi120 => ?_)
        refine xe_alr (ins := .aload_n 2) (len := 1) (i := 2) (by decide +kernel) rfl rfl rfl rfl rfl ?_
        refine xe_ldn (ins := .iload 5) (len := 2) (by decide +kernel) rfl rfl rfl rfl ?_
        refine xe_ldn (ins := .iload 7) (len := 2) (by decide +kernel) rfl rfl rfl rfl ?_
        obtain ⟨_, e122, h⟩ := xbnd h
        obtain ⟨R123, e121, h⟩ := xbnd h
        refine xs_cv (i := 127) (j := 70) (ar := [xI (x7), xI (x5)]) (rest := [xZ (R119.1)]) (r2 := xr_70) (by decide +kernel) (by decide +kernel) (by decide +kernel) xr_70_e rfl (by decide) (by simp only [List.map_cons, List.map_nil, List.sum_cons, List.sum_nil, xR_cat, xI_cat, xZ_cat]; decide) e122 ?_
        refine xc_l (k70 (d := d + 0)  hx5 hx7 e121) rfl (fun hi124 => ?_)
        refine xe_lcmp (by decide +kernel) rfl hi120 hi124 ?_
        refine xe_ifne (off := 7) (t := 180) (by decide +kernel) (by decide) rfl (xin_cmp8 _ _) (fun c125 => ?_) (fun c125 => ?_)
        · have c125 := xcmp8_ne.mp c125; rw [if_pos c125] at h
          refine xe_iconst (n := 0) (by decide +kernel) rfl ?_
          refine xW_lv rfl (l := [(0, xR_ (x0)), (1, xI (x1)), (2, xR_ (x2)), (3, xI (x3)), (4, xI (x4)), (5, xI (x5)), (7, xI (x7))]) (xsb_of ⟨rfl, rfl, rfl, rfl, rfl, rfl, rfl, trivial⟩ (show [0, 1, 2, 3, 4, 5, 6, 7].Nodup by decide)) ?_
          exact k137_181  hr59 hr120 hx1 hx3 hx4 hx5 hx7 (show xin (0) by decide) h
        · have c125 := (not_congr xcmp8_ne).mp c125; rw [if_neg c125] at h
          refine xW_lv rfl (l := [(0, xR_ (x0)), (1, xI (x1)), (2, xR_ (x2)), (3, xI (x3)), (4, xI (x4)), (5, xI (x5)), (7, xI (x7))]) (xsb_of ⟨rfl, rfl, rfl, rfl, rfl, rfl, rfl, trivial⟩ (show [0, 1, 2, 3, 4, 5, 6, 7].Nodup by decide)) ?_
          exact k137_176  hr59 hr120 hx1 hx3 hx4 hx5 hx7 h
def f137_120  (r59 : Nat → Int → Nat → Int → Int → Int → xj_M → Option (Int × xj_M)) (f : Nat) : Nat → Nat → Int → Nat → Int → Int → Int → Int → Int → xj_M → Option (Int × xj_M)
  | 0, _, _, _, _, _, _, _, _, _ => none
  | n + 1, x0, x1, x2, x3, x4, x5, x6, x7, M => f137_120b  r59 (f137_120  r59 f n) f x0 x1 x2 x3 x4 x5 x6 x7 M
theorem k137_120 {d f : Nat}  {r59 : Nat → Int → Nat → Int → Int → Int → xj_M → Option (Int × xj_M)}  (hr59 : ∀ {x0 : Nat} {x1 : Int} {x2 : Nat} {x3 : Int} {x4 : Int} {x5 : Int} {M : xj_M} {R : Int × xj_M}, xin x1 → xin x3 → xin x4 → xin x5 → r59 x0 x1 x2 x3 x4 x5 M = some R → xW (d + 1) (none, d + 1, none) xr_137 (59, [(0, xR_ x0), (1, xI x1), (2, xR_ x2), (3, xI x3), (4, xI x4), (5, xI x5)], [], M) (xQi R)) : ∀ {n : Nat} {x0 : Nat} {x1 : Int} {x2 : Nat} {x3 : Int} {x4 : Int} {x5 : Int} {x6 : Int} {x7 : Int} {M : xj_M} {R : Int × xj_M}, xin x1 → xin x3 → xin x4 → xin x5 → xin x6 → xin x7 → f137_120  r59 f n x0 x1 x2 x3 x4 x5 x6 x7 M = some R → xW (d + 1) (none, d + 1, none) xr_137 (120, [(0, xR_ x0), (1, xI x1), (2, xR_ x2), (3, xI x3), (4, xI x4), (5, xI x5), (6, xI x6), (7, xI x7)], [], M) (xQi R) := by
  intro n
  induction n with
  | zero => intros; rename_i h; cases h
  | succ n ih => intros; rename_i h; exact k137_120b  hr59 ih (by assumption) (by assumption) (by assumption) (by assumption) (by assumption) (by assumption) h
def f137_115  (r59 : Nat → Int → Nat → Int → Int → Int → xj_M → Option (Int × xj_M)) (f : Nat) (x0 : Nat) (x1 : Int) (x2 : Nat) (x3 : Int) (x4 : Int) (x5 : Int) (y0 : Int) (M : xj_M) : Option (Int × xj_M) := f137_120  r59 f f (x0) (x1) (x2) (x3) (x4) (x5) (y0) (0) M
theorem k137_115 {d f : Nat}  {r59 : Nat → Int → Nat → Int → Int → Int → xj_M → Option (Int × xj_M)}  (hr59 : ∀ {x0 : Nat} {x1 : Int} {x2 : Nat} {x3 : Int} {x4 : Int} {x5 : Int} {M : xj_M} {R : Int × xj_M}, xin x1 → xin x3 → xin x4 → xin x5 → r59 x0 x1 x2 x3 x4 x5 M = some R → xW (d + 1) (none, d + 1, none) xr_137 (59, [(0, xR_ x0), (1, xI x1), (2, xR_ x2), (3, xI x3), (4, xI x4), (5, xI x5)], [], M) (xQi R)) {x0 : Nat} {x1 : Int} {x2 : Nat} {x3 : Int} {x4 : Int} {x5 : Int} {y0 : Int} {M : xj_M} {R : Int × xj_M} (hx1 : xin x1) (hx3 : xin x3) (hx4 : xin x4) (hx5 : xin x5) (hy0 : xin y0) (h : f137_115  r59 f x0 x1 x2 x3 x4 x5 y0 M = some R) : xW (d + 1) (none, d + 1, none) xr_137 (115, [(0, xR_ x0), (1, xI x1), (2, xR_ x2), (3, xI x3), (4, xI x4), (5, xI x5)], [xI y0], M) (xQi R) := by
  unfold f137_115 at h
  refine xe_isr (ins := .istore 6) (len := 2) (i := 6) (by decide +kernel) rfl rfl rfl (by decide) (xk_k (show ¬ (0 : Nat) = 6 by decide) (Or.inl (show ¬ (0 + 1 : Nat) = 6 by decide)) (xk_k (show ¬ (1 : Nat) = 6 by decide) (Or.inl (show ¬ (1 + 1 : Nat) = 6 by decide)) (xk_k (show ¬ (2 : Nat) = 6 by decide) (Or.inl (show ¬ (2 + 1 : Nat) = 6 by decide)) (xk_k (show ¬ (3 : Nat) = 6 by decide) (Or.inl (show ¬ (3 + 1 : Nat) = 6 by decide)) (xk_k (show ¬ (4 : Nat) = 6 by decide) (Or.inl (show ¬ (4 + 1 : Nat) = 6 by decide)) (xk_k (show ¬ (5 : Nat) = 6 by decide) (Or.inr (xI_cat _)) xk_n)))))) rfl ?_
  refine xe_iconst (n := 0) (by decide +kernel) rfl ?_
  refine xe_isr (ins := .istore 7) (len := 2) (i := 7) (by decide +kernel) rfl rfl rfl (by decide) (xk_k (show ¬ (6 : Nat) = 7 by decide) (Or.inr (xI_cat _)) (xk_k (show ¬ (0 : Nat) = 7 by decide) (Or.inl (show ¬ (0 + 1 : Nat) = 7 by decide)) (xk_k (show ¬ (1 : Nat) = 7 by decide) (Or.inl (show ¬ (1 + 1 : Nat) = 7 by decide)) (xk_k (show ¬ (2 : Nat) = 7 by decide) (Or.inl (show ¬ (2 + 1 : Nat) = 7 by decide)) (xk_k (show ¬ (3 : Nat) = 7 by decide) (Or.inl (show ¬ (3 + 1 : Nat) = 7 by decide)) (xk_k (show ¬ (4 : Nat) = 7 by decide) (Or.inl (show ¬ (4 + 1 : Nat) = 7 by decide)) (xk_k (show ¬ (5 : Nat) = 7 by decide) (Or.inl (show ¬ (5 + 1 : Nat) = 7 by decide)) xk_n))))))) rfl ?_
  refine xW_lv rfl (l := [(0, xR_ (x0)), (1, xI (x1)), (2, xR_ (x2)), (3, xI (x3)), (4, xI (x4)), (5, xI (x5)), (6, xI (y0)), (7, xI (0))]) (xsb_of ⟨rfl, rfl, rfl, rfl, rfl, rfl, rfl, rfl, trivial⟩ (show [7, 6, 0, 1, 2, 3, 4, 5].Nodup by decide)) ?_
  exact k137_120  hr59 hx1 hx3 hx4 hx5 hy0 (show xin (0) by decide) h
def f137_114  (r59 : Nat → Int → Nat → Int → Int → Int → xj_M → Option (Int × xj_M)) (f : Nat) (x0 : Nat) (x1 : Int) (x2 : Nat) (x3 : Int) (x4 : Int) (x5 : Int) (M : xj_M) : Option (Int × xj_M) := f137_115  r59 f (x0) (x1) (x2) (x3) (x4) (x5) (0) M
theorem k137_114 {d f : Nat}  {r59 : Nat → Int → Nat → Int → Int → Int → xj_M → Option (Int × xj_M)}  (hr59 : ∀ {x0 : Nat} {x1 : Int} {x2 : Nat} {x3 : Int} {x4 : Int} {x5 : Int} {M : xj_M} {R : Int × xj_M}, xin x1 → xin x3 → xin x4 → xin x5 → r59 x0 x1 x2 x3 x4 x5 M = some R → xW (d + 1) (none, d + 1, none) xr_137 (59, [(0, xR_ x0), (1, xI x1), (2, xR_ x2), (3, xI x3), (4, xI x4), (5, xI x5)], [], M) (xQi R)) {x0 : Nat} {x1 : Int} {x2 : Nat} {x3 : Int} {x4 : Int} {x5 : Int} {M : xj_M} {R : Int × xj_M} (hx1 : xin x1) (hx3 : xin x3) (hx4 : xin x4) (hx5 : xin x5) (h : f137_114  r59 f x0 x1 x2 x3 x4 x5 M = some R) : xW (d + 1) (none, d + 1, none) xr_137 (114, [(0, xR_ x0), (1, xI x1), (2, xR_ x2), (3, xI x3), (4, xI x4), (5, xI x5)], [], M) (xQi R) := by
  unfold f137_114 at h
  refine xe_iconst (n := 0) (by decide +kernel) rfl ?_
  refine xW_lv rfl (l := [(0, xR_ (x0)), (1, xI (x1)), (2, xR_ (x2)), (3, xI (x3)), (4, xI (x4)), (5, xI (x5))]) (xsb_of ⟨rfl, rfl, rfl, rfl, rfl, rfl, trivial⟩ (show [0, 1, 2, 3, 4, 5].Nodup by decide)) ?_
  exact k137_115  hr59 hx1 hx3 hx4 hx5 (show xin (0) by decide) h
def f137_202   (f : Nat)  (M : xj_M) : Option (Int × xj_M) := (some (0, M))
theorem k137_202 {d f : Nat}      {M : xj_M} {R : Int × xj_M}  (h : f137_202   f  M = some R) : xW (d + 1) (none, d + 1, none) xr_137 (202, [], [], M) (xQi R) := by
  unfold f137_202 at h
  refine xe_iconst (n := 0) (by decide +kernel) rfl ?_
  cases h
  exact xe_ret_i (ty := .boolean) (by decide +kernel) rfl (by decide) ⟨rfl, rfl, (show xin (0) by decide)⟩
def f137_59b  (r59 : Nat → Int → Nat → Int → Int → Int → xj_M → Option (Int × xj_M)) (f : Nat) (x0 : Nat) (x1 : Int) (x2 : Nat) (x3 : Int) (x4 : Int) (x5 : Int) (M : xj_M) : Option (Int × xj_M) := (if (x4) = 0 then f137_202   f  M else ((xq_gr 9 9 (x0) M).bind fun v127 => ((xq_gi 9 6 (x0) M).bind fun v129 => ((xq_ai 3 (v127) (v129) M).bind fun v131 => (if (x5) < (v131) then f137_202   f  M else ((xq_gr 5 3 (x2) M).bind fun v134 => ((xq_ai 3 (v134) (x5) M).bind fun v136 => ((xq_gr 9 1 (x0) M).bind fun v138 => ((xq_ai 3 (v138) (x1) M).bind fun v140 => (if (v136) < (v140) then f137_114  r59 f (x0) (x1) (x2) (x3) (x4) (x5) M else ((xq_gr 5 3 (x2) M).bind fun v143 => ((xq_ai 3 (v143) (x5) M).bind fun v145 => ((xq_gr 9 2 (x0) M).bind fun v147 => ((xq_ai 3 (v147) (x1) M).bind fun v149 => (if (v149) < (v145) then f137_114  r59 f (x0) (x1) (x2) (x3) (x4) (x5) M else f137_115  r59 f (x0) (x1) (x2) (x3) (x4) (x5) (1) M)))))))))))))))
theorem k137_59b {d f : Nat}  {r59 : Nat → Int → Nat → Int → Int → Int → xj_M → Option (Int × xj_M)}  (hr59 : ∀ {x0 : Nat} {x1 : Int} {x2 : Nat} {x3 : Int} {x4 : Int} {x5 : Int} {M : xj_M} {R : Int × xj_M}, xin x1 → xin x3 → xin x4 → xin x5 → r59 x0 x1 x2 x3 x4 x5 M = some R → xW (d + 1) (none, d + 1, none) xr_137 (59, [(0, xR_ x0), (1, xI x1), (2, xR_ x2), (3, xI x3), (4, xI x4), (5, xI x5)], [], M) (xQi R)) {x0 : Nat} {x1 : Int} {x2 : Nat} {x3 : Int} {x4 : Int} {x5 : Int} {M : xj_M} {R : Int × xj_M} (hx1 : xin x1) (hx3 : xin x3) (hx4 : xin x4) (hx5 : xin x5) (h : f137_59b  r59 f x0 x1 x2 x3 x4 x5 M = some R) : xW (d + 1) (none, d + 1, none) xr_137 (59, [(0, xR_ x0), (1, xI x1), (2, xR_ x2), (3, xI x3), (4, xI x4), (5, xI x5)], [], M) (xQi R) := by
  unfold f137_59b at h
  refine xe_ldn (ins := .iload 4) (len := 2) (by decide +kernel) rfl rfl rfl rfl ?_
  refine xe_ifeq (off := 141) (t := 202) (by decide +kernel) (by decide) rfl hx4 (fun c126 => ?_) (fun c126 => ?_)
  · rw [if_pos c126] at h
    refine xW_lv rfl (l := []) (xsb_of trivial (show [0, 1, 2, 3, 4, 5].Nodup by decide)) ?_
    exact k137_202    h
  · rw [if_neg c126] at h
    refine xe_ldn (ins := .iload 5) (len := 2) (by decide +kernel) rfl rfl rfl rfl ?_
    refine xe_alr (ins := .aload_n 0) (len := 1) (i := 0) (by decide +kernel) rfl rfl rfl rfl rfl ?_
    obtain ⟨v127, e128, h⟩ := xbnd h
    refine xs_gr (i := 25) (c := 9) (k := 9) (by decide +kernel) (by decide) (by decide +kernel) e128 rfl ?_
    refine xe_alr (ins := .aload_n 0) (len := 1) (i := 0) (by decide +kernel) rfl rfl rfl rfl rfl ?_
    obtain ⟨v129, e130, h⟩ := xbnd h
    refine xs_gi (i := 52) (c := 9) (k := 6) (by decide +kernel) (by decide) (by decide +kernel) e130 rfl ?_
    obtain ⟨v131, e132, h⟩ := xbnd h
    refine xs_iald rfl (by decide +kernel) (xq_gi_in e130) e132 rfl ?_
    refine xe_icmplt (off := 127) (t := 202) (by decide +kernel) (by decide) rfl hx5 (xq_ai_in e132) (fun c133 => ?_) (fun c133 => ?_)
    · rw [if_pos c133] at h
      refine xW_lv rfl (l := []) (xsb_of trivial (show [0, 1, 2, 3, 4, 5].Nodup by decide)) ?_
      exact k137_202    h
    · rw [if_neg c133] at h
      refine xe_alr (ins := .aload_n 2) (len := 1) (i := 2) (by decide +kernel) rfl rfl rfl rfl rfl ?_
      obtain ⟨v134, e135, h⟩ := xbnd h
      refine xs_gr (i := 124) (c := 5) (k := 3) (by decide +kernel) (by decide) (by decide +kernel) e135 rfl ?_
      refine xe_ldn (ins := .iload 5) (len := 2) (by decide +kernel) rfl rfl rfl rfl ?_
      obtain ⟨v136, e137, h⟩ := xbnd h
      refine xs_iald rfl (by decide +kernel) hx5 e137 rfl ?_
      refine xe_alr (ins := .aload_n 0) (len := 1) (i := 0) (by decide +kernel) rfl rfl rfl rfl rfl ?_
      obtain ⟨v138, e139, h⟩ := xbnd h
      refine xs_gr (i := 15) (c := 9) (k := 1) (by decide +kernel) (by decide) (by decide +kernel) e139 rfl ?_
      refine xe_ldn (ins := .iload_n 1) (len := 1) (by decide +kernel) rfl rfl rfl rfl ?_
      obtain ⟨v140, e141, h⟩ := xbnd h
      refine xs_iald rfl (by decide +kernel) hx1 e141 rfl ?_
      refine xe_icmplt (off := 23) (t := 114) (by decide +kernel) (by decide) rfl (xq_ai_in e137) (xq_ai_in e141) (fun c142 => ?_) (fun c142 => ?_)
      · rw [if_pos c142] at h
        refine xW_lv rfl (l := [(0, xR_ (x0)), (1, xI (x1)), (2, xR_ (x2)), (3, xI (x3)), (4, xI (x4)), (5, xI (x5))]) (xsb_of ⟨rfl, rfl, rfl, rfl, rfl, rfl, trivial⟩ (show [0, 1, 2, 3, 4, 5].Nodup by decide)) ?_
        exact k137_114  hr59 hx1 hx3 hx4 hx5 h
      · rw [if_neg c142] at h
        refine xe_alr (ins := .aload_n 2) (len := 1) (i := 2) (by decide +kernel) rfl rfl rfl rfl rfl ?_
        obtain ⟨v143, e144, h⟩ := xbnd h
        refine xs_gr (i := 124) (c := 5) (k := 3) (by decide +kernel) (by decide) (by decide +kernel) e144 rfl ?_
        refine xe_ldn (ins := .iload 5) (len := 2) (by decide +kernel) rfl rfl rfl rfl ?_
        obtain ⟨v145, e146, h⟩ := xbnd h
        refine xs_iald rfl (by decide +kernel) hx5 e146 rfl ?_
        refine xe_alr (ins := .aload_n 0) (len := 1) (i := 0) (by decide +kernel) rfl rfl rfl rfl rfl ?_
        obtain ⟨v147, e148, h⟩ := xbnd h
        refine xs_gr (i := 19) (c := 9) (k := 2) (by decide +kernel) (by decide) (by decide +kernel) e148 rfl ?_
        refine xe_ldn (ins := .iload_n 1) (len := 1) (by decide +kernel) rfl rfl rfl rfl ?_
        obtain ⟨v149, e150, h⟩ := xbnd h
        refine xs_iald rfl (by decide +kernel) hx1 e150 rfl ?_
        refine xe_icmpgt (off := 7) (t := 114) (by decide +kernel) (by decide) rfl (xq_ai_in e146) (xq_ai_in e150) (fun c151 => ?_) (fun c151 => ?_)
        · rw [if_pos c151] at h
          refine xW_lv rfl (l := [(0, xR_ (x0)), (1, xI (x1)), (2, xR_ (x2)), (3, xI (x3)), (4, xI (x4)), (5, xI (x5))]) (xsb_of ⟨rfl, rfl, rfl, rfl, rfl, rfl, trivial⟩ (show [0, 1, 2, 3, 4, 5].Nodup by decide)) ?_
          exact k137_114  hr59 hx1 hx3 hx4 hx5 h
        · rw [if_neg c151] at h
          refine xe_iconst (n := 1) (by decide +kernel) rfl ?_
          refine xe_goto (off := 4) (nx := 115) (by decide +kernel) (by decide) ?_
          refine xW_lv rfl (l := [(0, xR_ (x0)), (1, xI (x1)), (2, xR_ (x2)), (3, xI (x3)), (4, xI (x4)), (5, xI (x5))]) (xsb_of ⟨rfl, rfl, rfl, rfl, rfl, rfl, trivial⟩ (show [0, 1, 2, 3, 4, 5].Nodup by decide)) ?_
          exact k137_115  hr59 hx1 hx3 hx4 hx5 (show xin (1) by decide) h
def f137_59   (f : Nat) : Nat → Nat → Int → Nat → Int → Int → Int → xj_M → Option (Int × xj_M)
  | 0, _, _, _, _, _, _, _ => none
  | n + 1, x0, x1, x2, x3, x4, x5, M => f137_59b   (f137_59   f n) f x0 x1 x2 x3 x4 x5 M
theorem k137_59 {d f : Nat}     : ∀ {n : Nat} {x0 : Nat} {x1 : Int} {x2 : Nat} {x3 : Int} {x4 : Int} {x5 : Int} {M : xj_M} {R : Int × xj_M}, xin x1 → xin x3 → xin x4 → xin x5 → f137_59   f n x0 x1 x2 x3 x4 x5 M = some R → xW (d + 1) (none, d + 1, none) xr_137 (59, [(0, xR_ x0), (1, xI x1), (2, xR_ x2), (3, xI x3), (4, xI x4), (5, xI x5)], [], M) (xQi R) := by
  intro n
  induction n with
  | zero => intros; rename_i h; cases h
  | succ n ih => intros; rename_i h; exact k137_59b   ih (by assumption) (by assumption) (by assumption) (by assumption) h
def f137_6b  (r6 : Nat → Int → Nat → Int → Int → Int → xj_M → Option (Int × xj_M)) (f : Nat) (x0 : Nat) (x1 : Int) (x2 : Nat) (x3 : Int) (x4 : Int) (x5 : Int) (M : xj_M) : Option (Int × xj_M) := ((xq_gr 9 3 (x0) M).bind fun v152 => ((xq_gr 6 11 (v152) M).bind fun v154 => ((xq_ai 3 (v154) (x1) M).bind fun v156 => (if (v156) ≤ (x5) then f137_59   f f (x0) (x1) (x2) (x3) (x4) (xwr ((x3) - (1))) M else ((xq_gr 9 3 (x0) M).bind fun v159 => ((xq_gr 6 12 (v159) M).bind fun v161 => ((xq_ai 3 (v161) (xwr ((xwr ((4) * (x1))) + (x5))) M).bind fun v163 => (if ¬ (v163) = (3) then f137_45  r6 f (x0) (x1) (x2) (x3) (x5) (0) (x4) M else f137_45  r6 f (x0) (x1) (x2) (x3) (x5) (1) (x4) M))))))))
theorem k137_6b {d f : Nat}  {r6 : Nat → Int → Nat → Int → Int → Int → xj_M → Option (Int × xj_M)}  (hr6 : ∀ {x0 : Nat} {x1 : Int} {x2 : Nat} {x3 : Int} {x4 : Int} {x5 : Int} {M : xj_M} {R : Int × xj_M}, xin x1 → xin x3 → xin x4 → xin x5 → r6 x0 x1 x2 x3 x4 x5 M = some R → xW (d + 1) (none, d + 1, none) xr_137 (6, [(0, xR_ x0), (1, xI x1), (2, xR_ x2), (3, xI x3), (4, xI x4), (5, xI x5)], [], M) (xQi R)) {x0 : Nat} {x1 : Int} {x2 : Nat} {x3 : Int} {x4 : Int} {x5 : Int} {M : xj_M} {R : Int × xj_M} (hx1 : xin x1) (hx3 : xin x3) (hx4 : xin x4) (hx5 : xin x5) (h : f137_6b  r6 f x0 x1 x2 x3 x4 x5 M = some R) : xW (d + 1) (none, d + 1, none) xr_137 (6, [(0, xR_ x0), (1, xI x1), (2, xR_ x2), (3, xI x3), (4, xI x4), (5, xI x5)], [], M) (xQi R) := by
  unfold f137_6b at h
  refine xe_ldn (ins := .iload 5) (len := 2) (by decide +kernel) rfl rfl rfl rfl ?_
  refine xe_alr (ins := .aload_n 0) (len := 1) (i := 0) (by decide +kernel) rfl rfl rfl rfl rfl ?_
  obtain ⟨v152, e153, h⟩ := xbnd h
  refine xs_gr (i := 40) (c := 9) (k := 3) (by decide +kernel) (by decide) (by decide +kernel) e153 rfl ?_
  obtain ⟨v154, e155, h⟩ := xbnd h
  refine xs_gr (i := 98) (c := 6) (k := 11) (by decide +kernel) (by decide) (by decide +kernel) e155 rfl ?_
  refine xe_ldn (ins := .iload_n 1) (len := 1) (by decide +kernel) rfl rfl rfl rfl ?_
  obtain ⟨v156, e157, h⟩ := xbnd h
  refine xs_iald rfl (by decide +kernel) hx1 e157 rfl ?_
  refine xe_icmpge (off := 37) (t := 54) (by decide +kernel) (by decide) rfl hx5 (xq_ai_in e157) (fun c158 => ?_) (fun c158 => ?_)
  · rw [if_pos c158] at h
    refine xe_ldn (ins := .iload_n 3) (len := 1) (by decide +kernel) rfl rfl rfl rfl ?_
    refine xe_iconst (n := 1) (by decide +kernel) rfl ?_
    refine xe_isub (by decide +kernel) rfl ?_
    refine xe_isr (ins := .istore 5) (len := 2) (i := 5) (by decide +kernel) rfl rfl rfl (by decide) (xk_k (show ¬ (0 : Nat) = 5 by decide) (Or.inl (show ¬ (0 + 1 : Nat) = 5 by decide)) (xk_k (show ¬ (1 : Nat) = 5 by decide) (Or.inl (show ¬ (1 + 1 : Nat) = 5 by decide)) (xk_k (show ¬ (2 : Nat) = 5 by decide) (Or.inl (show ¬ (2 + 1 : Nat) = 5 by decide)) (xk_k (show ¬ (3 : Nat) = 5 by decide) (Or.inl (show ¬ (3 + 1 : Nat) = 5 by decide)) (xk_k (show ¬ (4 : Nat) = 5 by decide) (Or.inr (xI_cat _)) (xk_d rfl xk_n)))))) rfl ?_
    refine xW_lv rfl (l := [(0, xR_ (x0)), (1, xI (x1)), (2, xR_ (x2)), (3, xI (x3)), (4, xI (x4)), (5, xI (xwr ((x3) - (1))))]) (xsb_of ⟨rfl, rfl, rfl, rfl, rfl, rfl, trivial⟩ (show [5, 0, 1, 2, 3, 4].Nodup by decide)) ?_
    exact k137_59   hx1 hx3 hx4 (xin_wr _) h
  · rw [if_neg c158] at h
    refine xe_ldn (ins := .iload 4) (len := 2) (by decide +kernel) rfl rfl rfl rfl ?_
    refine xe_alr (ins := .aload_n 0) (len := 1) (i := 0) (by decide +kernel) rfl rfl rfl rfl rfl ?_
    obtain ⟨v159, e160, h⟩ := xbnd h
    refine xs_gr (i := 40) (c := 9) (k := 3) (by decide +kernel) (by decide) (by decide +kernel) e160 rfl ?_
    obtain ⟨v161, e162, h⟩ := xbnd h
    refine xs_gr (i := 101) (c := 6) (k := 12) (by decide +kernel) (by decide) (by decide +kernel) e162 rfl ?_
    refine xe_iconst (n := 4) (by decide +kernel) rfl ?_
    refine xe_ldn (ins := .iload_n 1) (len := 1) (by decide +kernel) rfl rfl rfl rfl ?_
    refine xe_imul (by decide +kernel) rfl ?_
    refine xe_ldn (ins := .iload 5) (len := 2) (by decide +kernel) rfl rfl rfl rfl ?_
    refine xe_iadd (by decide +kernel) rfl ?_
    obtain ⟨v163, e164, h⟩ := xbnd h
    refine xs_iald rfl (by decide +kernel) (xin_wr _) e164 rfl ?_
    refine xe_iconst (n := 3) (by decide +kernel) rfl ?_
    refine xe_icmpne (off := 7) (t := 44) (by decide +kernel) (by decide) rfl (xq_ai_in e164) (show xin (3) by decide) (fun c165 => ?_) (fun c165 => ?_)
    · rw [if_pos c165] at h
      refine xe_iconst (n := 0) (by decide +kernel) rfl ?_
      refine xW_lv rfl (l := [(0, xR_ (x0)), (1, xI (x1)), (2, xR_ (x2)), (3, xI (x3)), (5, xI (x5))]) (xsb_of ⟨rfl, rfl, rfl, rfl, rfl, trivial⟩ (show [0, 1, 2, 3, 4, 5].Nodup by decide)) ?_
      exact k137_45  hr6 hx1 hx3 hx5 (show xin (0) by decide) hx4 h
    · rw [if_neg c165] at h
      refine xe_iconst (n := 1) (by decide +kernel) rfl ?_
      refine xe_goto (off := 4) (nx := 45) (by decide +kernel) (by decide) ?_
      refine xW_lv rfl (l := [(0, xR_ (x0)), (1, xI (x1)), (2, xR_ (x2)), (3, xI (x3)), (5, xI (x5))]) (xsb_of ⟨rfl, rfl, rfl, rfl, rfl, trivial⟩ (show [0, 1, 2, 3, 4, 5].Nodup by decide)) ?_
      exact k137_45  hr6 hx1 hx3 hx5 (show xin (1) by decide) hx4 h
def f137_6   (f : Nat) : Nat → Nat → Int → Nat → Int → Int → Int → xj_M → Option (Int × xj_M)
  | 0, _, _, _, _, _, _, _ => none
  | n + 1, x0, x1, x2, x3, x4, x5, M => f137_6b   (f137_6   f n) f x0 x1 x2 x3 x4 x5 M
theorem k137_6 {d f : Nat}     : ∀ {n : Nat} {x0 : Nat} {x1 : Int} {x2 : Nat} {x3 : Int} {x4 : Int} {x5 : Int} {M : xj_M} {R : Int × xj_M}, xin x1 → xin x3 → xin x4 → xin x5 → f137_6   f n x0 x1 x2 x3 x4 x5 M = some R → xW (d + 1) (none, d + 1, none) xr_137 (6, [(0, xR_ x0), (1, xI x1), (2, xR_ x2), (3, xI x3), (4, xI x4), (5, xI x5)], [], M) (xQi R) := by
  intro n
  induction n with
  | zero => intros; rename_i h; cases h
  | succ n ih => intros; rename_i h; exact k137_6b   ih (by assumption) (by assumption) (by assumption) (by assumption) h
def f137  (f : Nat) (a0 : Nat) (a1 : Int) (a2 : Nat) (a3 : Int) (M : xj_M) : Option (Int × xj_M) := f137_6   f f (a0) (a1) (a2) (a3) (0) (0) M
theorem k137 {d f : Nat}   {a0 : Nat} {a1 : Int} {a2 : Nat} {a3 : Int} {M : xj_M} {R : Int × xj_M} (ha1 : xin a1) (ha3 : xin a3) (h : f137  f a0 a1 a2 a3 M = some R) : xT (d + 2) 137 [xR_ a0, xI a1, xR_ a2, xI a3] M (xQi R) := by
  refine xT_m xr_137_e (X := (none, d + 1, none)) rfl (xa_1 (xR_cat _) (xa_1 (xI_cat _) (xa_1 (xR_cat _) (xa_1 (xI_cat _) xa_n)))) (by decide) ?_
  unfold f137 at h
  refine xe_iconst (n := 0) (by decide +kernel) rfl ?_
  refine xe_isr (ins := .istore 4) (len := 2) (i := 4) (by decide +kernel) rfl rfl rfl (by decide) (xk_k (show ¬ (0 : Nat) = 4 by decide) (Or.inl (show ¬ (0 + 1 : Nat) = 4 by decide)) (xk_k (show ¬ (1 : Nat) = 4 by decide) (Or.inl (show ¬ (1 + 1 : Nat) = 4 by decide)) (xk_k (show ¬ (2 : Nat) = 4 by decide) (Or.inl (show ¬ (2 + 1 : Nat) = 4 by decide)) (xk_k (show ¬ (3 : Nat) = 4 by decide) (Or.inr (xI_cat _)) xk_n)))) rfl ?_
  refine xe_iconst (n := 0) (by decide +kernel) rfl ?_
  refine xe_isr (ins := .istore 5) (len := 2) (i := 5) (by decide +kernel) rfl rfl rfl (by decide) (xk_k (show ¬ (4 : Nat) = 5 by decide) (Or.inr (xI_cat _)) (xk_k (show ¬ (0 : Nat) = 5 by decide) (Or.inl (show ¬ (0 + 1 : Nat) = 5 by decide)) (xk_k (show ¬ (1 : Nat) = 5 by decide) (Or.inl (show ¬ (1 + 1 : Nat) = 5 by decide)) (xk_k (show ¬ (2 : Nat) = 5 by decide) (Or.inl (show ¬ (2 + 1 : Nat) = 5 by decide)) (xk_k (show ¬ (3 : Nat) = 5 by decide) (Or.inl (show ¬ (3 + 1 : Nat) = 5 by decide)) xk_n))))) rfl ?_
  refine xW_lv rfl (l := [(0, xR_ (a0)), (1, xI (a1)), (2, xR_ (a2)), (3, xI (a3)), (4, xI (0)), (5, xI (0))]) (xsb_of ⟨rfl, rfl, rfl, rfl, rfl, rfl, trivial⟩ (show [5, 4, 0, 1, 2, 3].Nodup by decide)) ?_
  exact k137_6   ha1 ha3 (show xin (0) by decide) (show xin (0) by decide) h
-- ChangeHouse$Ways.hasNone
def xr_138 : xj_mR := (9, yX9_hasNone, cX9_hasNone, 4, (Option.some Jvm.ClassFile.FieldType.boolean), 1, false, (6, 205), (1, 4))
set_option maxRecDepth 20000 in
theorem xr_138_e : xj_row 138 = some xr_138 := rfl
def f138_30b  (r30 : Nat → Int → Nat → Int → xj_M → Option (Int × xj_M)) (f : Nat) (x0 : Nat) (x1 : Int) (x2 : Nat) (x3 : Int) (M : xj_M) : Option (Int × xj_M) := ((xq_gr 9 11 (x0) M).bind fun v101 => ((xq_gi 9 6 (x0) M).bind fun v103 => ((xq_ai 3 (v101) (v103) M).bind fun v105 => (if (v105) ≤ (x3) then (some (1, M)) else ((xq_is 9 (x0) M).bind fun _ => ((f136  f (x0) (x1) (x2) (x3) M).bind fun R110 => (if (R110.1) = (-1) then r30 (x0) (x1) (x2) (xwr ((x3) + (1))) R110.2 else (some (0, R110.2)))))))))
theorem k138_30b {d f : Nat}  {r30 : Nat → Int → Nat → Int → xj_M → Option (Int × xj_M)}  (hr30 : ∀ {x0 : Nat} {x1 : Int} {x2 : Nat} {x3 : Int} {M : xj_M} {R : Int × xj_M}, xin x1 → xin x3 → r30 x0 x1 x2 x3 M = some R → xW (d + 3) (none, d + 3, none) xr_138 (30, [(0, xR_ x0), (1, xI x1), (2, xR_ x2), (3, xI x3)], [], M) (xQi R)) {x0 : Nat} {x1 : Int} {x2 : Nat} {x3 : Int} {M : xj_M} {R : Int × xj_M} (hx1 : xin x1) (hx3 : xin x3) (h : f138_30b  r30 f x0 x1 x2 x3 M = some R) : xW (d + 3) (none, d + 3, none) xr_138 (30, [(0, xR_ x0), (1, xI x1), (2, xR_ x2), (3, xI x3)], [], M) (xQi R) := by
  unfold f138_30b at h
  refine xe_ldn (ins := .iload_n 3) (len := 1) (by decide +kernel) rfl rfl rfl rfl ?_
  refine xe_alr (ins := .aload_n 0) (len := 1) (i := 0) (by decide +kernel) rfl rfl rfl rfl rfl ?_
  obtain ⟨v101, e102, h⟩ := xbnd h
  refine xs_gr (i := 31) (c := 9) (k := 11) (by decide +kernel) (by decide) (by decide +kernel) e102 rfl ?_
  refine xe_alr (ins := .aload_n 0) (len := 1) (i := 0) (by decide +kernel) rfl rfl rfl rfl rfl ?_
  obtain ⟨v103, e104, h⟩ := xbnd h
  refine xs_gi (i := 52) (c := 9) (k := 6) (by decide +kernel) (by decide) (by decide +kernel) e104 rfl ?_
  obtain ⟨v105, e106, h⟩ := xbnd h
  refine xs_iald rfl (by decide +kernel) (xq_gi_in e104) e106 rfl ?_
  refine xe_icmpge (off := 22) (t := 62) (by decide +kernel) (by decide) rfl hx3 (xq_ai_in e106) (fun c107 => ?_) (fun c107 => ?_)
  · rw [if_pos c107] at h
    refine xe_iconst (n := 1) (by decide +kernel) rfl ?_
    cases h
    exact xe_ret_i (ty := .boolean) (by decide +kernel) rfl (by decide) ⟨rfl, rfl, (show xin (1) by decide)⟩
  · rw [if_neg c107] at h
    refine xe_alr (ins := .aload_n 0) (len := 1) (i := 0) (by decide +kernel) rfl rfl rfl rfl rfl ?_
    refine xe_ldn (ins := .iload_n 1) (len := 1) (by decide +kernel) rfl rfl rfl rfl ?_
    refine xe_alr (ins := .aload_n 2) (len := 1) (i := 2) (by decide +kernel) rfl rfl rfl rfl rfl ?_
    refine xe_ldn (ins := .iload_n 3) (len := 1) (by decide +kernel) rfl rfl rfl rfl ?_
    obtain ⟨_, e109, h⟩ := xbnd h
    obtain ⟨R110, e108, h⟩ := xbnd h
    refine xs_cv (i := 116) (j := 136) (ar := [xI (x3), xR_ (x2), xI (x1)]) (rest := []) (r2 := xr_136) (by decide +kernel) (by decide +kernel) (by decide +kernel) xr_136_e rfl (by decide) (by decide) e109 ?_
    refine xc_i (k136 (d := d + 1)  hx1 hx3 e108) rfl (fun hi111 => ?_)
    refine xe_iconst (n := -1) (by decide +kernel) rfl ?_
    refine xe_icmpeq (off := 5) (t := 56) (by decide +kernel) (by decide) rfl hi111 (show xin (-1) by decide) (fun c112 => ?_) (fun c112 => ?_)
    · rw [if_pos c112] at h
      refine xe_iincr (i := 3) (n := 1) (by decide +kernel) (by decide) rfl (xk_k (show ¬ (0 : Nat) = 3 by decide) (Or.inl (show ¬ (0 + 1 : Nat) = 3 by decide)) (xk_k (show ¬ (1 : Nat) = 3 by decide) (Or.inl (show ¬ (1 + 1 : Nat) = 3 by decide)) (xk_k (show ¬ (2 : Nat) = 3 by decide) (Or.inr (xR_cat _)) (xk_d rfl xk_n)))) rfl ?_
      refine xe_goto (off := -29) (nx := 30) (by decide +kernel) (by decide) ?_
      refine xW_lv rfl (l := [(0, xR_ (x0)), (1, xI (x1)), (2, xR_ (x2)), (3, xI (xwr ((x3) + (1))))]) (xsb_of ⟨rfl, rfl, rfl, rfl, trivial⟩ (show [3, 0, 1, 2].Nodup by decide)) ?_
      exact hr30 hx1 (xin_wr _) h
    · rw [if_neg c112] at h
      refine xe_iconst (n := 0) (by decide +kernel) rfl ?_
      cases h
      exact xe_ret_i (ty := .boolean) (by decide +kernel) rfl (by decide) ⟨rfl, rfl, (show xin (0) by decide)⟩
def f138_30   (f : Nat) : Nat → Nat → Int → Nat → Int → xj_M → Option (Int × xj_M)
  | 0, _, _, _, _, _ => none
  | n + 1, x0, x1, x2, x3, M => f138_30b   (f138_30   f n) f x0 x1 x2 x3 M
theorem k138_30 {d f : Nat}     : ∀ {n : Nat} {x0 : Nat} {x1 : Int} {x2 : Nat} {x3 : Int} {M : xj_M} {R : Int × xj_M}, xin x1 → xin x3 → f138_30   f n x0 x1 x2 x3 M = some R → xW (d + 3) (none, d + 3, none) xr_138 (30, [(0, xR_ x0), (1, xI x1), (2, xR_ x2), (3, xI x3)], [], M) (xQi R) := by
  intro n
  induction n with
  | zero => intros; rename_i h; cases h
  | succ n ih => intros; rename_i h; exact k138_30b   ih (by assumption) (by assumption) h
def f138  (f : Nat) (a0 : Nat) (a1 : Int) (M : xj_M) : Option (Int × xj_M) := ((xq_is 9 (a0) M).bind fun _ => ((f134  f (a0) (a1) M).bind fun M115 => ((xq_gr 9 4 (a0) M115).bind fun v117 => ((xq_gr 9 3 (a0) M115).bind fun v119 => ((xq_gr 6 10 (v119) M115).bind fun v121 => ((xq_ai 3 (v121) (a1) M115).bind fun v123 => ((xq_ar (v117) (v123) M115).bind fun v125 => ((xq_gr 9 9 (a0) M115).bind fun v127 => ((xq_gi 9 6 (a0) M115).bind fun v129 => ((xq_ai 3 (v127) (v129) M115).bind fun v131 => f138_30   f f (a0) (a1) (v125) (v131) M115))))))))))
theorem k138 {d f : Nat}   {a0 : Nat} {a1 : Int} {M : xj_M} {R : Int × xj_M} (ha1 : xin a1) (h : f138  f a0 a1 M = some R) : xT (d + 4) 138 [xR_ a0, xI a1] M (xQi R) := by
  refine xT_m xr_138_e (X := (none, d + 3, none)) rfl (xa_1 (xR_cat _) (xa_1 (xI_cat _) xa_n)) (by decide) ?_
  unfold f138 at h
  refine xe_alr (ins := .aload_n 0) (len := 1) (i := 0) (by decide +kernel) rfl rfl rfl rfl rfl ?_
  refine xe_ldn (ins := .iload_n 1) (len := 1) (by decide +kernel) rfl rfl rfl rfl ?_
  obtain ⟨_, e114, h⟩ := xbnd h
  obtain ⟨M115, e113, h⟩ := xbnd h
  refine xs_cv (i := 77) (j := 134) (ar := [xI (a1)]) (rest := []) (r2 := xr_134) (by decide +kernel) (by decide +kernel) (by decide +kernel) xr_134_e rfl (by decide) (by decide) e114 ?_
  refine xc_v (k134 (d := d + 0)  ha1 e113) rfl ?_
  refine xe_alr (ins := .aload_n 0) (len := 1) (i := 0) (by decide +kernel) rfl rfl rfl rfl rfl ?_
  obtain ⟨v117, e118, h⟩ := xbnd h
  refine xs_gr (i := 44) (c := 9) (k := 4) (by decide +kernel) (by decide) (by decide +kernel) e118 rfl ?_
  refine xe_alr (ins := .aload_n 0) (len := 1) (i := 0) (by decide +kernel) rfl rfl rfl rfl rfl ?_
  obtain ⟨v119, e120, h⟩ := xbnd h
  refine xs_gr (i := 40) (c := 9) (k := 3) (by decide +kernel) (by decide) (by decide +kernel) e120 rfl ?_
  obtain ⟨v121, e122, h⟩ := xbnd h
  refine xs_gr (i := 107) (c := 6) (k := 10) (by decide +kernel) (by decide) (by decide +kernel) e122 rfl ?_
  refine xe_ldn (ins := .iload_n 1) (len := 1) (by decide +kernel) rfl rfl rfl rfl ?_
  obtain ⟨v123, e124, h⟩ := xbnd h
  refine xs_iald rfl (by decide +kernel) ha1 e124 rfl ?_
  obtain ⟨v125, e126, h⟩ := xbnd h
  refine xs_aald (by decide +kernel) (xq_ai_in e124) e126 rfl ?_
  refine xe_asr (ins := .astore_n 2) (len := 1) (i := 2) (by decide +kernel) rfl rfl rfl (by decide) (xk_k (show ¬ (0 : Nat) = 2 by decide) (Or.inl (show ¬ (0 + 1 : Nat) = 2 by decide)) (xk_k (show ¬ (1 : Nat) = 2 by decide) (Or.inr (xI_cat _)) xk_n)) rfl ?_
  refine xe_alr (ins := .aload_n 0) (len := 1) (i := 0) (by decide +kernel) rfl rfl rfl rfl rfl ?_
  obtain ⟨v127, e128, h⟩ := xbnd h
  refine xs_gr (i := 25) (c := 9) (k := 9) (by decide +kernel) (by decide) (by decide +kernel) e128 rfl ?_
  refine xe_alr (ins := .aload_n 0) (len := 1) (i := 0) (by decide +kernel) rfl rfl rfl rfl rfl ?_
  obtain ⟨v129, e130, h⟩ := xbnd h
  refine xs_gi (i := 52) (c := 9) (k := 6) (by decide +kernel) (by decide) (by decide +kernel) e130 rfl ?_
  obtain ⟨v131, e132, h⟩ := xbnd h
  refine xs_iald rfl (by decide +kernel) (xq_gi_in e130) e132 rfl ?_
  refine xe_isr (ins := .istore_n 3) (len := 1) (i := 3) (by decide +kernel) rfl rfl rfl (by decide) (xk_k (show ¬ (2 : Nat) = 3 by decide) (Or.inr (xR_cat _)) (xk_k (show ¬ (0 : Nat) = 3 by decide) (Or.inl (show ¬ (0 + 1 : Nat) = 3 by decide)) (xk_k (show ¬ (1 : Nat) = 3 by decide) (Or.inl (show ¬ (1 + 1 : Nat) = 3 by decide)) xk_n))) rfl ?_
  refine xW_lv rfl (l := [(0, xR_ (a0)), (1, xI (a1)), (2, xR_ (v125)), (3, xI (v131))]) (xsb_of ⟨rfl, rfl, rfl, rfl, trivial⟩ (show [3, 2, 0, 1].Nodup by decide)) ?_
  exact k138_30   ha1 (xq_ai_in e132) h
-- ChangeHouse$Ways.openVariable
def xr_140 : xj_mR := (9, yX9_openVariable, cX9_openVariable, 3, (Option.some Jvm.ClassFile.FieldType.int), 1, false, (6, 213), (1, 4))
set_option maxRecDepth 20000 in
theorem xr_140_e : xj_row 140 = some xr_140 := rfl
def f140_35   (f : Nat) (y0 : Int) (M : xj_M) : Option (Int × xj_M) := (some (y0, M))
theorem k140_35 {d f : Nat}     {y0 : Int} {M : xj_M} {R : Int × xj_M} (hy0 : xin y0) (h : f140_35   f y0 M = some R) : xW (d + 1) (none, d + 1, none) xr_140 (35, [], [xI y0], M) (xQi R) := by
  unfold f140_35 at h
  cases h
  exact xe_ret_i (ty := .int) (by decide +kernel) rfl rfl ⟨rfl, rfl, hy0⟩
def f140_34   (f : Nat)  (M : xj_M) : Option (Int × xj_M) := f140_35   f (-1) M
theorem k140_34 {d f : Nat}      {M : xj_M} {R : Int × xj_M}  (h : f140_34   f  M = some R) : xW (d + 1) (none, d + 1, none) xr_140 (34, [], [], M) (xQi R) := by
  unfold f140_34 at h
  refine xe_iconst (n := -1) (by decide +kernel) rfl ?_
  refine xW_lv rfl (l := []) (xsb_of trivial (show [].Nodup by decide)) ?_
  exact k140_35   (show xin (-1) by decide) h
def f140  (f : Nat) (a0 : Nat) (a1 : Int) (M : xj_M) : Option (Int × xj_M) := ((xq_gr 9 3 (a0) M).bind fun v101 => ((xq_is 6 (v101) M).bind fun _ => ((f91  f (v101) (a1) M).bind fun R105 => (if (R105.1) = (-1) then f140_34   f  R105.2 else ((xq_gr 9 8 (a0) R105.2).bind fun v108 => ((xq_gi 9 6 (a0) R105.2).bind fun v110 => ((xq_ai 3 (v108) (v110) R105.2).bind fun v112 => (if ¬ (xand (xshr (v112) (R105.1)) (1)) = 0 then f140_34   f  R105.2 else f140_35   f (R105.1) R105.2))))))))
theorem k140 {d f : Nat}   {a0 : Nat} {a1 : Int} {M : xj_M} {R : Int × xj_M} (ha1 : xin a1) (h : f140  f a0 a1 M = some R) : xT (d + 2) 140 [xR_ a0, xI a1] M (xQi R) := by
  refine xT_m xr_140_e (X := (none, d + 1, none)) rfl (xa_1 (xR_cat _) (xa_1 (xI_cat _) xa_n)) (by decide) ?_
  unfold f140 at h
  refine xe_alr (ins := .aload_n 0) (len := 1) (i := 0) (by decide +kernel) rfl rfl rfl rfl rfl ?_
  obtain ⟨v101, e102, h⟩ := xbnd h
  refine xs_gr (i := 40) (c := 9) (k := 3) (by decide +kernel) (by decide) (by decide +kernel) e102 rfl ?_
  refine xe_ldn (ins := .iload_n 1) (len := 1) (by decide +kernel) rfl rfl rfl rfl ?_
  obtain ⟨_, e104, h⟩ := xbnd h
  obtain ⟨R105, e103, h⟩ := xbnd h
  refine xs_cv (i := 141) (j := 91) (ar := [xI (a1)]) (rest := []) (r2 := xr_91) (by decide +kernel) (by decide +kernel) (by decide +kernel) xr_91_e rfl (by decide) (by decide) e104 ?_
  refine xc_i (k91 (d := d + 0)  ha1 e103) rfl (fun hi106 => ?_)
  refine xe_isr (ins := .istore_n 2) (len := 1) (i := 2) (by decide +kernel) rfl rfl rfl (by decide) (xk_k (show ¬ (0 : Nat) = 2 by decide) (Or.inl (show ¬ (0 + 1 : Nat) = 2 by decide)) (xk_k (show ¬ (1 : Nat) = 2 by decide) (Or.inr (xI_cat _)) xk_n)) rfl ?_
  refine xe_ldn (ins := .iload_n 2) (len := 1) (by decide +kernel) rfl rfl rfl rfl ?_
  refine xe_iconst (n := -1) (by decide +kernel) rfl ?_
  refine xe_icmpeq (off := 23) (t := 34) (by decide +kernel) (by decide) rfl hi106 (show xin (-1) by decide) (fun c107 => ?_) (fun c107 => ?_)
  · rw [if_pos c107] at h
    refine xW_lv rfl (l := []) (xsb_of trivial (show [2, 0, 1].Nodup by decide)) ?_
    exact k140_34    h
  · rw [if_neg c107] at h
    refine xe_alr (ins := .aload_n 0) (len := 1) (i := 0) (by decide +kernel) rfl rfl rfl rfl rfl ?_
    obtain ⟨v108, e109, h⟩ := xbnd h
    refine xs_gr (i := 22) (c := 9) (k := 8) (by decide +kernel) (by decide) (by decide +kernel) e109 rfl ?_
    refine xe_alr (ins := .aload_n 0) (len := 1) (i := 0) (by decide +kernel) rfl rfl rfl rfl rfl ?_
    obtain ⟨v110, e111, h⟩ := xbnd h
    refine xs_gi (i := 52) (c := 9) (k := 6) (by decide +kernel) (by decide) (by decide +kernel) e111 rfl ?_
    obtain ⟨v112, e113, h⟩ := xbnd h
    refine xs_iald rfl (by decide +kernel) (xq_gi_in e111) e113 rfl ?_
    refine xe_ldn (ins := .iload_n 2) (len := 1) (by decide +kernel) rfl rfl rfl rfl ?_
    refine xe_ishr (by decide +kernel) rfl ?_
    refine xe_iconst (n := 1) (by decide +kernel) rfl ?_
    refine xe_iand (by decide +kernel) rfl ?_
    refine xe_ifne (off := 7) (t := 34) (by decide +kernel) (by decide) rfl (xin_of _) (fun c114 => ?_) (fun c114 => ?_)
    · rw [if_pos c114] at h
      refine xW_lv rfl (l := []) (xsb_of trivial (show [2, 0, 1].Nodup by decide)) ?_
      exact k140_34    h
    · rw [if_neg c114] at h
      refine xe_ldn (ins := .iload_n 2) (len := 1) (by decide +kernel) rfl rfl rfl rfl ?_
      refine xe_goto (off := 4) (nx := 35) (by decide +kernel) (by decide) ?_
      refine xW_lv rfl (l := []) (xsb_of trivial (show [2, 0, 1].Nodup by decide)) ?_
      exact k140_35   hi106 h
-- ChangeHouse$Ways.rowOf
def xr_143 : xj_mR := (9, yX9_rowOf, cX9_rowOf, 5, (Option.some Jvm.ClassFile.FieldType.int), 2, false, (8, 87), (1, 4))
set_option maxRecDepth 20000 in
theorem xr_143_e : xj_row 143 = some xr_143 := rfl
def f143_54b  (r54 : Nat → Int → Nat → Int → xj_M → Option (Int × xj_M)) (f : Nat) (x0 : Nat) (x1 : Int) (x3 : Nat) (x4 : Int) (M : xj_M) : Option (Int × xj_M) := ((xq_gr 9 11 (x0) M).bind fun v101 => ((xq_ai 3 (v101) (0) M).bind fun v103 => (if (v103) ≤ (x4) then (some (-1, M)) else ((xq_is 9 (x0) M).bind fun _ => ((f136  f (x0) (x1) (x3) (x4) M).bind fun R108 => (if (R108.1) = (-1) then r54 (x0) (x1) (x3) (xwr ((x4) + (1))) R108.2 else (some (x4, R108.2))))))))
theorem k143_54b {d f : Nat}  {r54 : Nat → Int → Nat → Int → xj_M → Option (Int × xj_M)}  (hr54 : ∀ {x0 : Nat} {x1 : Int} {x3 : Nat} {x4 : Int} {M : xj_M} {R : Int × xj_M}, xin x1 → xin x4 → r54 x0 x1 x3 x4 M = some R → xW (d + 3) (none, d + 3, none) xr_143 (54, [(0, xR_ x0), (1, xI x1), (3, xR_ x3), (4, xI x4)], [], M) (xQi R)) {x0 : Nat} {x1 : Int} {x3 : Nat} {x4 : Int} {M : xj_M} {R : Int × xj_M} (hx1 : xin x1) (hx4 : xin x4) (h : f143_54b  r54 f x0 x1 x3 x4 M = some R) : xW (d + 3) (none, d + 3, none) xr_143 (54, [(0, xR_ x0), (1, xI x1), (3, xR_ x3), (4, xI x4)], [], M) (xQi R) := by
  unfold f143_54b at h
  refine xe_ldn (ins := .iload 4) (len := 2) (by decide +kernel) rfl rfl rfl rfl ?_
  refine xe_alr (ins := .aload_n 0) (len := 1) (i := 0) (by decide +kernel) rfl rfl rfl rfl rfl ?_
  obtain ⟨v101, e102, h⟩ := xbnd h
  refine xs_gr (i := 31) (c := 9) (k := 11) (by decide +kernel) (by decide) (by decide +kernel) e102 rfl ?_
  refine xe_iconst (n := 0) (by decide +kernel) rfl ?_
  obtain ⟨v103, e104, h⟩ := xbnd h
  refine xs_iald rfl (by decide +kernel) (show xin (0) by decide) e104 rfl ?_
  refine xe_icmpge (off := 24) (t := 86) (by decide +kernel) (by decide) rfl hx4 (xq_ai_in e104) (fun c105 => ?_) (fun c105 => ?_)
  · rw [if_pos c105] at h
    refine xe_iconst (n := -1) (by decide +kernel) rfl ?_
    cases h
    exact xe_ret_i (ty := .int) (by decide +kernel) rfl rfl ⟨rfl, rfl, (show xin (-1) by decide)⟩
  · rw [if_neg c105] at h
    refine xe_alr (ins := .aload_n 0) (len := 1) (i := 0) (by decide +kernel) rfl rfl rfl rfl rfl ?_
    refine xe_ldn (ins := .iload_n 1) (len := 1) (by decide +kernel) rfl rfl rfl rfl ?_
    refine xe_alr (ins := .aload_n 3) (len := 1) (i := 3) (by decide +kernel) rfl rfl rfl rfl rfl ?_
    refine xe_ldn (ins := .iload 4) (len := 2) (by decide +kernel) rfl rfl rfl rfl ?_
    obtain ⟨_, e107, h⟩ := xbnd h
    obtain ⟨R108, e106, h⟩ := xbnd h
    refine xs_cv (i := 116) (j := 136) (ar := [xI (x4), xR_ (x3), xI (x1)]) (rest := []) (r2 := xr_136) (by decide +kernel) (by decide +kernel) (by decide +kernel) xr_136_e rfl (by decide) (by decide) e107 ?_
    refine xc_i (k136 (d := d + 1)  hx1 hx4 e106) rfl (fun hi109 => ?_)
    refine xe_iconst (n := -1) (by decide +kernel) rfl ?_
    refine xe_icmpeq (off := 6) (t := 80) (by decide +kernel) (by decide) rfl hi109 (show xin (-1) by decide) (fun c110 => ?_) (fun c110 => ?_)
    · rw [if_pos c110] at h
      refine xe_iincr (i := 4) (n := 1) (by decide +kernel) (by decide) rfl (xk_k (show ¬ (0 : Nat) = 4 by decide) (Or.inl (show ¬ (0 + 1 : Nat) = 4 by decide)) (xk_k (show ¬ (1 : Nat) = 4 by decide) (Or.inl (show ¬ (1 + 1 : Nat) = 4 by decide)) (xk_k (show ¬ (3 : Nat) = 4 by decide) (Or.inr (xR_cat _)) (xk_d rfl xk_n)))) rfl ?_
      refine xe_goto (off := -29) (nx := 54) (by decide +kernel) (by decide) ?_
      refine xW_lv rfl (l := [(0, xR_ (x0)), (1, xI (x1)), (3, xR_ (x3)), (4, xI (xwr ((x4) + (1))))]) (xsb_of ⟨rfl, rfl, rfl, rfl, trivial⟩ (show [4, 0, 1, 3].Nodup by decide)) ?_
      exact hr54 hx1 (xin_wr _) h
    · rw [if_neg c110] at h
      refine xe_ldn (ins := .iload 4) (len := 2) (by decide +kernel) rfl rfl rfl rfl ?_
      cases h
      exact xe_ret_i (ty := .int) (by decide +kernel) rfl rfl ⟨rfl, rfl, hx4⟩
def f143_54   (f : Nat) : Nat → Nat → Int → Nat → Int → xj_M → Option (Int × xj_M)
  | 0, _, _, _, _, _ => none
  | n + 1, x0, x1, x3, x4, M => f143_54b   (f143_54   f n) f x0 x1 x3 x4 M
theorem k143_54 {d f : Nat}     : ∀ {n : Nat} {x0 : Nat} {x1 : Int} {x3 : Nat} {x4 : Int} {M : xj_M} {R : Int × xj_M}, xin x1 → xin x4 → f143_54   f n x0 x1 x3 x4 M = some R → xW (d + 3) (none, d + 3, none) xr_143 (54, [(0, xR_ x0), (1, xI x1), (3, xR_ x3), (4, xI x4)], [], M) (xQi R) := by
  intro n
  induction n with
  | zero => intros; rename_i h; cases h
  | succ n ih => intros; rename_i h; exact k143_54b   ih (by assumption) (by assumption) h
def f143  (f : Nat) (a0 : Nat) (a1 : Int) (a2 : Nat) (M : xj_M) : Option (Int × xj_M) := ((xq_pi 9 6 (a0) (0) M).bind fun M111 => ((xq_gr 9 8 (a0) M111).bind fun v113 => ((xq_si (v113) (0) (255) M111).bind fun M115 => ((xq_gr 9 0 (a0) M115).bind fun v117 => ((xq_cp (a2) (0) (v117) (0) (8) M115).bind fun M119 => ((xq_is 9 (a0) M119).bind fun _ => ((f134  f (a0) (a1) M119).bind fun M123 => ((xq_gr 9 4 (a0) M123).bind fun v125 => ((xq_gr 9 3 (a0) M123).bind fun v127 => ((xq_gr 6 10 (v127) M123).bind fun v129 => ((xq_ai 3 (v129) (a1) M123).bind fun v131 => ((xq_ar (v125) (v131) M123).bind fun v133 => ((xq_gr 9 9 (a0) M123).bind fun v135 => ((xq_ai 3 (v135) (0) M123).bind fun v137 => f143_54   f f (a0) (a1) (v133) (v137) M123))))))))))))))
theorem k143 {d f : Nat}   {a0 : Nat} {a1 : Int} {a2 : Nat} {M : xj_M} {R : Int × xj_M} (ha1 : xin a1) (h : f143  f a0 a1 a2 M = some R) : xT (d + 4) 143 [xR_ a0, xI a1, xR_ a2] M (xQi R) := by
  refine xT_m xr_143_e (X := (none, d + 3, none)) rfl (xa_1 (xR_cat _) (xa_1 (xI_cat _) (xa_1 (xR_cat _) xa_n))) (by decide) ?_
  unfold f143 at h
  refine xe_alr (ins := .aload_n 0) (len := 1) (i := 0) (by decide +kernel) rfl rfl rfl rfl rfl ?_
  refine xe_iconst (n := 0) (by decide +kernel) rfl ?_
  obtain ⟨M111, e112, h⟩ := xbnd h
  refine xs_p (i := 52) (c := 9) (k := 6) (by decide +kernel) (by decide +kernel) (by decide +kernel) e112 rfl ?_
  refine xe_alr (ins := .aload_n 0) (len := 1) (i := 0) (by decide +kernel) rfl rfl rfl rfl rfl ?_
  obtain ⟨v113, e114, h⟩ := xbnd h
  refine xs_gr (i := 22) (c := 9) (k := 8) (by decide +kernel) (by decide) (by decide +kernel) e114 rfl ?_
  refine xe_iconst (n := 0) (by decide +kernel) rfl ?_
  refine xe_sipush (n := 255) (by decide +kernel) (by decide) rfl ?_
  obtain ⟨M115, e116, h⟩ := xbnd h
  refine xs_iast (by decide +kernel) (show xin (0) by decide) e116 rfl ?_
  refine xe_alr (ins := .aload_n 2) (len := 1) (i := 2) (by decide +kernel) rfl rfl rfl rfl rfl ?_
  refine xe_iconst (n := 0) (by decide +kernel) rfl ?_
  refine xe_alr (ins := .aload_n 0) (len := 1) (i := 0) (by decide +kernel) rfl rfl rfl rfl rfl ?_
  obtain ⟨v117, e118, h⟩ := xbnd h
  refine xs_gr (i := 9) (c := 9) (k := 0) (by decide +kernel) (by decide) (by decide +kernel) e118 rfl ?_
  refine xe_iconst (n := 0) (by decide +kernel) rfl ?_
  refine xe_bipush (n := 8) (by decide +kernel) (by decide) rfl ?_
  obtain ⟨M119, e120, h⟩ := xbnd h
  refine xs_cp (i := 166) (j := 0) (by decide +kernel) (by decide +kernel) (show xin (0) by decide) (show xin (0) by decide) (show xin (8) by decide) (by rfl) e120 rfl ?_
  refine xe_alr (ins := .aload_n 0) (len := 1) (i := 0) (by decide +kernel) rfl rfl rfl rfl rfl ?_
  refine xe_ldn (ins := .iload_n 1) (len := 1) (by decide +kernel) rfl rfl rfl rfl ?_
  obtain ⟨_, e122, h⟩ := xbnd h
  obtain ⟨M123, e121, h⟩ := xbnd h
  refine xs_cv (i := 77) (j := 134) (ar := [xI (a1)]) (rest := []) (r2 := xr_134) (by decide +kernel) (by decide +kernel) (by decide +kernel) xr_134_e rfl (by decide) (by decide) e122 ?_
  refine xc_v (k134 (d := d + 0)  ha1 e121) rfl ?_
  refine xe_alr (ins := .aload_n 0) (len := 1) (i := 0) (by decide +kernel) rfl rfl rfl rfl rfl ?_
  obtain ⟨v125, e126, h⟩ := xbnd h
  refine xs_gr (i := 44) (c := 9) (k := 4) (by decide +kernel) (by decide) (by decide +kernel) e126 rfl ?_
  refine xe_alr (ins := .aload_n 0) (len := 1) (i := 0) (by decide +kernel) rfl rfl rfl rfl rfl ?_
  obtain ⟨v127, e128, h⟩ := xbnd h
  refine xs_gr (i := 40) (c := 9) (k := 3) (by decide +kernel) (by decide) (by decide +kernel) e128 rfl ?_
  obtain ⟨v129, e130, h⟩ := xbnd h
  refine xs_gr (i := 107) (c := 6) (k := 10) (by decide +kernel) (by decide) (by decide +kernel) e130 rfl ?_
  refine xe_ldn (ins := .iload_n 1) (len := 1) (by decide +kernel) rfl rfl rfl rfl ?_
  obtain ⟨v131, e132, h⟩ := xbnd h
  refine xs_iald rfl (by decide +kernel) ha1 e132 rfl ?_
  obtain ⟨v133, e134, h⟩ := xbnd h
  refine xs_aald (by decide +kernel) (xq_ai_in e132) e134 rfl ?_
  refine xe_asr (ins := .astore_n 3) (len := 1) (i := 3) (by decide +kernel) rfl rfl rfl (by decide) (xk_k (show ¬ (0 : Nat) = 3 by decide) (Or.inl (show ¬ (0 + 1 : Nat) = 3 by decide)) (xk_k (show ¬ (1 : Nat) = 3 by decide) (Or.inl (show ¬ (1 + 1 : Nat) = 3 by decide)) (xk_k (show ¬ (2 : Nat) = 3 by decide) (Or.inr (xR_cat _)) xk_n))) rfl ?_
  refine xe_alr (ins := .aload_n 0) (len := 1) (i := 0) (by decide +kernel) rfl rfl rfl rfl rfl ?_
  obtain ⟨v135, e136, h⟩ := xbnd h
  refine xs_gr (i := 25) (c := 9) (k := 9) (by decide +kernel) (by decide) (by decide +kernel) e136 rfl ?_
  refine xe_iconst (n := 0) (by decide +kernel) rfl ?_
  obtain ⟨v137, e138, h⟩ := xbnd h
  refine xs_iald rfl (by decide +kernel) (show xin (0) by decide) e138 rfl ?_
  refine xe_isr (ins := .istore 4) (len := 2) (i := 4) (by decide +kernel) rfl rfl rfl (by decide) (xk_k (show ¬ (3 : Nat) = 4 by decide) (Or.inr (xR_cat _)) (xk_k (show ¬ (0 : Nat) = 4 by decide) (Or.inl (show ¬ (0 + 1 : Nat) = 4 by decide)) (xk_k (show ¬ (1 : Nat) = 4 by decide) (Or.inl (show ¬ (1 + 1 : Nat) = 4 by decide)) (xk_k (show ¬ (2 : Nat) = 4 by decide) (Or.inl (show ¬ (2 + 1 : Nat) = 4 by decide)) xk_n)))) rfl ?_
  refine xW_lv rfl (l := [(0, xR_ (a0)), (1, xI (a1)), (3, xR_ (v133)), (4, xI (v137))]) (xsb_of ⟨rfl, rfl, rfl, rfl, trivial⟩ (show [4, 3, 0, 1, 2].Nodup by decide)) ?_
  exact k143_54   ha1 (xq_ai_in e138) h
-- ChangeHouse$Works.<init>
def xr_144 : xj_mR := (10, yX10_init, cX10_init, 3, (Option.none : Option Jvm.ClassFile.FieldType), 1, true, (1, 210), (1, 5))
set_option maxRecDepth 20000 in
theorem xr_144_e : xj_row 144 = some xr_144 := rfl
def f144_161b  (r161 : Nat → Int → xj_M → Option (xj_M)) (f : Nat) (x0 : Nat) (x2 : Int) (M : xj_M) : Option (xj_M) := (if (4) < (x2) then (some M) else ((xq_gr 10 6 (x0) M).bind fun v102 => ((xq_nw 5 M).bind fun p104 => ((f68  f (p104.1) (x2) (0) p104.2).bind fun M107 => ((xq_sr (v102) (x2) (p104.1) M107).bind fun M109 => r161 (x0) (xwr ((x2) + (1))) M109)))))
theorem k144_161b {d f : Nat}  {r161 : Nat → Int → xj_M → Option (xj_M)}  (hr161 : ∀ {x0 : Nat} {x2 : Int} {M : xj_M} {R : xj_M}, xin x2 → r161 x0 x2 M = some R → xW (d + 1) (none, d + 1, none) xr_144 (161, [(0, xR_ x0), (2, xI x2)], [], M) (xQv R)) {x0 : Nat} {x2 : Int} {M : xj_M} {R : xj_M} (hx2 : xin x2) (h : f144_161b  r161 f x0 x2 M = some R) : xW (d + 1) (none, d + 1, none) xr_144 (161, [(0, xR_ x0), (2, xI x2)], [], M) (xQv R) := by
  unfold f144_161b at h
  refine xe_ldn (ins := .iload_n 2) (len := 1) (by decide +kernel) rfl rfl rfl rfl ?_
  refine xe_iconst (n := 4) (by decide +kernel) rfl ?_
  refine xe_icmpgt (off := 24) (t := 187) (by decide +kernel) (by decide) rfl hx2 (show xin (4) by decide) (fun c101 => ?_) (fun c101 => ?_)
  · rw [if_pos c101] at h
    cases h
    exact xe_ret_v (by decide +kernel) rfl ⟨rfl, rfl⟩
  · rw [if_neg c101] at h
    refine xe_alr (ins := .aload_n 0) (len := 1) (i := 0) (by decide +kernel) rfl rfl rfl rfl rfl ?_
    obtain ⟨v102, e103, h⟩ := xbnd h
    refine xs_gr (i := 26) (c := 10) (k := 6) (by decide +kernel) (by decide) (by decide +kernel) e103 rfl ?_
    refine xe_ldn (ins := .iload_n 2) (len := 1) (by decide +kernel) rfl rfl rfl rfl ?_
    obtain ⟨p104, e105, h⟩ := xbnd h
    refine xs_nw (i := 9) (ci := 5) (x := p104.1) (M1 := p104.2) (by decide +kernel) (by decide +kernel) e105 rfl ?_
    refine xe_dupr (by decide +kernel) rfl ?_
    refine xe_ldn (ins := .iload_n 2) (len := 1) (by decide +kernel) rfl rfl rfl rfl ?_
    refine xe_iconst (n := 0) (by decide +kernel) rfl ?_
    obtain ⟨M107, e106, h⟩ := xbnd h
    refine xs_ci (kd := 1) (by decide) (i := 29) (j := 68) (ar := [xI (0), xI (x2)]) (rest := [xR_ (p104.1), xI (x2), xR_ (v102)]) (r2 := xr_68) (by decide +kernel) (by decide +kernel) xr_68_e rfl rfl (by simp only [List.map_cons, List.map_nil, List.sum_cons, List.sum_nil, xR_cat, xI_cat, xZ_cat]; decide) (xq_nw_ne e105) ?_
    refine xc_v (k68 (d := d + 0)  hx2 (show xin (0) by decide) e106) rfl ?_
    obtain ⟨M109, e110, h⟩ := xbnd h
    refine xs_aast (by decide +kernel) hx2 e110 rfl ?_
    refine xe_iincr (i := 2) (n := 1) (by decide +kernel) (by decide) rfl (xk_k (show ¬ (0 : Nat) = 2 by decide) (Or.inl (show ¬ (0 + 1 : Nat) = 2 by decide)) (xk_d rfl xk_n)) rfl ?_
    refine xe_goto (off := -23) (nx := 161) (by decide +kernel) (by decide) ?_
    refine xW_lv rfl (l := [(0, xR_ (x0)), (2, xI (xwr ((x2) + (1))))]) (xsb_of ⟨rfl, rfl, trivial⟩ (show [2, 0].Nodup by decide)) ?_
    exact hr161 (xin_wr _) h
def f144_161   (f : Nat) : Nat → Nat → Int → xj_M → Option (xj_M)
  | 0, _, _, _ => none
  | n + 1, x0, x2, M => f144_161b   (f144_161   f n) f x0 x2 M
theorem k144_161 {d f : Nat}     : ∀ {n : Nat} {x0 : Nat} {x2 : Int} {M : xj_M} {R : xj_M}, xin x2 → f144_161   f n x0 x2 M = some R → xW (d + 1) (none, d + 1, none) xr_144 (161, [(0, xR_ x0), (2, xI x2)], [], M) (xQv R) := by
  intro n
  induction n with
  | zero => intros; rename_i h; cases h
  | succ n ih => intros; rename_i h; exact k144_161b   ih (by assumption) h
def f144_115b  (r115 : Nat → Int → xj_M → Option (xj_M)) (f : Nat) (x0 : Nat) (x2 : Int) (M : xj_M) : Option (xj_M) := (if (16) ≤ (x2) then f144_161   f f (x0) (1) M else ((xq_gr 10 4 (x0) M).bind fun v112 => ((xq_nw 5 M).bind fun p114 => ((f68  f (p114.1) (4) (100) p114.2).bind fun M117 => ((xq_sr (v112) (x2) (p114.1) M117).bind fun M119 => ((xq_gr 10 5 (x0) M119).bind fun v121 => ((xq_nw 5 M119).bind fun p123 => ((f68  f (p123.1) (4) (100) p123.2).bind fun M126 => ((xq_sr (v121) (x2) (p123.1) M126).bind fun M128 => r115 (x0) (xwr ((x2) + (1))) M128)))))))))
theorem k144_115b {d f : Nat}  {r115 : Nat → Int → xj_M → Option (xj_M)}  (hr115 : ∀ {x0 : Nat} {x2 : Int} {M : xj_M} {R : xj_M}, xin x2 → r115 x0 x2 M = some R → xW (d + 1) (none, d + 1, none) xr_144 (115, [(0, xR_ x0), (2, xI x2)], [], M) (xQv R)) {x0 : Nat} {x2 : Int} {M : xj_M} {R : xj_M} (hx2 : xin x2) (h : f144_115b  r115 f x0 x2 M = some R) : xW (d + 1) (none, d + 1, none) xr_144 (115, [(0, xR_ x0), (2, xI x2)], [], M) (xQv R) := by
  unfold f144_115b at h
  refine xe_ldn (ins := .iload_n 2) (len := 1) (by decide +kernel) rfl rfl rfl rfl ?_
  refine xe_bipush (n := 16) (by decide +kernel) (by decide) rfl ?_
  refine xe_icmpge (off := 41) (t := 159) (by decide +kernel) (by decide) rfl hx2 (show xin (16) by decide) (fun c111 => ?_) (fun c111 => ?_)
  · rw [if_pos c111] at h
    refine xe_iconst (n := 1) (by decide +kernel) rfl ?_
    refine xe_isr (ins := .istore_n 2) (len := 1) (i := 2) (by decide +kernel) rfl rfl rfl (by decide) (xk_k (show ¬ (0 : Nat) = 2 by decide) (Or.inl (show ¬ (0 + 1 : Nat) = 2 by decide)) (xk_d rfl xk_n)) rfl ?_
    refine xW_lv rfl (l := [(0, xR_ (x0)), (2, xI (1))]) (xsb_of ⟨rfl, rfl, trivial⟩ (show [2, 0].Nodup by decide)) ?_
    exact k144_161   (show xin (1) by decide) h
  · rw [if_neg c111] at h
    refine xe_alr (ins := .aload_n 0) (len := 1) (i := 0) (by decide +kernel) rfl rfl rfl rfl rfl ?_
    obtain ⟨v112, e113, h⟩ := xbnd h
    refine xs_gr (i := 20) (c := 10) (k := 4) (by decide +kernel) (by decide) (by decide +kernel) e113 rfl ?_
    refine xe_ldn (ins := .iload_n 2) (len := 1) (by decide +kernel) rfl rfl rfl rfl ?_
    obtain ⟨p114, e115, h⟩ := xbnd h
    refine xs_nw (i := 9) (ci := 5) (x := p114.1) (M1 := p114.2) (by decide +kernel) (by decide +kernel) e115 rfl ?_
    refine xe_dupr (by decide +kernel) rfl ?_
    refine xe_iconst (n := 4) (by decide +kernel) rfl ?_
    refine xe_bipush (n := 100) (by decide +kernel) (by decide) rfl ?_
    obtain ⟨M117, e116, h⟩ := xbnd h
    refine xs_ci (kd := 1) (by decide) (i := 29) (j := 68) (ar := [xI (100), xI (4)]) (rest := [xR_ (p114.1), xI (x2), xR_ (v112)]) (r2 := xr_68) (by decide +kernel) (by decide +kernel) xr_68_e rfl rfl (by simp only [List.map_cons, List.map_nil, List.sum_cons, List.sum_nil, xR_cat, xI_cat, xZ_cat]; decide) (xq_nw_ne e115) ?_
    refine xc_v (k68 (d := d + 0)  (show xin (4) by decide) (show xin (100) by decide) e116) rfl ?_
    obtain ⟨M119, e120, h⟩ := xbnd h
    refine xs_aast (by decide +kernel) hx2 e120 rfl ?_
    refine xe_alr (ins := .aload_n 0) (len := 1) (i := 0) (by decide +kernel) rfl rfl rfl rfl rfl ?_
    obtain ⟨v121, e122, h⟩ := xbnd h
    refine xs_gr (i := 23) (c := 10) (k := 5) (by decide +kernel) (by decide) (by decide +kernel) e122 rfl ?_
    refine xe_ldn (ins := .iload_n 2) (len := 1) (by decide +kernel) rfl rfl rfl rfl ?_
    obtain ⟨p123, e124, h⟩ := xbnd h
    refine xs_nw (i := 9) (ci := 5) (x := p123.1) (M1 := p123.2) (by decide +kernel) (by decide +kernel) e124 rfl ?_
    refine xe_dupr (by decide +kernel) rfl ?_
    refine xe_iconst (n := 4) (by decide +kernel) rfl ?_
    refine xe_bipush (n := 100) (by decide +kernel) (by decide) rfl ?_
    obtain ⟨M126, e125, h⟩ := xbnd h
    refine xs_ci (kd := 1) (by decide) (i := 29) (j := 68) (ar := [xI (100), xI (4)]) (rest := [xR_ (p123.1), xI (x2), xR_ (v121)]) (r2 := xr_68) (by decide +kernel) (by decide +kernel) xr_68_e rfl rfl (by simp only [List.map_cons, List.map_nil, List.sum_cons, List.sum_nil, xR_cat, xI_cat, xZ_cat]; decide) (xq_nw_ne e124) ?_
    refine xc_v (k68 (d := d + 0)  (show xin (4) by decide) (show xin (100) by decide) e125) rfl ?_
    obtain ⟨M128, e129, h⟩ := xbnd h
    refine xs_aast (by decide +kernel) hx2 e129 rfl ?_
    refine xe_iincr (i := 2) (n := 1) (by decide +kernel) (by decide) rfl (xk_k (show ¬ (0 : Nat) = 2 by decide) (Or.inl (show ¬ (0 + 1 : Nat) = 2 by decide)) (xk_d rfl xk_n)) rfl ?_
    refine xe_goto (off := -41) (nx := 115) (by decide +kernel) (by decide) ?_
    refine xW_lv rfl (l := [(0, xR_ (x0)), (2, xI (xwr ((x2) + (1))))]) (xsb_of ⟨rfl, rfl, trivial⟩ (show [2, 0].Nodup by decide)) ?_
    exact hr115 (xin_wr _) h
def f144_115   (f : Nat) : Nat → Nat → Int → xj_M → Option (xj_M)
  | 0, _, _, _ => none
  | n + 1, x0, x2, M => f144_115b   (f144_115   f n) f x0 x2 M
theorem k144_115 {d f : Nat}     : ∀ {n : Nat} {x0 : Nat} {x2 : Int} {M : xj_M} {R : xj_M}, xin x2 → f144_115   f n x0 x2 M = some R → xW (d + 1) (none, d + 1, none) xr_144 (115, [(0, xR_ x0), (2, xI x2)], [], M) (xQv R) := by
  intro n
  induction n with
  | zero => intros; rename_i h; cases h
  | succ n ih => intros; rename_i h; exact k144_115b   ih (by assumption) h
def f144  (f : Nat) (a0 : Nat) (a1 : Nat) (M : xj_M) : Option (xj_M) := ((xq_nz (a0)).bind fun _ => ((xq_an 5 (16) M).bind fun p131 => ((xq_pr 10 2 (a0) (p131.1) p131.2).bind fun M133 => ((xq_an 5 (16) M133).bind fun p135 => ((xq_pr 10 3 (a0) (p135.1) p135.2).bind fun M137 => ((xq_an 5 (16) M137).bind fun p139 => ((xq_pr 10 4 (a0) (p139.1) p139.2).bind fun M141 => ((xq_an 5 (16) M141).bind fun p143 => ((xq_pr 10 5 (a0) (p143.1) p143.2).bind fun M145 => ((xq_an 5 (5) M145).bind fun p147 => ((xq_pr 10 6 (a0) (p147.1) p147.2).bind fun M149 => ((xq_nw 5 M149).bind fun p151 => ((f68  f (p151.1) (4) (512) p151.2).bind fun M154 => ((xq_pr 10 7 (a0) (p151.1) M154).bind fun M156 => ((xq_na 4 (512) M156).bind fun p158 => ((xq_pr 10 8 (a0) (p158.1) p158.2).bind fun M160 => ((xq_na 4 (4) M160).bind fun p162 => ((xq_pr 10 9 (a0) (p162.1) p162.2).bind fun M164 => ((xq_na 4 (4) M164).bind fun p166 => ((xq_pr 10 10 (a0) (p166.1) p166.2).bind fun M168 => ((xq_na 4 (4) M168).bind fun p170 => ((xq_pr 10 11 (a0) (p170.1) p170.2).bind fun M172 => ((xq_na 4 (8) M172).bind fun p174 => ((xq_pr 10 12 (a0) (p174.1) p174.2).bind fun M176 => ((xq_na 3 (3) M176).bind fun p178 => ((xq_pr 10 17 (a0) (p178.1) p178.2).bind fun M180 => ((xq_pr 10 0 (a0) (a1) M180).bind fun M182 => f144_115   f f (a0) (0) M182)))))))))))))))))))))))))))
theorem k144 {d f : Nat}   {a0 : Nat} {a1 : Nat} {M : xj_M} {R : xj_M}  (h : f144  f a0 a1 M = some R) : xT (d + 2) 144 [xR_ a0, xR_ a1] M (xQv R) := by
  refine xT_m xr_144_e (X := (none, d + 1, none)) rfl (xa_1 (xR_cat _) (xa_1 (xR_cat _) xa_n)) (by decide) ?_
  unfold f144 at h
  refine xe_alr (ins := .aload_n 0) (len := 1) (i := 0) (by decide +kernel) rfl rfl rfl rfl rfl ?_
  obtain ⟨_, e130, h⟩ := xbnd h
  refine xe_oi (i := 3) (j := 0) (by decide +kernel) (by decide +kernel) (by rfl) (xq_nz_ne e130) rfl ?_
  refine xe_alr (ins := .aload_n 0) (len := 1) (i := 0) (by decide +kernel) rfl rfl rfl rfl rfl ?_
  refine xe_bipush (n := 16) (by decide +kernel) (by decide) rfl ?_
  obtain ⟨p131, e132, h⟩ := xbnd h
  refine xs_an (i := 9) (ci := 5) (x := p131.1) (M1 := p131.2) (by decide +kernel) (by decide +kernel) (show xin (16) by decide) e132 rfl ?_
  obtain ⟨M133, e134, h⟩ := xbnd h
  refine xs_p (i := 11) (c := 10) (k := 2) (by decide +kernel) (by decide +kernel) (by decide +kernel) e134 rfl ?_
  refine xe_alr (ins := .aload_n 0) (len := 1) (i := 0) (by decide +kernel) rfl rfl rfl rfl rfl ?_
  refine xe_bipush (n := 16) (by decide +kernel) (by decide) rfl ?_
  obtain ⟨p135, e136, h⟩ := xbnd h
  refine xs_an (i := 9) (ci := 5) (x := p135.1) (M1 := p135.2) (by decide +kernel) (by decide +kernel) (show xin (16) by decide) e136 rfl ?_
  obtain ⟨M137, e138, h⟩ := xbnd h
  refine xs_p (i := 17) (c := 10) (k := 3) (by decide +kernel) (by decide +kernel) (by decide +kernel) e138 rfl ?_
  refine xe_alr (ins := .aload_n 0) (len := 1) (i := 0) (by decide +kernel) rfl rfl rfl rfl rfl ?_
  refine xe_bipush (n := 16) (by decide +kernel) (by decide) rfl ?_
  obtain ⟨p139, e140, h⟩ := xbnd h
  refine xs_an (i := 9) (ci := 5) (x := p139.1) (M1 := p139.2) (by decide +kernel) (by decide +kernel) (show xin (16) by decide) e140 rfl ?_
  obtain ⟨M141, e142, h⟩ := xbnd h
  refine xs_p (i := 20) (c := 10) (k := 4) (by decide +kernel) (by decide +kernel) (by decide +kernel) e142 rfl ?_
  refine xe_alr (ins := .aload_n 0) (len := 1) (i := 0) (by decide +kernel) rfl rfl rfl rfl rfl ?_
  refine xe_bipush (n := 16) (by decide +kernel) (by decide) rfl ?_
  obtain ⟨p143, e144, h⟩ := xbnd h
  refine xs_an (i := 9) (ci := 5) (x := p143.1) (M1 := p143.2) (by decide +kernel) (by decide +kernel) (show xin (16) by decide) e144 rfl ?_
  obtain ⟨M145, e146, h⟩ := xbnd h
  refine xs_p (i := 23) (c := 10) (k := 5) (by decide +kernel) (by decide +kernel) (by decide +kernel) e146 rfl ?_
  refine xe_alr (ins := .aload_n 0) (len := 1) (i := 0) (by decide +kernel) rfl rfl rfl rfl rfl ?_
  refine xe_iconst (n := 5) (by decide +kernel) rfl ?_
  obtain ⟨p147, e148, h⟩ := xbnd h
  refine xs_an (i := 9) (ci := 5) (x := p147.1) (M1 := p147.2) (by decide +kernel) (by decide +kernel) (show xin (5) by decide) e148 rfl ?_
  obtain ⟨M149, e150, h⟩ := xbnd h
  refine xs_p (i := 26) (c := 10) (k := 6) (by decide +kernel) (by decide +kernel) (by decide +kernel) e150 rfl ?_
  refine xe_alr (ins := .aload_n 0) (len := 1) (i := 0) (by decide +kernel) rfl rfl rfl rfl rfl ?_
  obtain ⟨p151, e152, h⟩ := xbnd h
  refine xs_nw (i := 9) (ci := 5) (x := p151.1) (M1 := p151.2) (by decide +kernel) (by decide +kernel) e152 rfl ?_
  refine xe_dupr (by decide +kernel) rfl ?_
  refine xe_iconst (n := 4) (by decide +kernel) rfl ?_
  refine xe_sipush (n := 512) (by decide +kernel) (by decide) rfl ?_
  obtain ⟨M154, e153, h⟩ := xbnd h
  refine xs_ci (kd := 1) (by decide) (i := 29) (j := 68) (ar := [xI (512), xI (4)]) (rest := [xR_ (p151.1), xR_ (a0)]) (r2 := xr_68) (by decide +kernel) (by decide +kernel) xr_68_e rfl rfl (by simp only [List.map_cons, List.map_nil, List.sum_cons, List.sum_nil, xR_cat, xI_cat, xZ_cat]; decide) (xq_nw_ne e152) ?_
  refine xc_v (k68 (d := d + 0)  (show xin (4) by decide) (show xin (512) by decide) e153) rfl ?_
  obtain ⟨M156, e157, h⟩ := xbnd h
  refine xs_p (i := 32) (c := 10) (k := 7) (by decide +kernel) (by decide +kernel) (by decide +kernel) e157 rfl ?_
  refine xe_alr (ins := .aload_n 0) (len := 1) (i := 0) (by decide +kernel) rfl rfl rfl rfl rfl ?_
  refine xe_sipush (n := 512) (by decide +kernel) (by decide) rfl ?_
  obtain ⟨p158, e159, h⟩ := xbnd h
  refine xs_na (kk := 4) (ty := .long) (x := p158.1) (M1 := p158.2) (by decide +kernel) rfl (show xin (512) by decide) e159 rfl ?_
  obtain ⟨M160, e161, h⟩ := xbnd h
  refine xs_p (i := 36) (c := 10) (k := 8) (by decide +kernel) (by decide +kernel) (by decide +kernel) e161 rfl ?_
  refine xe_alr (ins := .aload_n 0) (len := 1) (i := 0) (by decide +kernel) rfl rfl rfl rfl rfl ?_
  refine xe_iconst (n := 4) (by decide +kernel) rfl ?_
  obtain ⟨p162, e163, h⟩ := xbnd h
  refine xs_na (kk := 4) (ty := .long) (x := p162.1) (M1 := p162.2) (by decide +kernel) rfl (show xin (4) by decide) e163 rfl ?_
  obtain ⟨M164, e165, h⟩ := xbnd h
  refine xs_p (i := 40) (c := 10) (k := 9) (by decide +kernel) (by decide +kernel) (by decide +kernel) e165 rfl ?_
  refine xe_alr (ins := .aload_n 0) (len := 1) (i := 0) (by decide +kernel) rfl rfl rfl rfl rfl ?_
  refine xe_iconst (n := 4) (by decide +kernel) rfl ?_
  obtain ⟨p166, e167, h⟩ := xbnd h
  refine xs_na (kk := 4) (ty := .long) (x := p166.1) (M1 := p166.2) (by decide +kernel) rfl (show xin (4) by decide) e167 rfl ?_
  obtain ⟨M168, e169, h⟩ := xbnd h
  refine xs_p (i := 43) (c := 10) (k := 10) (by decide +kernel) (by decide +kernel) (by decide +kernel) e169 rfl ?_
  refine xe_alr (ins := .aload_n 0) (len := 1) (i := 0) (by decide +kernel) rfl rfl rfl rfl rfl ?_
  refine xe_iconst (n := 4) (by decide +kernel) rfl ?_
  obtain ⟨p170, e171, h⟩ := xbnd h
  refine xs_na (kk := 4) (ty := .long) (x := p170.1) (M1 := p170.2) (by decide +kernel) rfl (show xin (4) by decide) e171 rfl ?_
  obtain ⟨M172, e173, h⟩ := xbnd h
  refine xs_p (i := 46) (c := 10) (k := 11) (by decide +kernel) (by decide +kernel) (by decide +kernel) e173 rfl ?_
  refine xe_alr (ins := .aload_n 0) (len := 1) (i := 0) (by decide +kernel) rfl rfl rfl rfl rfl ?_
  refine xe_bipush (n := 8) (by decide +kernel) (by decide) rfl ?_
  obtain ⟨p174, e175, h⟩ := xbnd h
  refine xs_na (kk := 4) (ty := .long) (x := p174.1) (M1 := p174.2) (by decide +kernel) rfl (show xin (8) by decide) e175 rfl ?_
  obtain ⟨M176, e177, h⟩ := xbnd h
  refine xs_p (i := 49) (c := 10) (k := 12) (by decide +kernel) (by decide +kernel) (by decide +kernel) e177 rfl ?_
  refine xe_alr (ins := .aload_n 0) (len := 1) (i := 0) (by decide +kernel) rfl rfl rfl rfl rfl ?_
  refine xe_iconst (n := 3) (by decide +kernel) rfl ?_
  obtain ⟨p178, e179, h⟩ := xbnd h
  refine xs_na (kk := 3) (ty := .int) (x := p178.1) (M1 := p178.2) (by decide +kernel) rfl (show xin (3) by decide) e179 rfl ?_
  obtain ⟨M180, e181, h⟩ := xbnd h
  refine xs_p (i := 52) (c := 10) (k := 17) (by decide +kernel) (by decide +kernel) (by decide +kernel) e181 rfl ?_
  refine xe_alr (ins := .aload_n 0) (len := 1) (i := 0) (by decide +kernel) rfl rfl rfl rfl rfl ?_
  refine xe_alr (ins := .aload_n 1) (len := 1) (i := 1) (by decide +kernel) rfl rfl rfl rfl rfl ?_
  obtain ⟨M182, e183, h⟩ := xbnd h
  refine xs_p (i := 56) (c := 10) (k := 0) (by decide +kernel) (by decide +kernel) (by decide +kernel) e183 rfl ?_
  refine xe_iconst (n := 0) (by decide +kernel) rfl ?_
  refine xe_isr (ins := .istore_n 2) (len := 1) (i := 2) (by decide +kernel) rfl rfl rfl (by decide) (xk_k (show ¬ (0 : Nat) = 2 by decide) (Or.inl (show ¬ (0 + 1 : Nat) = 2 by decide)) (xk_k (show ¬ (1 : Nat) = 2 by decide) (Or.inr (xR_cat _)) xk_n)) rfl ?_
  refine xW_lv rfl (l := [(0, xR_ (a0)), (2, xI (0))]) (xsb_of ⟨rfl, rfl, trivial⟩ (show [2, 0, 1].Nodup by decide)) ?_
  exact k144_115   (show xin (0) by decide) h
-- ChangeHouse$Works.begin
def xr_145 : xj_mR := (10, yX10_begin, cX10_begin, 8, (Option.none : Option Jvm.ClassFile.FieldType), 2, false, (6, 77), (1, 5))
set_option maxRecDepth 20000 in
theorem xr_145_e : xj_row 145 = some xr_145 := rfl
def f145_190  (r38 : Nat → Nat → Nat → Int → Int → xj_M → Option (xj_M)) (f : Nat) (x0 : Nat) (x1 : Nat) (x2 : Nat) (x3 : Int) (x4 : Int) (y0 : Nat) (y1 : Int) (y2 : Nat) (M : xj_M) : Option (xj_M) := ((xq_sr (y2) (y1) (y0) M).bind fun M101 => r38 (x0) (x1) (x2) (x3) (xwr ((x4) + (1))) M101)
theorem k145_190 {d f : Nat}  {r38 : Nat → Nat → Nat → Int → Int → xj_M → Option (xj_M)}  (hr38 : ∀ {x0 : Nat} {x1 : Nat} {x2 : Nat} {x3 : Int} {x4 : Int} {M : xj_M} {R : xj_M}, xin x3 → xin x4 → r38 x0 x1 x2 x3 x4 M = some R → xW (d + 2) (none, d + 2, none) xr_145 (38, [(0, xR_ x0), (1, xR_ x1), (2, xR_ x2), (3, xI x3), (4, xI x4)], [], M) (xQv R)) {x0 : Nat} {x1 : Nat} {x2 : Nat} {x3 : Int} {x4 : Int} {y0 : Nat} {y1 : Int} {y2 : Nat} {M : xj_M} {R : xj_M} (hx3 : xin x3) (hx4 : xin x4) (hy1 : xin y1) (h : f145_190  r38 f x0 x1 x2 x3 x4 y0 y1 y2 M = some R) : xW (d + 2) (none, d + 2, none) xr_145 (190, [(0, xR_ x0), (1, xR_ x1), (2, xR_ x2), (3, xI x3), (4, xI x4)], [xR_ y0, xI y1, xR_ y2], M) (xQv R) := by
  unfold f145_190 at h
  obtain ⟨M101, e102, h⟩ := xbnd h
  refine xs_aast (by decide +kernel) hy1 e102 rfl ?_
  refine xe_iincr (i := 4) (n := 1) (by decide +kernel) (by decide) rfl (xk_k (show ¬ (0 : Nat) = 4 by decide) (Or.inl (show ¬ (0 + 1 : Nat) = 4 by decide)) (xk_k (show ¬ (1 : Nat) = 4 by decide) (Or.inl (show ¬ (1 + 1 : Nat) = 4 by decide)) (xk_k (show ¬ (2 : Nat) = 4 by decide) (Or.inl (show ¬ (2 + 1 : Nat) = 4 by decide)) (xk_k (show ¬ (3 : Nat) = 4 by decide) (Or.inr (xI_cat _)) (xk_d rfl xk_n))))) rfl ?_
  refine xe_goto (off := -156) (nx := 38) (by decide +kernel) (by decide) ?_
  refine xW_lv rfl (l := [(0, xR_ (x0)), (1, xR_ (x1)), (2, xR_ (x2)), (3, xI (x3)), (4, xI (xwr ((x4) + (1))))]) (xsb_of ⟨rfl, rfl, rfl, rfl, rfl, trivial⟩ (show [4, 0, 1, 2, 3].Nodup by decide)) ?_
  exact hr38 hx3 (xin_wr _) h
def f145_165  (r38 : Nat → Nat → Nat → Int → Int → xj_M → Option (xj_M)) (f : Nat) (x0 : Nat) (x1 : Nat) (x2 : Nat) (x3 : Int) (x4 : Int) (x6 : Nat) (y0 : Int) (M : xj_M) : Option (xj_M) := ((xq_gr 10 2 (x0) M).bind fun v103 => (if (y0) = 0 then f145_190  r38 f (x0) (x1) (x2) (x3) (x4) (x6) (x4) (v103) M else ((xq_gr 10 3 (x0) M).bind fun v106 => ((xq_ar (v106) (x4) M).bind fun v108 => f145_190  r38 f (x0) (x1) (x2) (x3) (x4) (v108) (x4) (v103) M))))
theorem k145_165 {d f : Nat}  {r38 : Nat → Nat → Nat → Int → Int → xj_M → Option (xj_M)}  (hr38 : ∀ {x0 : Nat} {x1 : Nat} {x2 : Nat} {x3 : Int} {x4 : Int} {M : xj_M} {R : xj_M}, xin x3 → xin x4 → r38 x0 x1 x2 x3 x4 M = some R → xW (d + 2) (none, d + 2, none) xr_145 (38, [(0, xR_ x0), (1, xR_ x1), (2, xR_ x2), (3, xI x3), (4, xI x4)], [], M) (xQv R)) {x0 : Nat} {x1 : Nat} {x2 : Nat} {x3 : Int} {x4 : Int} {x6 : Nat} {y0 : Int} {M : xj_M} {R : xj_M} (hx3 : xin x3) (hx4 : xin x4) (hy0 : xin y0) (h : f145_165  r38 f x0 x1 x2 x3 x4 x6 y0 M = some R) : xW (d + 2) (none, d + 2, none) xr_145 (165, [(0, xR_ x0), (1, xR_ x1), (2, xR_ x2), (3, xI x3), (4, xI x4), (6, xR_ x6)], [xI y0], M) (xQv R) := by
  unfold f145_165 at h
  refine xe_isr (ins := .istore 7) (len := 2) (i := 7) (by decide +kernel) rfl rfl rfl (by decide) (xk_k (show ¬ (0 : Nat) = 7 by decide) (Or.inl (show ¬ (0 + 1 : Nat) = 7 by decide)) (xk_k (show ¬ (1 : Nat) = 7 by decide) (Or.inl (show ¬ (1 + 1 : Nat) = 7 by decide)) (xk_k (show ¬ (2 : Nat) = 7 by decide) (Or.inl (show ¬ (2 + 1 : Nat) = 7 by decide)) (xk_k (show ¬ (3 : Nat) = 7 by decide) (Or.inl (show ¬ (3 + 1 : Nat) = 7 by decide)) (xk_k (show ¬ (4 : Nat) = 7 by decide) (Or.inl (show ¬ (4 + 1 : Nat) = 7 by decide)) (xk_k (show ¬ (6 : Nat) = 7 by decide) (Or.inr (xR_cat _)) xk_n)))))) rfl ?_
  refine xe_alr (ins := .aload_n 0) (len := 1) (i := 0) (by decide +kernel) rfl rfl rfl rfl rfl ?_
  obtain ⟨v103, e104, h⟩ := xbnd h
  refine xs_gr (i := 11) (c := 10) (k := 2) (by decide +kernel) (by decide) (by decide +kernel) e104 rfl ?_
  refine xe_ldn (ins := .iload 4) (len := 2) (by decide +kernel) rfl rfl rfl rfl ?_
  refine xe_ldn (ins := .iload 7) (len := 2) (by decide +kernel) rfl rfl rfl rfl ?_
  refine xe_ifeq (off := 13) (t := 188) (by decide +kernel) (by decide) rfl hy0 (fun c105 => ?_) (fun c105 => ?_)
  · rw [if_pos c105] at h
    refine xe_alr (ins := .aload 6) (len := 2) (i := 6) (by decide +kernel) rfl rfl rfl rfl rfl ?_
    refine xW_lv rfl (l := [(0, xR_ (x0)), (1, xR_ (x1)), (2, xR_ (x2)), (3, xI (x3)), (4, xI (x4))]) (xsb_of ⟨rfl, rfl, rfl, rfl, rfl, trivial⟩ (show [7, 0, 1, 2, 3, 4, 6].Nodup by decide)) ?_
    exact k145_190  hr38 hx3 hx4 hx4 h
  · rw [if_neg c105] at h
    refine xe_alr (ins := .aload_n 0) (len := 1) (i := 0) (by decide +kernel) rfl rfl rfl rfl rfl ?_
    obtain ⟨v106, e107, h⟩ := xbnd h
    refine xs_gr (i := 17) (c := 10) (k := 3) (by decide +kernel) (by decide) (by decide +kernel) e107 rfl ?_
    refine xe_ldn (ins := .iload 4) (len := 2) (by decide +kernel) rfl rfl rfl rfl ?_
    obtain ⟨v108, e109, h⟩ := xbnd h
    refine xs_aald (by decide +kernel) hx4 e109 rfl ?_
    refine xe_goto (off := 5) (nx := 190) (by decide +kernel) (by decide) ?_
    refine xW_lv rfl (l := [(0, xR_ (x0)), (1, xR_ (x1)), (2, xR_ (x2)), (3, xI (x3)), (4, xI (x4))]) (xsb_of ⟨rfl, rfl, rfl, rfl, rfl, trivial⟩ (show [7, 0, 1, 2, 3, 4, 6].Nodup by decide)) ?_
    exact k145_190  hr38 hx3 hx4 hx4 h
def f145_160  (r38 : Nat → Nat → Nat → Int → Int → xj_M → Option (xj_M)) (f : Nat) (x0 : Nat) (x1 : Nat) (x2 : Nat) (x3 : Int) (x4 : Int) (x6 : Nat) (M : xj_M) : Option (xj_M) := f145_165  r38 f (x0) (x1) (x2) (x3) (x4) (x6) (1) M
theorem k145_160 {d f : Nat}  {r38 : Nat → Nat → Nat → Int → Int → xj_M → Option (xj_M)}  (hr38 : ∀ {x0 : Nat} {x1 : Nat} {x2 : Nat} {x3 : Int} {x4 : Int} {M : xj_M} {R : xj_M}, xin x3 → xin x4 → r38 x0 x1 x2 x3 x4 M = some R → xW (d + 2) (none, d + 2, none) xr_145 (38, [(0, xR_ x0), (1, xR_ x1), (2, xR_ x2), (3, xI x3), (4, xI x4)], [], M) (xQv R)) {x0 : Nat} {x1 : Nat} {x2 : Nat} {x3 : Int} {x4 : Int} {x6 : Nat} {M : xj_M} {R : xj_M} (hx3 : xin x3) (hx4 : xin x4) (h : f145_160  r38 f x0 x1 x2 x3 x4 x6 M = some R) : xW (d + 2) (none, d + 2, none) xr_145 (160, [(0, xR_ x0), (1, xR_ x1), (2, xR_ x2), (3, xI x3), (4, xI x4), (6, xR_ x6)], [], M) (xQv R) := by
  unfold f145_160 at h
  refine xe_iconst (n := 1) (by decide +kernel) rfl ?_
  refine xe_goto (off := 4) (nx := 165) (by decide +kernel) (by decide) ?_
  refine xW_lv rfl (l := [(0, xR_ (x0)), (1, xR_ (x1)), (2, xR_ (x2)), (3, xI (x3)), (4, xI (x4)), (6, xR_ (x6))]) (xsb_of ⟨rfl, rfl, rfl, rfl, rfl, rfl, trivial⟩ (show [0, 1, 2, 3, 4, 6].Nodup by decide)) ?_
  exact k145_165  hr38 hx3 hx4 (show xin (1) by decide) h
def f145_164  (r38 : Nat → Nat → Nat → Int → Int → xj_M → Option (xj_M)) (f : Nat) (x0 : Nat) (x1 : Nat) (x2 : Nat) (x3 : Int) (x4 : Int) (x6 : Nat) (M : xj_M) : Option (xj_M) := f145_165  r38 f (x0) (x1) (x2) (x3) (x4) (x6) (0) M
theorem k145_164 {d f : Nat}  {r38 : Nat → Nat → Nat → Int → Int → xj_M → Option (xj_M)}  (hr38 : ∀ {x0 : Nat} {x1 : Nat} {x2 : Nat} {x3 : Int} {x4 : Int} {M : xj_M} {R : xj_M}, xin x3 → xin x4 → r38 x0 x1 x2 x3 x4 M = some R → xW (d + 2) (none, d + 2, none) xr_145 (38, [(0, xR_ x0), (1, xR_ x1), (2, xR_ x2), (3, xI x3), (4, xI x4)], [], M) (xQv R)) {x0 : Nat} {x1 : Nat} {x2 : Nat} {x3 : Int} {x4 : Int} {x6 : Nat} {M : xj_M} {R : xj_M} (hx3 : xin x3) (hx4 : xin x4) (h : f145_164  r38 f x0 x1 x2 x3 x4 x6 M = some R) : xW (d + 2) (none, d + 2, none) xr_145 (164, [(0, xR_ x0), (1, xR_ x1), (2, xR_ x2), (3, xI x3), (4, xI x4), (6, xR_ x6)], [], M) (xQv R) := by
  unfold f145_164 at h
  refine xe_iconst (n := 0) (by decide +kernel) rfl ?_
  refine xW_lv rfl (l := [(0, xR_ (x0)), (1, xR_ (x1)), (2, xR_ (x2)), (3, xI (x3)), (4, xI (x4)), (6, xR_ (x6))]) (xsb_of ⟨rfl, rfl, rfl, rfl, rfl, rfl, trivial⟩ (show [0, 1, 2, 3, 4, 6].Nodup by decide)) ?_
  exact k145_165  hr38 hx3 hx4 (show xin (0) by decide) h
def f145_106  (r38 : Nat → Nat → Nat → Int → Int → xj_M → Option (xj_M)) (f : Nat) (x0 : Nat) (x1 : Nat) (x2 : Nat) (x3 : Int) (x4 : Int) (x5 : Int) (x6 : Nat) (y0 : Nat) (y1 : Int) (y2 : Nat) (M : xj_M) : Option (xj_M) := ((xq_sr (y2) (y1) (y0) M).bind fun M110 => (if (x3) = 0 then f145_160  r38 f (x0) (x1) (x2) (x3) (x4) (x6) M110 else (if (x5) = (-1) then f145_164  r38 f (x0) (x1) (x2) (x3) (x4) (x6) M110 else ((xq_gr 3 5 (x2) M110).bind fun v114 => ((xq_ab (v114) (x4) M110).bind fun v116 => (if (v116) = 0 then f145_164  r38 f (x0) (x1) (x2) (x3) (x4) (x6) M110 else ((xq_gr 2 0 (x1) M110).bind fun v119 => ((xq_gr 3 5 (v119) M110).bind fun v121 => ((xq_ab (v121) (x5) M110).bind fun v123 => (if (v123) = 0 then f145_164  r38 f (x0) (x1) (x2) (x3) (x4) (x6) M110 else ((xq_gr 3 4 (x2) M110).bind fun v126 => ((xq_ai 3 (v126) (x4) M110).bind fun v128 => ((xq_gr 2 0 (x1) M110).bind fun v130 => ((xq_gr 3 4 (v130) M110).bind fun v132 => ((xq_ai 3 (v132) (x5) M110).bind fun v134 => (if ¬ (v128) = (v134) then f145_164  r38 f (x0) (x1) (x2) (x3) (x4) (x6) M110 else f145_160  r38 f (x0) (x1) (x2) (x3) (x4) (x6) M110))))))))))))))))
theorem k145_106 {d f : Nat}  {r38 : Nat → Nat → Nat → Int → Int → xj_M → Option (xj_M)}  (hr38 : ∀ {x0 : Nat} {x1 : Nat} {x2 : Nat} {x3 : Int} {x4 : Int} {M : xj_M} {R : xj_M}, xin x3 → xin x4 → r38 x0 x1 x2 x3 x4 M = some R → xW (d + 2) (none, d + 2, none) xr_145 (38, [(0, xR_ x0), (1, xR_ x1), (2, xR_ x2), (3, xI x3), (4, xI x4)], [], M) (xQv R)) {x0 : Nat} {x1 : Nat} {x2 : Nat} {x3 : Int} {x4 : Int} {x5 : Int} {x6 : Nat} {y0 : Nat} {y1 : Int} {y2 : Nat} {M : xj_M} {R : xj_M} (hx3 : xin x3) (hx4 : xin x4) (hx5 : xin x5) (hy1 : xin y1) (h : f145_106  r38 f x0 x1 x2 x3 x4 x5 x6 y0 y1 y2 M = some R) : xW (d + 2) (none, d + 2, none) xr_145 (106, [(0, xR_ x0), (1, xR_ x1), (2, xR_ x2), (3, xI x3), (4, xI x4), (5, xI x5), (6, xR_ x6)], [xR_ y0, xI y1, xR_ y2], M) (xQv R) := by
  unfold f145_106 at h
  obtain ⟨M110, e111, h⟩ := xbnd h
  refine xs_aast (by decide +kernel) hy1 e111 rfl ?_
  refine xe_ldn (ins := .iload_n 3) (len := 1) (by decide +kernel) rfl rfl rfl rfl ?_
  refine xe_ifeq (off := 52) (t := 160) (by decide +kernel) (by decide) rfl hx3 (fun c112 => ?_) (fun c112 => ?_)
  · rw [if_pos c112] at h
    refine xW_lv rfl (l := [(0, xR_ (x0)), (1, xR_ (x1)), (2, xR_ (x2)), (3, xI (x3)), (4, xI (x4)), (6, xR_ (x6))]) (xsb_of ⟨rfl, rfl, rfl, rfl, rfl, rfl, trivial⟩ (show [0, 1, 2, 3, 4, 5, 6].Nodup by decide)) ?_
    exact k145_160  hr38 hx3 hx4 h
  · rw [if_neg c112] at h
    refine xe_ldn (ins := .iload 5) (len := 2) (by decide +kernel) rfl rfl rfl rfl ?_
    refine xe_iconst (n := -1) (by decide +kernel) rfl ?_
    refine xe_icmpeq (off := 50) (t := 164) (by decide +kernel) (by decide) rfl hx5 (show xin (-1) by decide) (fun c113 => ?_) (fun c113 => ?_)
    · rw [if_pos c113] at h
      refine xW_lv rfl (l := [(0, xR_ (x0)), (1, xR_ (x1)), (2, xR_ (x2)), (3, xI (x3)), (4, xI (x4)), (6, xR_ (x6))]) (xsb_of ⟨rfl, rfl, rfl, rfl, rfl, rfl, trivial⟩ (show [0, 1, 2, 3, 4, 5, 6].Nodup by decide)) ?_
      exact k145_164  hr38 hx3 hx4 h
    · rw [if_neg c113] at h
      refine xe_alr (ins := .aload_n 2) (len := 1) (i := 2) (by decide +kernel) rfl rfl rfl rfl rfl ?_
      obtain ⟨v114, e115, h⟩ := xbnd h
      refine xs_gr (i := 92) (c := 3) (k := 5) (by decide +kernel) (by decide) (by decide +kernel) e115 rfl ?_
      refine xe_ldn (ins := .iload 4) (len := 2) (by decide +kernel) rfl rfl rfl rfl ?_
      obtain ⟨v116, e117, h⟩ := xbnd h
      refine xs_bald (by decide +kernel) hx4 e117 rfl ?_
      refine xe_ifeq (off := 40) (t := 164) (by decide +kernel) (by decide) rfl (xq_ab_in e117) (fun c118 => ?_) (fun c118 => ?_)
      · rw [if_pos c118] at h
        refine xW_lv rfl (l := [(0, xR_ (x0)), (1, xR_ (x1)), (2, xR_ (x2)), (3, xI (x3)), (4, xI (x4)), (6, xR_ (x6))]) (xsb_of ⟨rfl, rfl, rfl, rfl, rfl, rfl, trivial⟩ (show [0, 1, 2, 3, 4, 5, 6].Nodup by decide)) ?_
        exact k145_164  hr38 hx3 hx4 h
      · rw [if_neg c118] at h
        refine xe_alr (ins := .aload_n 1) (len := 1) (i := 1) (by decide +kernel) rfl rfl rfl rfl rfl ?_
        obtain ⟨v119, e120, h⟩ := xbnd h
        refine xs_gr (i := 76) (c := 2) (k := 0) (by decide +kernel) (by decide) (by decide +kernel) e120 rfl ?_
        obtain ⟨v121, e122, h⟩ := xbnd h
        refine xs_gr (i := 92) (c := 3) (k := 5) (by decide +kernel) (by decide) (by decide +kernel) e122 rfl ?_
        refine xe_ldn (ins := .iload 5) (len := 2) (by decide +kernel) rfl rfl rfl rfl ?_
        obtain ⟨v123, e124, h⟩ := xbnd h
        refine xs_bald (by decide +kernel) hx5 e124 rfl ?_
        refine xe_ifeq (off := 27) (t := 164) (by decide +kernel) (by decide) rfl (xq_ab_in e124) (fun c125 => ?_) (fun c125 => ?_)
        · rw [if_pos c125] at h
          refine xW_lv rfl (l := [(0, xR_ (x0)), (1, xR_ (x1)), (2, xR_ (x2)), (3, xI (x3)), (4, xI (x4)), (6, xR_ (x6))]) (xsb_of ⟨rfl, rfl, rfl, rfl, rfl, rfl, trivial⟩ (show [0, 1, 2, 3, 4, 5, 6].Nodup by decide)) ?_
          exact k145_164  hr38 hx3 hx4 h
        · rw [if_neg c125] at h
          refine xe_alr (ins := .aload_n 2) (len := 1) (i := 2) (by decide +kernel) rfl rfl rfl rfl rfl ?_
          obtain ⟨v126, e127, h⟩ := xbnd h
          refine xs_gr (i := 96) (c := 3) (k := 4) (by decide +kernel) (by decide) (by decide +kernel) e127 rfl ?_
          refine xe_ldn (ins := .iload 4) (len := 2) (by decide +kernel) rfl rfl rfl rfl ?_
          obtain ⟨v128, e129, h⟩ := xbnd h
          refine xs_iald rfl (by decide +kernel) hx4 e129 rfl ?_
          refine xe_alr (ins := .aload_n 1) (len := 1) (i := 1) (by decide +kernel) rfl rfl rfl rfl rfl ?_
          obtain ⟨v130, e131, h⟩ := xbnd h
          refine xs_gr (i := 76) (c := 2) (k := 0) (by decide +kernel) (by decide) (by decide +kernel) e131 rfl ?_
          obtain ⟨v132, e133, h⟩ := xbnd h
          refine xs_gr (i := 96) (c := 3) (k := 4) (by decide +kernel) (by decide) (by decide +kernel) e133 rfl ?_
          refine xe_ldn (ins := .iload 5) (len := 2) (by decide +kernel) rfl rfl rfl rfl ?_
          obtain ⟨v134, e135, h⟩ := xbnd h
          refine xs_iald rfl (by decide +kernel) hx5 e135 rfl ?_
          refine xe_icmpne (off := 7) (t := 164) (by decide +kernel) (by decide) rfl (xq_ai_in e129) (xq_ai_in e135) (fun c136 => ?_) (fun c136 => ?_)
          · rw [if_pos c136] at h
            refine xW_lv rfl (l := [(0, xR_ (x0)), (1, xR_ (x1)), (2, xR_ (x2)), (3, xI (x3)), (4, xI (x4)), (6, xR_ (x6))]) (xsb_of ⟨rfl, rfl, rfl, rfl, rfl, rfl, trivial⟩ (show [0, 1, 2, 3, 4, 5, 6].Nodup by decide)) ?_
            exact k145_164  hr38 hx3 hx4 h
          · rw [if_neg c136] at h
            refine xW_lv rfl (l := [(0, xR_ (x0)), (1, xR_ (x1)), (2, xR_ (x2)), (3, xI (x3)), (4, xI (x4)), (6, xR_ (x6))]) (xsb_of ⟨rfl, rfl, rfl, rfl, rfl, rfl, trivial⟩ (show [0, 1, 2, 3, 4, 5, 6].Nodup by decide)) ?_
            exact k145_160  hr38 hx3 hx4 h
def f145_66  (r38 : Nat → Nat → Nat → Int → Int → xj_M → Option (xj_M)) (f : Nat) (x0 : Nat) (x1 : Nat) (x2 : Nat) (x3 : Int) (x4 : Int) (y0 : Int) (M : xj_M) : Option (xj_M) := ((xq_gr 10 6 (x0) M).bind fun v137 => ((xq_gr 3 3 (x2) M).bind fun v139 => ((xq_ai 3 (v139) (x4) M).bind fun v141 => ((xq_ar (v137) (v141) M).bind fun v143 => ((xq_gr 10 3 (x0) M).bind fun v145 => (if ¬ (y0) = (-1) then ((xq_gr 2 1 (x1) M).bind fun v148 => ((xq_ar (v148) (y0) M).bind fun v150 => f145_106  r38 f (x0) (x1) (x2) (x3) (x4) (y0) (v143) (v150) (x4) (v145) M)) else f145_106  r38 f (x0) (x1) (x2) (x3) (x4) (y0) (v143) (v143) (x4) (v145) M))))))
theorem k145_66 {d f : Nat}  {r38 : Nat → Nat → Nat → Int → Int → xj_M → Option (xj_M)}  (hr38 : ∀ {x0 : Nat} {x1 : Nat} {x2 : Nat} {x3 : Int} {x4 : Int} {M : xj_M} {R : xj_M}, xin x3 → xin x4 → r38 x0 x1 x2 x3 x4 M = some R → xW (d + 2) (none, d + 2, none) xr_145 (38, [(0, xR_ x0), (1, xR_ x1), (2, xR_ x2), (3, xI x3), (4, xI x4)], [], M) (xQv R)) {x0 : Nat} {x1 : Nat} {x2 : Nat} {x3 : Int} {x4 : Int} {y0 : Int} {M : xj_M} {R : xj_M} (hx3 : xin x3) (hx4 : xin x4) (hy0 : xin y0) (h : f145_66  r38 f x0 x1 x2 x3 x4 y0 M = some R) : xW (d + 2) (none, d + 2, none) xr_145 (66, [(0, xR_ x0), (1, xR_ x1), (2, xR_ x2), (3, xI x3), (4, xI x4)], [xI y0], M) (xQv R) := by
  unfold f145_66 at h
  refine xe_isr (ins := .istore 5) (len := 2) (i := 5) (by decide +kernel) rfl rfl rfl (by decide) (xk_k (show ¬ (0 : Nat) = 5 by decide) (Or.inl (show ¬ (0 + 1 : Nat) = 5 by decide)) (xk_k (show ¬ (1 : Nat) = 5 by decide) (Or.inl (show ¬ (1 + 1 : Nat) = 5 by decide)) (xk_k (show ¬ (2 : Nat) = 5 by decide) (Or.inl (show ¬ (2 + 1 : Nat) = 5 by decide)) (xk_k (show ¬ (3 : Nat) = 5 by decide) (Or.inl (show ¬ (3 + 1 : Nat) = 5 by decide)) (xk_k (show ¬ (4 : Nat) = 5 by decide) (Or.inr (xI_cat _)) xk_n))))) rfl ?_
  refine xe_alr (ins := .aload_n 0) (len := 1) (i := 0) (by decide +kernel) rfl rfl rfl rfl rfl ?_
  obtain ⟨v137, e138, h⟩ := xbnd h
  refine xs_gr (i := 26) (c := 10) (k := 6) (by decide +kernel) (by decide) (by decide +kernel) e138 rfl ?_
  refine xe_alr (ins := .aload_n 2) (len := 1) (i := 2) (by decide +kernel) rfl rfl rfl rfl rfl ?_
  obtain ⟨v139, e140, h⟩ := xbnd h
  refine xs_gr (i := 86) (c := 3) (k := 3) (by decide +kernel) (by decide) (by decide +kernel) e140 rfl ?_
  refine xe_ldn (ins := .iload 4) (len := 2) (by decide +kernel) rfl rfl rfl rfl ?_
  obtain ⟨v141, e142, h⟩ := xbnd h
  refine xs_iald rfl (by decide +kernel) hx4 e142 rfl ?_
  obtain ⟨v143, e144, h⟩ := xbnd h
  refine xs_aald (by decide +kernel) (xq_ai_in e142) e144 rfl ?_
  refine xe_asr (ins := .astore 6) (len := 2) (i := 6) (by decide +kernel) rfl rfl rfl (by decide) (xk_k (show ¬ (5 : Nat) = 6 by decide) (Or.inr (xI_cat _)) (xk_k (show ¬ (0 : Nat) = 6 by decide) (Or.inl (show ¬ (0 + 1 : Nat) = 6 by decide)) (xk_k (show ¬ (1 : Nat) = 6 by decide) (Or.inl (show ¬ (1 + 1 : Nat) = 6 by decide)) (xk_k (show ¬ (2 : Nat) = 6 by decide) (Or.inl (show ¬ (2 + 1 : Nat) = 6 by decide)) (xk_k (show ¬ (3 : Nat) = 6 by decide) (Or.inl (show ¬ (3 + 1 : Nat) = 6 by decide)) (xk_k (show ¬ (4 : Nat) = 6 by decide) (Or.inl (show ¬ (4 + 1 : Nat) = 6 by decide)) xk_n)))))) rfl ?_
  refine xe_alr (ins := .aload_n 0) (len := 1) (i := 0) (by decide +kernel) rfl rfl rfl rfl rfl ?_
  obtain ⟨v145, e146, h⟩ := xbnd h
  refine xs_gr (i := 17) (c := 10) (k := 3) (by decide +kernel) (by decide) (by decide +kernel) e146 rfl ?_
  refine xe_ldn (ins := .iload 4) (len := 2) (by decide +kernel) rfl rfl rfl rfl ?_
  refine xe_ldn (ins := .iload 5) (len := 2) (by decide +kernel) rfl rfl rfl rfl ?_
  refine xe_iconst (n := -1) (by decide +kernel) rfl ?_
  refine xe_icmpne (off := 8) (t := 99) (by decide +kernel) (by decide) rfl hy0 (show xin (-1) by decide) (fun c147 => ?_) (fun c147 => ?_)
  · rw [if_pos c147] at h
    refine xe_alr (ins := .aload_n 1) (len := 1) (i := 1) (by decide +kernel) rfl rfl rfl rfl rfl ?_
    obtain ⟨v148, e149, h⟩ := xbnd h
    refine xs_gr (i := 89) (c := 2) (k := 1) (by decide +kernel) (by decide) (by decide +kernel) e149 rfl ?_
    refine xe_ldn (ins := .iload 5) (len := 2) (by decide +kernel) rfl rfl rfl rfl ?_
    obtain ⟨v150, e151, h⟩ := xbnd h
    refine xs_aald (by decide +kernel) hy0 e151 rfl ?_
    refine xW_lv rfl (l := [(0, xR_ (x0)), (1, xR_ (x1)), (2, xR_ (x2)), (3, xI (x3)), (4, xI (x4)), (5, xI (y0)), (6, xR_ (v143))]) (xsb_of ⟨rfl, rfl, rfl, rfl, rfl, rfl, rfl, trivial⟩ (show [6, 5, 0, 1, 2, 3, 4].Nodup by decide)) ?_
    exact k145_106  hr38 hx3 hx4 hy0 hx4 h
  · rw [if_neg c147] at h
    refine xe_alr (ins := .aload 6) (len := 2) (i := 6) (by decide +kernel) rfl rfl rfl rfl rfl ?_
    refine xe_goto (off := 10) (nx := 106) (by decide +kernel) (by decide) ?_
    refine xW_lv rfl (l := [(0, xR_ (x0)), (1, xR_ (x1)), (2, xR_ (x2)), (3, xI (x3)), (4, xI (x4)), (5, xI (y0)), (6, xR_ (v143))]) (xsb_of ⟨rfl, rfl, rfl, rfl, rfl, rfl, rfl, trivial⟩ (show [6, 5, 0, 1, 2, 3, 4].Nodup by decide)) ?_
    exact k145_106  hr38 hx3 hx4 hy0 hx4 h
def f145_38b  (r38 : Nat → Nat → Nat → Int → Int → xj_M → Option (xj_M)) (f : Nat) (x0 : Nat) (x1 : Nat) (x2 : Nat) (x3 : Int) (x4 : Int) (M : xj_M) : Option (xj_M) := ((xq_gi 3 1 (x2) M).bind fun v152 => (if (v152) ≤ (x4) then (some M) else (if (x3) = 0 then f145_66  r38 f (x0) (x1) (x2) (x3) (x4) (x4) M else ((xq_gr 2 0 (x1) M).bind fun v156 => ((xq_is 3 (v156) M).bind fun _ => ((f21  f (v156) (x2) (x4) M).bind fun R160 => f145_66  r38 f (x0) (x1) (x2) (x3) (x4) (R160.1) R160.2))))))
theorem k145_38b {d f : Nat}  {r38 : Nat → Nat → Nat → Int → Int → xj_M → Option (xj_M)}  (hr38 : ∀ {x0 : Nat} {x1 : Nat} {x2 : Nat} {x3 : Int} {x4 : Int} {M : xj_M} {R : xj_M}, xin x3 → xin x4 → r38 x0 x1 x2 x3 x4 M = some R → xW (d + 2) (none, d + 2, none) xr_145 (38, [(0, xR_ x0), (1, xR_ x1), (2, xR_ x2), (3, xI x3), (4, xI x4)], [], M) (xQv R)) {x0 : Nat} {x1 : Nat} {x2 : Nat} {x3 : Int} {x4 : Int} {M : xj_M} {R : xj_M} (hx3 : xin x3) (hx4 : xin x4) (h : f145_38b  r38 f x0 x1 x2 x3 x4 M = some R) : xW (d + 2) (none, d + 2, none) xr_145 (38, [(0, xR_ x0), (1, xR_ x1), (2, xR_ x2), (3, xI x3), (4, xI x4)], [], M) (xQv R) := by
  unfold f145_38b at h
  refine xe_ldn (ins := .iload 4) (len := 2) (by decide +kernel) rfl rfl rfl rfl ?_
  refine xe_alr (ins := .aload_n 2) (len := 1) (i := 2) (by decide +kernel) rfl rfl rfl rfl rfl ?_
  obtain ⟨v152, e153, h⟩ := xbnd h
  refine xs_gi (i := 79) (c := 3) (k := 1) (by decide +kernel) (by decide) (by decide +kernel) e153 rfl ?_
  refine xe_icmpge (off := 153) (t := 197) (by decide +kernel) (by decide) rfl hx4 (xq_gi_in e153) (fun c154 => ?_) (fun c154 => ?_)
  · rw [if_pos c154] at h
    cases h
    exact xe_ret_v (by decide +kernel) rfl ⟨rfl, rfl⟩
  · rw [if_neg c154] at h
    refine xe_ldn (ins := .iload_n 3) (len := 1) (by decide +kernel) rfl rfl rfl rfl ?_
    refine xe_ifeq (off := 16) (t := 64) (by decide +kernel) (by decide) rfl hx3 (fun c155 => ?_) (fun c155 => ?_)
    · rw [if_pos c155] at h
      refine xe_ldn (ins := .iload 4) (len := 2) (by decide +kernel) rfl rfl rfl rfl ?_
      refine xW_lv rfl (l := [(0, xR_ (x0)), (1, xR_ (x1)), (2, xR_ (x2)), (3, xI (x3)), (4, xI (x4))]) (xsb_of ⟨rfl, rfl, rfl, rfl, rfl, trivial⟩ (show [0, 1, 2, 3, 4].Nodup by decide)) ?_
      exact k145_66  hr38 hx3 hx4 hx4 h
    · rw [if_neg c155] at h
      refine xe_alr (ins := .aload_n 1) (len := 1) (i := 1) (by decide +kernel) rfl rfl rfl rfl rfl ?_
      obtain ⟨v156, e157, h⟩ := xbnd h
      refine xs_gr (i := 76) (c := 2) (k := 0) (by decide +kernel) (by decide) (by decide +kernel) e157 rfl ?_
      refine xe_alr (ins := .aload_n 2) (len := 1) (i := 2) (by decide +kernel) rfl rfl rfl rfl rfl ?_
      refine xe_ldn (ins := .iload 4) (len := 2) (by decide +kernel) rfl rfl rfl rfl ?_
      obtain ⟨_, e159, h⟩ := xbnd h
      obtain ⟨R160, e158, h⟩ := xbnd h
      refine xs_cv (i := 82) (j := 21) (ar := [xI (x4), xR_ (x2)]) (rest := []) (r2 := xr_21) (by decide +kernel) (by decide +kernel) (by decide +kernel) xr_21_e rfl (by decide) (by decide) e159 ?_
      refine xc_i (k21 (d := d + 0)  hx4 e158) rfl (fun hi161 => ?_)
      refine xe_goto (off := 5) (nx := 66) (by decide +kernel) (by decide) ?_
      refine xW_lv rfl (l := [(0, xR_ (x0)), (1, xR_ (x1)), (2, xR_ (x2)), (3, xI (x3)), (4, xI (x4))]) (xsb_of ⟨rfl, rfl, rfl, rfl, rfl, trivial⟩ (show [0, 1, 2, 3, 4].Nodup by decide)) ?_
      exact k145_66  hr38 hx3 hx4 hi161 h
def f145_38   (f : Nat) : Nat → Nat → Nat → Nat → Int → Int → xj_M → Option (xj_M)
  | 0, _, _, _, _, _, _ => none
  | n + 1, x0, x1, x2, x3, x4, M => f145_38b   (f145_38   f n) f x0 x1 x2 x3 x4 M
theorem k145_38 {d f : Nat}     : ∀ {n : Nat} {x0 : Nat} {x1 : Nat} {x2 : Nat} {x3 : Int} {x4 : Int} {M : xj_M} {R : xj_M}, xin x3 → xin x4 → f145_38   f n x0 x1 x2 x3 x4 M = some R → xW (d + 2) (none, d + 2, none) xr_145 (38, [(0, xR_ x0), (1, xR_ x1), (2, xR_ x2), (3, xI x3), (4, xI x4)], [], M) (xQv R) := by
  intro n
  induction n with
  | zero => intros; rename_i h; cases h
  | succ n ih => intros; rename_i h; exact k145_38b   ih (by assumption) (by assumption) h
def f145_34   (f : Nat) (x0 : Nat) (x1 : Nat) (x2 : Nat) (y0 : Int) (M : xj_M) : Option (xj_M) := f145_38   f f (x0) (x1) (x2) (y0) (0) M
theorem k145_34 {d f : Nat}     {x0 : Nat} {x1 : Nat} {x2 : Nat} {y0 : Int} {M : xj_M} {R : xj_M} (hy0 : xin y0) (h : f145_34   f x0 x1 x2 y0 M = some R) : xW (d + 2) (none, d + 2, none) xr_145 (34, [(0, xR_ x0), (1, xR_ x1), (2, xR_ x2)], [xI y0], M) (xQv R) := by
  unfold f145_34 at h
  refine xe_isr (ins := .istore_n 3) (len := 1) (i := 3) (by decide +kernel) rfl rfl rfl (by decide) (xk_k (show ¬ (0 : Nat) = 3 by decide) (Or.inl (show ¬ (0 + 1 : Nat) = 3 by decide)) (xk_k (show ¬ (1 : Nat) = 3 by decide) (Or.inl (show ¬ (1 + 1 : Nat) = 3 by decide)) (xk_k (show ¬ (2 : Nat) = 3 by decide) (Or.inr (xR_cat _)) xk_n))) rfl ?_
  refine xe_iconst (n := 0) (by decide +kernel) rfl ?_
  refine xe_isr (ins := .istore 4) (len := 2) (i := 4) (by decide +kernel) rfl rfl rfl (by decide) (xk_k (show ¬ (3 : Nat) = 4 by decide) (Or.inr (xI_cat _)) (xk_k (show ¬ (0 : Nat) = 4 by decide) (Or.inl (show ¬ (0 + 1 : Nat) = 4 by decide)) (xk_k (show ¬ (1 : Nat) = 4 by decide) (Or.inl (show ¬ (1 + 1 : Nat) = 4 by decide)) (xk_k (show ¬ (2 : Nat) = 4 by decide) (Or.inl (show ¬ (2 + 1 : Nat) = 4 by decide)) xk_n)))) rfl ?_
  refine xW_lv rfl (l := [(0, xR_ (x0)), (1, xR_ (x1)), (2, xR_ (x2)), (3, xI (y0)), (4, xI (0))]) (xsb_of ⟨rfl, rfl, rfl, rfl, rfl, trivial⟩ (show [4, 3, 0, 1, 2].Nodup by decide)) ?_
  exact k145_38   hy0 (show xin (0) by decide) h
def f145  (f : Nat) (a0 : Nat) (a1 : Nat) (a2 : Nat) (M : xj_M) : Option (xj_M) := ((xq_pr 10 1 (a0) (a2) M).bind fun M162 => ((xq_pi 10 13 (a0) (0) M162).bind fun M164 => ((xq_pi 10 14 (a0) (0) M164).bind fun M166 => ((xq_gi 3 0 (a2) M166).bind fun v168 => ((xq_gr 2 0 (a1) M166).bind fun v170 => ((xq_gi 3 0 (v170) M166).bind fun v172 => (if (v168) = (v172) then f145_34   f (a0) (a1) (a2) (0) M166 else f145_34   f (a0) (a1) (a2) (1) M166)))))))
theorem k145 {d f : Nat}   {a0 : Nat} {a1 : Nat} {a2 : Nat} {M : xj_M} {R : xj_M}  (h : f145  f a0 a1 a2 M = some R) : xT (d + 3) 145 [xR_ a0, xR_ a1, xR_ a2] M (xQv R) := by
  refine xT_m xr_145_e (X := (none, d + 2, none)) rfl (xa_1 (xR_cat _) (xa_1 (xR_cat _) (xa_1 (xR_cat _) xa_n))) (by decide) ?_
  unfold f145 at h
  refine xe_alr (ins := .aload_n 0) (len := 1) (i := 0) (by decide +kernel) rfl rfl rfl rfl rfl ?_
  refine xe_alr (ins := .aload_n 2) (len := 1) (i := 2) (by decide +kernel) rfl rfl rfl rfl rfl ?_
  obtain ⟨M162, e163, h⟩ := xbnd h
  refine xs_p (i := 60) (c := 10) (k := 1) (by decide +kernel) (by decide +kernel) (by decide +kernel) e163 rfl ?_
  refine xe_alr (ins := .aload_n 0) (len := 1) (i := 0) (by decide +kernel) rfl rfl rfl rfl rfl ?_
  refine xe_iconst (n := 0) (by decide +kernel) rfl ?_
  obtain ⟨M164, e165, h⟩ := xbnd h
  refine xs_p (i := 64) (c := 10) (k := 13) (by decide +kernel) (by decide +kernel) (by decide +kernel) e165 rfl ?_
  refine xe_alr (ins := .aload_n 0) (len := 1) (i := 0) (by decide +kernel) rfl rfl rfl rfl rfl ?_
  refine xe_iconst (n := 0) (by decide +kernel) rfl ?_
  obtain ⟨M166, e167, h⟩ := xbnd h
  refine xs_p (i := 68) (c := 10) (k := 14) (by decide +kernel) (by decide +kernel) (by decide +kernel) e167 rfl ?_
  refine xe_alr (ins := .aload_n 2) (len := 1) (i := 2) (by decide +kernel) rfl rfl rfl rfl rfl ?_
  obtain ⟨v168, e169, h⟩ := xbnd h
  refine xs_gi (i := 71) (c := 3) (k := 0) (by decide +kernel) (by decide) (by decide +kernel) e169 rfl ?_
  refine xe_alr (ins := .aload_n 1) (len := 1) (i := 1) (by decide +kernel) rfl rfl rfl rfl rfl ?_
  obtain ⟨v170, e171, h⟩ := xbnd h
  refine xs_gr (i := 76) (c := 2) (k := 0) (by decide +kernel) (by decide) (by decide +kernel) e171 rfl ?_
  obtain ⟨v172, e173, h⟩ := xbnd h
  refine xs_gi (i := 71) (c := 3) (k := 0) (by decide +kernel) (by decide) (by decide +kernel) e173 rfl ?_
  refine xe_icmpeq (off := 7) (t := 33) (by decide +kernel) (by decide) rfl (xq_gi_in e169) (xq_gi_in e173) (fun c174 => ?_) (fun c174 => ?_)
  · rw [if_pos c174] at h
    refine xe_iconst (n := 0) (by decide +kernel) rfl ?_
    refine xW_lv rfl (l := [(0, xR_ (a0)), (1, xR_ (a1)), (2, xR_ (a2))]) (xsb_of ⟨rfl, rfl, rfl, trivial⟩ (show [0, 1, 2].Nodup by decide)) ?_
    exact k145_34   (show xin (0) by decide) h
  · rw [if_neg c174] at h
    refine xe_iconst (n := 1) (by decide +kernel) rfl ?_
    refine xe_goto (off := 4) (nx := 34) (by decide +kernel) (by decide) ?_
    refine xW_lv rfl (l := [(0, xR_ (a0)), (1, xR_ (a1)), (2, xR_ (a2))]) (xsb_of ⟨rfl, rfl, rfl, trivial⟩ (show [0, 1, 2].Nodup by decide)) ?_
    exact k145_34   (show xin (1) by decide) h
-- ChangeHouse$Works.changeLoose
def xr_147 : xj_mR := (10, yX10_changeLoose, cX10_changeLoose, 4, (Option.none : Option Jvm.ClassFile.FieldType), 2, false, (6, 101), (1, 5))
set_option maxRecDepth 20000 in
theorem xr_147_e : xj_row 147 = some xr_147 := rfl
def f147_83   (f : Nat)  (M : xj_M) : Option (xj_M) := (some M)
theorem k147_83 {d f : Nat}      {M : xj_M} {R : xj_M}  (h : f147_83   f  M = some R) : xW (d + 3) (none, d + 3, none) xr_147 (83, [], [], M) (xQv R) := by
  unfold f147_83 at h
  cases h
  exact xe_ret_v (by decide +kernel) rfl ⟨rfl, rfl⟩
def f147_64   (f : Nat) (x0 : Nat) (x3 : Int) (M : xj_M) : Option (xj_M) := (if 0 ≤ (x3) then f147_83   f  M else ((xq_gr 10 7 (x0) M).bind fun v102 => ((xq_gr 10 9 (x0) M).bind fun v104 => ((xq_is 5 (v102) M).bind fun _ => ((f76  f (v102) (xwr ((-1) - (x3))) (v104) (0) M).bind fun M108 => f147_83   f  M108)))))
theorem k147_64 {d f : Nat}     {x0 : Nat} {x3 : Int} {M : xj_M} {R : xj_M} (hx3 : xin x3) (h : f147_64   f x0 x3 M = some R) : xW (d + 3) (none, d + 3, none) xr_147 (64, [(0, xR_ x0), (3, xI x3)], [], M) (xQv R) := by
  unfold f147_64 at h
  refine xe_ldn (ins := .iload_n 3) (len := 1) (by decide +kernel) rfl rfl rfl rfl ?_
  refine xe_ifge (off := 18) (t := 83) (by decide +kernel) (by decide) rfl hx3 (fun c101 => ?_) (fun c101 => ?_)
  · rw [if_pos c101] at h
    refine xW_lv rfl (l := []) (xsb_of trivial (show [0, 3].Nodup by decide)) ?_
    exact k147_83    h
  · rw [if_neg c101] at h
    refine xe_alr (ins := .aload_n 0) (len := 1) (i := 0) (by decide +kernel) rfl rfl rfl rfl rfl ?_
    obtain ⟨v102, e103, h⟩ := xbnd h
    refine xs_gr (i := 32) (c := 10) (k := 7) (by decide +kernel) (by decide) (by decide +kernel) e103 rfl ?_
    refine xe_iconst (n := -1) (by decide +kernel) rfl ?_
    refine xe_ldn (ins := .iload_n 3) (len := 1) (by decide +kernel) rfl rfl rfl rfl ?_
    refine xe_isub (by decide +kernel) rfl ?_
    refine xe_alr (ins := .aload_n 0) (len := 1) (i := 0) (by decide +kernel) rfl rfl rfl rfl rfl ?_
    obtain ⟨v104, e105, h⟩ := xbnd h
    refine xs_gr (i := 40) (c := 10) (k := 9) (by decide +kernel) (by decide) (by decide +kernel) e105 rfl ?_
    refine xe_iconst (n := 0) (by decide +kernel) rfl ?_
    obtain ⟨_, e107, h⟩ := xbnd h
    obtain ⟨M108, e106, h⟩ := xbnd h
    refine xs_cv (i := 145) (j := 76) (ar := [xI (0), xR_ (v104), xI (xwr ((-1) - (x3)))]) (rest := []) (r2 := xr_76) (by decide +kernel) (by decide +kernel) (by decide +kernel) xr_76_e rfl (by decide) (by decide) e107 ?_
    refine xc_v (k76 (d := d + 2)  (xin_wr _) (show xin (0) by decide) e106) rfl ?_
    refine xW_lv rfl (l := []) (xsb_of trivial (show [0, 3].Nodup by decide)) ?_
    exact k147_83    h
def f147  (f : Nat) (a0 : Nat) (a1 : Int) (a2 : Int) (M : xj_M) : Option (xj_M) := ((xq_gr 10 7 (a0) M).bind fun v110 => ((xq_gr 10 9 (a0) M).bind fun v112 => ((xq_is 5 (v110) M).bind fun _ => ((f74  f (v110) (v112) M).bind fun R116 => (if ¬ (a1) = 0 then (if 0 ≤ (R116.1) then f147_64   f (a0) (R116.1) R116.2 else (if (a2) ≤ 0 then f147_64   f (a0) (R116.1) R116.2 else ((xq_gr 10 7 (a0) R116.2).bind fun v121 => ((xq_gr 10 7 (a0) R116.2).bind fun v123 => ((xq_gr 10 9 (a0) R116.2).bind fun v125 => ((xq_is 5 (v123) R116.2).bind fun _ => ((f75  f (v123) (v125) (a2) R116.2).bind fun R129 => ((xq_is 5 (v121) R129.2).bind fun _ => ((f77  f (v121) (R129.1) R129.2).bind fun M133 => ((xq_gr 10 7 (a0) M133).bind fun v135 => ((xq_gr 10 9 (a0) M133).bind fun v137 => ((xq_is 5 (v135) M133).bind fun _ => ((f74  f (v135) (v137) M133).bind fun R141 => f147_64   f (a0) (R141.1) R141.2))))))))))))) else ((xq_gr 10 7 (a0) R116.2).bind fun v143 => ((xq_is 5 (v143) R116.2).bind fun _ => ((f77  f (v143) (R116.1) R116.2).bind fun M147 => (some M147)))))))))
theorem k147 {d f : Nat}   {a0 : Nat} {a1 : Int} {a2 : Int} {M : xj_M} {R : xj_M} (ha1 : xin a1) (ha2 : xin a2) (h : f147  f a0 a1 a2 M = some R) : xT (d + 4) 147 [xR_ a0, xI a1, xI a2] M (xQv R) := by
  refine xT_m xr_147_e (X := (none, d + 3, none)) rfl (xa_1 (xR_cat _) (xa_1 (xI_cat _) (xa_1 (xI_cat _) xa_n))) (by decide) ?_
  unfold f147 at h
  refine xe_alr (ins := .aload_n 0) (len := 1) (i := 0) (by decide +kernel) rfl rfl rfl rfl rfl ?_
  obtain ⟨v110, e111, h⟩ := xbnd h
  refine xs_gr (i := 32) (c := 10) (k := 7) (by decide +kernel) (by decide) (by decide +kernel) e111 rfl ?_
  refine xe_alr (ins := .aload_n 0) (len := 1) (i := 0) (by decide +kernel) rfl rfl rfl rfl rfl ?_
  obtain ⟨v112, e113, h⟩ := xbnd h
  refine xs_gr (i := 40) (c := 10) (k := 9) (by decide +kernel) (by decide) (by decide +kernel) e113 rfl ?_
  obtain ⟨_, e115, h⟩ := xbnd h
  obtain ⟨R116, e114, h⟩ := xbnd h
  refine xs_cv (i := 134) (j := 74) (ar := [xR_ (v112)]) (rest := []) (r2 := xr_74) (by decide +kernel) (by decide +kernel) (by decide +kernel) xr_74_e rfl (by decide) (by decide) e115 ?_
  refine xc_i (k74 (d := d + 0)   e114) rfl (fun hi117 => ?_)
  refine xe_isr (ins := .istore_n 3) (len := 1) (i := 3) (by decide +kernel) rfl rfl rfl (by decide) (xk_k (show ¬ (0 : Nat) = 3 by decide) (Or.inl (show ¬ (0 + 1 : Nat) = 3 by decide)) (xk_k (show ¬ (1 : Nat) = 3 by decide) (Or.inl (show ¬ (1 + 1 : Nat) = 3 by decide)) (xk_k (show ¬ (2 : Nat) = 3 by decide) (Or.inr (xI_cat _)) xk_n))) rfl ?_
  refine xe_ldn (ins := .iload_n 1) (len := 1) (by decide +kernel) rfl rfl rfl rfl ?_
  refine xe_ifne (off := 12) (t := 25) (by decide +kernel) (by decide) rfl ha1 (fun c118 => ?_) (fun c118 => ?_)
  · rw [if_pos c118] at h
    refine xe_ldn (ins := .iload_n 3) (len := 1) (by decide +kernel) rfl rfl rfl rfl ?_
    refine xe_ifge (off := 38) (t := 64) (by decide +kernel) (by decide) rfl hi117 (fun c119 => ?_) (fun c119 => ?_)
    · rw [if_pos c119] at h
      refine xW_lv rfl (l := [(0, xR_ (a0)), (3, xI (R116.1))]) (xsb_of ⟨rfl, rfl, trivial⟩ (show [3, 0, 1, 2].Nodup by decide)) ?_
      exact k147_64   hi117 h
    · rw [if_neg c119] at h
      refine xe_ldn (ins := .iload_n 2) (len := 1) (by decide +kernel) rfl rfl rfl rfl ?_
      refine xe_ifle (off := 34) (t := 64) (by decide +kernel) (by decide) rfl ha2 (fun c120 => ?_) (fun c120 => ?_)
      · rw [if_pos c120] at h
        refine xW_lv rfl (l := [(0, xR_ (a0)), (3, xI (R116.1))]) (xsb_of ⟨rfl, rfl, trivial⟩ (show [3, 0, 1, 2].Nodup by decide)) ?_
        exact k147_64   hi117 h
      · rw [if_neg c120] at h
        refine xe_alr (ins := .aload_n 0) (len := 1) (i := 0) (by decide +kernel) rfl rfl rfl rfl rfl ?_
        obtain ⟨v121, e122, h⟩ := xbnd h
        refine xs_gr (i := 32) (c := 10) (k := 7) (by decide +kernel) (by decide) (by decide +kernel) e122 rfl ?_
        refine xe_alr (ins := .aload_n 0) (len := 1) (i := 0) (by decide +kernel) rfl rfl rfl rfl rfl ?_
        obtain ⟨v123, e124, h⟩ := xbnd h
        refine xs_gr (i := 32) (c := 10) (k := 7) (by decide +kernel) (by decide) (by decide +kernel) e124 rfl ?_
        refine xe_alr (ins := .aload_n 0) (len := 1) (i := 0) (by decide +kernel) rfl rfl rfl rfl rfl ?_
        obtain ⟨v125, e126, h⟩ := xbnd h
        refine xs_gr (i := 40) (c := 10) (k := 9) (by decide +kernel) (by decide) (by decide +kernel) e126 rfl ?_
        refine xe_ldn (ins := .iload_n 2) (len := 1) (by decide +kernel) rfl rfl rfl rfl ?_
        obtain ⟨_, e128, h⟩ := xbnd h
        obtain ⟨R129, e127, h⟩ := xbnd h
        refine xs_cv (i := 141) (j := 75) (ar := [xI (a2), xR_ (v125)]) (rest := [xR_ (v121)]) (r2 := xr_75) (by decide +kernel) (by decide +kernel) (by decide +kernel) xr_75_e rfl (by decide) (by simp only [List.map_cons, List.map_nil, List.sum_cons, List.sum_nil, xR_cat, xI_cat, xZ_cat]; decide) e128 ?_
        refine xc_i (k75 (d := d + 0)  ha2 e127) rfl (fun hi130 => ?_)
        obtain ⟨_, e132, h⟩ := xbnd h
        obtain ⟨M133, e131, h⟩ := xbnd h
        refine xs_cv (i := 138) (j := 77) (ar := [xI (R129.1)]) (rest := []) (r2 := xr_77) (by decide +kernel) (by decide +kernel) (by decide +kernel) xr_77_e rfl (by decide) (by decide) e132 ?_
        refine xc_v (k77 (d := d + 2)  hi130 e131) rfl ?_
        refine xe_alr (ins := .aload_n 0) (len := 1) (i := 0) (by decide +kernel) rfl rfl rfl rfl rfl ?_
        obtain ⟨v135, e136, h⟩ := xbnd h
        refine xs_gr (i := 32) (c := 10) (k := 7) (by decide +kernel) (by decide) (by decide +kernel) e136 rfl ?_
        refine xe_alr (ins := .aload_n 0) (len := 1) (i := 0) (by decide +kernel) rfl rfl rfl rfl rfl ?_
        obtain ⟨v137, e138, h⟩ := xbnd h
        refine xs_gr (i := 40) (c := 10) (k := 9) (by decide +kernel) (by decide) (by decide +kernel) e138 rfl ?_
        obtain ⟨_, e140, h⟩ := xbnd h
        obtain ⟨R141, e139, h⟩ := xbnd h
        refine xs_cv (i := 134) (j := 74) (ar := [xR_ (v137)]) (rest := []) (r2 := xr_74) (by decide +kernel) (by decide +kernel) (by decide +kernel) xr_74_e rfl (by decide) (by decide) e140 ?_
        refine xc_i (k74 (d := d + 0)   e139) rfl (fun hi142 => ?_)
        refine xe_isr (ins := .istore_n 3) (len := 1) (i := 3) (by decide +kernel) rfl rfl rfl (by decide) (xk_d rfl (xk_k (show ¬ (0 : Nat) = 3 by decide) (Or.inl (show ¬ (0 + 1 : Nat) = 3 by decide)) (xk_k (show ¬ (1 : Nat) = 3 by decide) (Or.inl (show ¬ (1 + 1 : Nat) = 3 by decide)) (xk_k (show ¬ (2 : Nat) = 3 by decide) (Or.inr (xI_cat _)) xk_n)))) rfl ?_
        refine xW_lv rfl (l := [(0, xR_ (a0)), (3, xI (R141.1))]) (xsb_of ⟨rfl, rfl, trivial⟩ (show [3, 0, 1, 2].Nodup by decide)) ?_
        exact k147_64   hi142 h
  · rw [if_neg c118] at h
    refine xe_alr (ins := .aload_n 0) (len := 1) (i := 0) (by decide +kernel) rfl rfl rfl rfl rfl ?_
    obtain ⟨v143, e144, h⟩ := xbnd h
    refine xs_gr (i := 32) (c := 10) (k := 7) (by decide +kernel) (by decide) (by decide +kernel) e144 rfl ?_
    refine xe_ldn (ins := .iload_n 3) (len := 1) (by decide +kernel) rfl rfl rfl rfl ?_
    obtain ⟨_, e146, h⟩ := xbnd h
    obtain ⟨M147, e145, h⟩ := xbnd h
    refine xs_cv (i := 138) (j := 77) (ar := [xI (R116.1)]) (rest := []) (r2 := xr_77) (by decide +kernel) (by decide +kernel) (by decide +kernel) xr_77_e rfl (by decide) (by decide) e146 ?_
    refine xc_v (k77 (d := d + 2)  hi117 e145) rfl ?_
    cases h
    exact xe_ret_v (by decide +kernel) rfl ⟨rfl, rfl⟩
-- ChangeHouse$Works.noteChanged
def xr_148 : xj_mR := (10, yX10_noteChanged, cX10_noteChanged, 2, (Option.none : Option Jvm.ClassFile.FieldType), 1, false, (6, 129), (1, 5))
set_option maxRecDepth 20000 in
theorem xr_148_e : xj_row 148 = some xr_148 := rfl
def f148_30   (f : Nat) (y0 : Int) (y1 : Int) (y2 : Nat) (M : xj_M) : Option (xj_M) := ((xq_pi 10 13 (y2) (xor_ (y1) (y0)) M).bind fun M101 => (some M101))
theorem k148_30 {d f : Nat}     {y0 : Int} {y1 : Int} {y2 : Nat} {M : xj_M} {R : xj_M} (hy0 : xin y0) (hy1 : xin y1) (h : f148_30   f y0 y1 y2 M = some R) : xW (d + 2) (none, d + 2, none) xr_148 (30, [], [xI y0, xI y1, xR_ y2], M) (xQv R) := by
  unfold f148_30 at h
  refine xe_ior (by decide +kernel) rfl ?_
  obtain ⟨M101, e102, h⟩ := xbnd h
  refine xs_p (i := 64) (c := 10) (k := 13) (by decide +kernel) (by decide +kernel) (by decide +kernel) e102 rfl ?_
  cases h
  exact xe_ret_v (by decide +kernel) rfl ⟨rfl, rfl⟩
def f148  (f : Nat) (a0 : Nat) (a1 : Int) (M : xj_M) : Option (xj_M) := ((xq_gi 10 13 (a0) M).bind fun v103 => ((xq_gr 10 2 (a0) M).bind fun v105 => ((xq_ar (v105) (a1) M).bind fun v107 => ((xq_gr 10 3 (a0) M).bind fun v109 => ((xq_ar (v109) (a1) M).bind fun v111 => ((xq_is 5 (v107) M).bind fun _ => ((f81  f (v107) (v111) M).bind fun R115 => (if (R115.1) = 0 then f148_30   f (xshl (1) (a1)) (v103) (a0) R115.2 else f148_30   f (0) (v103) (a0) R115.2))))))))
theorem k148 {d f : Nat}   {a0 : Nat} {a1 : Int} {M : xj_M} {R : xj_M} (ha1 : xin a1) (h : f148  f a0 a1 M = some R) : xT (d + 3) 148 [xR_ a0, xI a1] M (xQv R) := by
  refine xT_m xr_148_e (X := (none, d + 2, none)) rfl (xa_1 (xR_cat _) (xa_1 (xI_cat _) xa_n)) (by decide) ?_
  unfold f148 at h
  refine xe_alr (ins := .aload_n 0) (len := 1) (i := 0) (by decide +kernel) rfl rfl rfl rfl rfl ?_
  refine xe_dupr (by decide +kernel) rfl ?_
  obtain ⟨v103, e104, h⟩ := xbnd h
  refine xs_gi (i := 64) (c := 10) (k := 13) (by decide +kernel) (by decide) (by decide +kernel) e104 rfl ?_
  refine xe_alr (ins := .aload_n 0) (len := 1) (i := 0) (by decide +kernel) rfl rfl rfl rfl rfl ?_
  obtain ⟨v105, e106, h⟩ := xbnd h
  refine xs_gr (i := 11) (c := 10) (k := 2) (by decide +kernel) (by decide) (by decide +kernel) e106 rfl ?_
  refine xe_ldn (ins := .iload_n 1) (len := 1) (by decide +kernel) rfl rfl rfl rfl ?_
  obtain ⟨v107, e108, h⟩ := xbnd h
  refine xs_aald (by decide +kernel) ha1 e108 rfl ?_
  refine xe_alr (ins := .aload_n 0) (len := 1) (i := 0) (by decide +kernel) rfl rfl rfl rfl rfl ?_
  obtain ⟨v109, e110, h⟩ := xbnd h
  refine xs_gr (i := 17) (c := 10) (k := 3) (by decide +kernel) (by decide) (by decide +kernel) e110 rfl ?_
  refine xe_ldn (ins := .iload_n 1) (len := 1) (by decide +kernel) rfl rfl rfl rfl ?_
  obtain ⟨v111, e112, h⟩ := xbnd h
  refine xs_aald (by decide +kernel) ha1 e112 rfl ?_
  obtain ⟨_, e114, h⟩ := xbnd h
  obtain ⟨R115, e113, h⟩ := xbnd h
  refine xs_cv (i := 149) (j := 81) (ar := [xR_ (v111)]) (rest := [xI (v103), xR_ (a0)]) (r2 := xr_81) (by decide +kernel) (by decide +kernel) (by decide +kernel) xr_81_e rfl (by decide) (by simp only [List.map_cons, List.map_nil, List.sum_cons, List.sum_nil, xR_cat, xI_cat, xZ_cat]; decide) e114 ?_
  refine xc_i (k81 (d := d + 0)   e113) rfl (fun hi116 => ?_)
  refine xe_ifeq (off := 7) (t := 27) (by decide +kernel) (by decide) rfl hi116 (fun c117 => ?_) (fun c117 => ?_)
  · rw [if_pos c117] at h
    refine xe_iconst (n := 1) (by decide +kernel) rfl ?_
    refine xe_ldn (ins := .iload_n 1) (len := 1) (by decide +kernel) rfl rfl rfl rfl ?_
    refine xe_ishl (by decide +kernel) rfl ?_
    refine xW_lv rfl (l := []) (xsb_of trivial (show [0, 1].Nodup by decide)) ?_
    exact k148_30   (xin_of _) (xq_gi_in e104) h
  · rw [if_neg c117] at h
    refine xe_iconst (n := 0) (by decide +kernel) rfl ?_
    refine xe_goto (off := 6) (nx := 30) (by decide +kernel) (by decide) ?_
    refine xW_lv rfl (l := []) (xsb_of trivial (show [0, 1].Nodup by decide)) ?_
    exact k148_30   (show xin (0) by decide) (xq_gi_in e104) h
-- ChangeHouse$Works.startRing
def xr_150 : xj_mR := (10, yX10_startRing, cX10_startRing, 3, (Option.none : Option Jvm.ClassFile.FieldType), 1, false, (6, 147), (1, 5))
set_option maxRecDepth 20000 in
theorem xr_150_e : xj_row 150 = some xr_150 := rfl
def f150_74  (r2 : Nat → Int → Int → xj_M → Option (xj_M)) (f : Nat) (x0 : Nat) (x1 : Int) (x2 : Int) (M : xj_M) : Option (xj_M) := r2 (x0) (x1) (xwr ((x2) + (1))) M
theorem k150_74 {d f : Nat}  {r2 : Nat → Int → Int → xj_M → Option (xj_M)}  (hr2 : ∀ {x0 : Nat} {x1 : Int} {x2 : Int} {M : xj_M} {R : xj_M}, xin x1 → xin x2 → r2 x0 x1 x2 M = some R → xW (d + 1) (none, d + 1, none) xr_150 (2, [(0, xR_ x0), (1, xI x1), (2, xI x2)], [], M) (xQv R)) {x0 : Nat} {x1 : Int} {x2 : Int} {M : xj_M} {R : xj_M} (hx1 : xin x1) (hx2 : xin x2) (h : f150_74  r2 f x0 x1 x2 M = some R) : xW (d + 1) (none, d + 1, none) xr_150 (74, [(0, xR_ x0), (1, xI x1), (2, xI x2)], [], M) (xQv R) := by
  unfold f150_74 at h
  refine xe_iincr (i := 2) (n := 1) (by decide +kernel) (by decide) rfl (xk_k (show ¬ (0 : Nat) = 2 by decide) (Or.inl (show ¬ (0 + 1 : Nat) = 2 by decide)) (xk_k (show ¬ (1 : Nat) = 2 by decide) (Or.inr (xI_cat _)) (xk_d rfl xk_n))) rfl ?_
  refine xe_goto (off := -75) (nx := 2) (by decide +kernel) (by decide) ?_
  refine xW_lv rfl (l := [(0, xR_ (x0)), (1, xI (x1)), (2, xI (xwr ((x2) + (1))))]) (xsb_of ⟨rfl, rfl, rfl, trivial⟩ (show [2, 0, 1].Nodup by decide)) ?_
  exact hr2 hx1 (xin_wr _) h
def f150_2b  (r2 : Nat → Int → Int → xj_M → Option (xj_M)) (f : Nat) (x0 : Nat) (x1 : Int) (x2 : Int) (M : xj_M) : Option (xj_M) := ((xq_gr 10 1 (x0) M).bind fun v101 => ((xq_gi 3 1 (v101) M).bind fun v103 => (if (v103) ≤ (x2) then (some M) else ((xq_gr 10 1 (x0) M).bind fun v106 => ((xq_gr 3 10 (v106) M).bind fun v108 => ((xq_ai 3 (v108) (x2) M).bind fun v110 => (if ¬ (v110) = (x1) then f150_74  r2 f (x0) (x1) (x2) M else ((xq_gr 10 4 (x0) M).bind fun v113 => ((xq_ar (v113) (x2) M).bind fun v115 => ((xq_gr 10 1 (x0) M).bind fun v117 => ((xq_gr 3 3 (v117) M).bind fun v119 => ((xq_ai 3 (v119) (x2) M).bind fun v121 => ((xq_is 5 (v115) M).bind fun _ => ((f69  f (v115) (v121) M).bind fun M125 => ((xq_gr 10 5 (x0) M125).bind fun v127 => ((xq_ar (v127) (x2) M125).bind fun v129 => ((xq_gr 10 1 (x0) M125).bind fun v131 => ((xq_gr 3 3 (v131) M125).bind fun v133 => ((xq_ai 3 (v133) (x2) M125).bind fun v135 => ((xq_is 5 (v129) M125).bind fun _ => ((f69  f (v129) (v135) M125).bind fun M139 => ((xq_gr 10 2 (x0) M139).bind fun v141 => ((xq_gr 10 4 (x0) M139).bind fun v143 => ((xq_ar (v143) (x2) M139).bind fun v145 => ((xq_sr (v141) (x2) (v145) M139).bind fun M147 => f150_74  r2 f (x0) (x1) (x2) M147)))))))))))))))))))))))))
theorem k150_2b {d f : Nat}  {r2 : Nat → Int → Int → xj_M → Option (xj_M)}  (hr2 : ∀ {x0 : Nat} {x1 : Int} {x2 : Int} {M : xj_M} {R : xj_M}, xin x1 → xin x2 → r2 x0 x1 x2 M = some R → xW (d + 1) (none, d + 1, none) xr_150 (2, [(0, xR_ x0), (1, xI x1), (2, xI x2)], [], M) (xQv R)) {x0 : Nat} {x1 : Int} {x2 : Int} {M : xj_M} {R : xj_M} (hx1 : xin x1) (hx2 : xin x2) (h : f150_2b  r2 f x0 x1 x2 M = some R) : xW (d + 1) (none, d + 1, none) xr_150 (2, [(0, xR_ x0), (1, xI x1), (2, xI x2)], [], M) (xQv R) := by
  unfold f150_2b at h
  refine xe_ldn (ins := .iload_n 2) (len := 1) (by decide +kernel) rfl rfl rfl rfl ?_
  refine xe_alr (ins := .aload_n 0) (len := 1) (i := 0) (by decide +kernel) rfl rfl rfl rfl rfl ?_
  obtain ⟨v101, e102, h⟩ := xbnd h
  refine xs_gr (i := 60) (c := 10) (k := 1) (by decide +kernel) (by decide) (by decide +kernel) e102 rfl ?_
  obtain ⟨v103, e104, h⟩ := xbnd h
  refine xs_gi (i := 79) (c := 3) (k := 1) (by decide +kernel) (by decide) (by decide +kernel) e104 rfl ?_
  refine xe_icmpge (off := 70) (t := 80) (by decide +kernel) (by decide) rfl hx2 (xq_gi_in e104) (fun c105 => ?_) (fun c105 => ?_)
  · rw [if_pos c105] at h
    cases h
    exact xe_ret_v (by decide +kernel) rfl ⟨rfl, rfl⟩
  · rw [if_neg c105] at h
    refine xe_alr (ins := .aload_n 0) (len := 1) (i := 0) (by decide +kernel) rfl rfl rfl rfl rfl ?_
    obtain ⟨v106, e107, h⟩ := xbnd h
    refine xs_gr (i := 60) (c := 10) (k := 1) (by decide +kernel) (by decide) (by decide +kernel) e107 rfl ?_
    obtain ⟨v108, e109, h⟩ := xbnd h
    refine xs_gr (i := 173) (c := 3) (k := 10) (by decide +kernel) (by decide) (by decide +kernel) e109 rfl ?_
    refine xe_ldn (ins := .iload_n 2) (len := 1) (by decide +kernel) rfl rfl rfl rfl ?_
    obtain ⟨v110, e111, h⟩ := xbnd h
    refine xs_iald rfl (by decide +kernel) hx2 e111 rfl ?_
    refine xe_ldn (ins := .iload_n 1) (len := 1) (by decide +kernel) rfl rfl rfl rfl ?_
    refine xe_icmpne (off := 51) (t := 74) (by decide +kernel) (by decide) rfl (xq_ai_in e111) hx1 (fun c112 => ?_) (fun c112 => ?_)
    · rw [if_pos c112] at h
      refine xW_lv rfl (l := [(0, xR_ (x0)), (1, xI (x1)), (2, xI (x2))]) (xsb_of ⟨rfl, rfl, rfl, trivial⟩ (show [0, 1, 2].Nodup by decide)) ?_
      exact k150_74  hr2 hx1 hx2 h
    · rw [if_neg c112] at h
      refine xe_alr (ins := .aload_n 0) (len := 1) (i := 0) (by decide +kernel) rfl rfl rfl rfl rfl ?_
      obtain ⟨v113, e114, h⟩ := xbnd h
      refine xs_gr (i := 20) (c := 10) (k := 4) (by decide +kernel) (by decide) (by decide +kernel) e114 rfl ?_
      refine xe_ldn (ins := .iload_n 2) (len := 1) (by decide +kernel) rfl rfl rfl rfl ?_
      obtain ⟨v115, e116, h⟩ := xbnd h
      refine xs_aald (by decide +kernel) hx2 e116 rfl ?_
      refine xe_alr (ins := .aload_n 0) (len := 1) (i := 0) (by decide +kernel) rfl rfl rfl rfl rfl ?_
      obtain ⟨v117, e118, h⟩ := xbnd h
      refine xs_gr (i := 60) (c := 10) (k := 1) (by decide +kernel) (by decide) (by decide +kernel) e118 rfl ?_
      obtain ⟨v119, e120, h⟩ := xbnd h
      refine xs_gr (i := 86) (c := 3) (k := 3) (by decide +kernel) (by decide) (by decide +kernel) e120 rfl ?_
      refine xe_ldn (ins := .iload_n 2) (len := 1) (by decide +kernel) rfl rfl rfl rfl ?_
      obtain ⟨v121, e122, h⟩ := xbnd h
      refine xs_iald rfl (by decide +kernel) hx2 e122 rfl ?_
      obtain ⟨_, e124, h⟩ := xbnd h
      obtain ⟨M125, e123, h⟩ := xbnd h
      refine xs_cv (i := 201) (j := 69) (ar := [xI (v121)]) (rest := []) (r2 := xr_69) (by decide +kernel) (by decide +kernel) (by decide +kernel) xr_69_e rfl (by decide) (by decide) e124 ?_
      refine xc_v (k69 (d := d + 0)  (xq_ai_in e122) e123) rfl ?_
      refine xe_alr (ins := .aload_n 0) (len := 1) (i := 0) (by decide +kernel) rfl rfl rfl rfl rfl ?_
      obtain ⟨v127, e128, h⟩ := xbnd h
      refine xs_gr (i := 23) (c := 10) (k := 5) (by decide +kernel) (by decide) (by decide +kernel) e128 rfl ?_
      refine xe_ldn (ins := .iload_n 2) (len := 1) (by decide +kernel) rfl rfl rfl rfl ?_
      obtain ⟨v129, e130, h⟩ := xbnd h
      refine xs_aald (by decide +kernel) hx2 e130 rfl ?_
      refine xe_alr (ins := .aload_n 0) (len := 1) (i := 0) (by decide +kernel) rfl rfl rfl rfl rfl ?_
      obtain ⟨v131, e132, h⟩ := xbnd h
      refine xs_gr (i := 60) (c := 10) (k := 1) (by decide +kernel) (by decide) (by decide +kernel) e132 rfl ?_
      obtain ⟨v133, e134, h⟩ := xbnd h
      refine xs_gr (i := 86) (c := 3) (k := 3) (by decide +kernel) (by decide) (by decide +kernel) e134 rfl ?_
      refine xe_ldn (ins := .iload_n 2) (len := 1) (by decide +kernel) rfl rfl rfl rfl ?_
      obtain ⟨v135, e136, h⟩ := xbnd h
      refine xs_iald rfl (by decide +kernel) hx2 e136 rfl ?_
      obtain ⟨_, e138, h⟩ := xbnd h
      obtain ⟨M139, e137, h⟩ := xbnd h
      refine xs_cv (i := 201) (j := 69) (ar := [xI (v135)]) (rest := []) (r2 := xr_69) (by decide +kernel) (by decide +kernel) (by decide +kernel) xr_69_e rfl (by decide) (by decide) e138 ?_
      refine xc_v (k69 (d := d + 0)  (xq_ai_in e136) e137) rfl ?_
      refine xe_alr (ins := .aload_n 0) (len := 1) (i := 0) (by decide +kernel) rfl rfl rfl rfl rfl ?_
      obtain ⟨v141, e142, h⟩ := xbnd h
      refine xs_gr (i := 11) (c := 10) (k := 2) (by decide +kernel) (by decide) (by decide +kernel) e142 rfl ?_
      refine xe_ldn (ins := .iload_n 2) (len := 1) (by decide +kernel) rfl rfl rfl rfl ?_
      refine xe_alr (ins := .aload_n 0) (len := 1) (i := 0) (by decide +kernel) rfl rfl rfl rfl rfl ?_
      obtain ⟨v143, e144, h⟩ := xbnd h
      refine xs_gr (i := 20) (c := 10) (k := 4) (by decide +kernel) (by decide) (by decide +kernel) e144 rfl ?_
      refine xe_ldn (ins := .iload_n 2) (len := 1) (by decide +kernel) rfl rfl rfl rfl ?_
      obtain ⟨v145, e146, h⟩ := xbnd h
      refine xs_aald (by decide +kernel) hx2 e146 rfl ?_
      obtain ⟨M147, e148, h⟩ := xbnd h
      refine xs_aast (by decide +kernel) hx2 e148 rfl ?_
      refine xW_lv rfl (l := [(0, xR_ (x0)), (1, xI (x1)), (2, xI (x2))]) (xsb_of ⟨rfl, rfl, rfl, trivial⟩ (show [0, 1, 2].Nodup by decide)) ?_
      exact k150_74  hr2 hx1 hx2 h
def f150_2   (f : Nat) : Nat → Nat → Int → Int → xj_M → Option (xj_M)
  | 0, _, _, _, _ => none
  | n + 1, x0, x1, x2, M => f150_2b   (f150_2   f n) f x0 x1 x2 M
theorem k150_2 {d f : Nat}     : ∀ {n : Nat} {x0 : Nat} {x1 : Int} {x2 : Int} {M : xj_M} {R : xj_M}, xin x1 → xin x2 → f150_2   f n x0 x1 x2 M = some R → xW (d + 1) (none, d + 1, none) xr_150 (2, [(0, xR_ x0), (1, xI x1), (2, xI x2)], [], M) (xQv R) := by
  intro n
  induction n with
  | zero => intros; rename_i h; cases h
  | succ n ih => intros; rename_i h; exact k150_2b   ih (by assumption) (by assumption) h
def f150  (f : Nat) (a0 : Nat) (a1 : Int) (M : xj_M) : Option (xj_M) := f150_2   f f (a0) (a1) (0) M
theorem k150 {d f : Nat}   {a0 : Nat} {a1 : Int} {M : xj_M} {R : xj_M} (ha1 : xin a1) (h : f150  f a0 a1 M = some R) : xT (d + 2) 150 [xR_ a0, xI a1] M (xQv R) := by
  refine xT_m xr_150_e (X := (none, d + 1, none)) rfl (xa_1 (xR_cat _) (xa_1 (xI_cat _) xa_n)) (by decide) ?_
  unfold f150 at h
  refine xe_iconst (n := 0) (by decide +kernel) rfl ?_
  refine xe_isr (ins := .istore_n 2) (len := 1) (i := 2) (by decide +kernel) rfl rfl rfl (by decide) (xk_k (show ¬ (0 : Nat) = 2 by decide) (Or.inl (show ¬ (0 + 1 : Nat) = 2 by decide)) (xk_k (show ¬ (1 : Nat) = 2 by decide) (Or.inr (xI_cat _)) xk_n)) rfl ?_
  refine xW_lv rfl (l := [(0, xR_ (a0)), (1, xI (a1)), (2, xI (0))]) (xsb_of ⟨rfl, rfl, rfl, trivial⟩ (show [2, 0, 1].Nodup by decide)) ?_
  exact k150_2   ha1 (show xin (0) by decide) h
-- ChangeHouse$Works.isOwn
def xr_152 : xj_mR := (10, yX10_isOwn, cX10_isOwn, 3, (Option.some Jvm.ClassFile.FieldType.boolean), 3, false, (6, 155), (1, 5))
set_option maxRecDepth 20000 in
theorem xr_152_e : xj_row 152 = some xr_152 := rfl
def f152_30   (f : Nat) (y0 : Int) (M : xj_M) : Option (Int × xj_M) := (if (y0) = 0 ∨ (y0) = 1 then some (y0, M) else none)
theorem k152_30 {d f : Nat}     {y0 : Int} {M : xj_M} {R : Int × xj_M} (hy0 : xin y0) (h : f152_30   f y0 M = some R) : xW (d + 0) (none, d + 0, none) xr_152 (30, [], [xI y0], M) (xQi R) := by
  unfold f152_30 at h
  by_cases c101 : (y0) = 0 ∨ (y0) = 1
  · rw [if_pos c101] at h; cases h; exact xe_ret_i (ty := .boolean) (by decide +kernel) rfl (xbool c101) ⟨rfl, rfl, hy0⟩
  · rw [if_neg c101] at h; cases h
def f152_29   (f : Nat)  (M : xj_M) : Option (Int × xj_M) := f152_30   f (0) M
theorem k152_29 {d f : Nat}      {M : xj_M} {R : Int × xj_M}  (h : f152_29   f  M = some R) : xW (d + 0) (none, d + 0, none) xr_152 (29, [], [], M) (xQi R) := by
  unfold f152_29 at h
  refine xe_iconst (n := 0) (by decide +kernel) rfl ?_
  refine xW_lv rfl (l := []) (xsb_of trivial (show [].Nodup by decide)) ?_
  exact k152_30   (show xin (0) by decide) h
def f152  (f : Nat) (a0 : Nat) (a1 : Int) (a2 : Int) (M : xj_M) : Option (Int × xj_M) := ((xq_gr 6 9 (a0) M).bind fun v102 => ((xq_ai 3 (v102) (a1) M).bind fun v104 => (if ¬ (v104) = (15) then f152_29   f  M else ((xq_gr 6 10 (a0) M).bind fun v107 => ((xq_ai 3 (v107) (a1) M).bind fun v109 => (if ¬ (xand (xshr (a2) (v109)) (1)) = (1) then f152_29   f  M else f152_30   f (1) M))))))
theorem k152 {d f : Nat}   {a0 : Nat} {a1 : Int} {a2 : Int} {M : xj_M} {R : Int × xj_M} (ha1 : xin a1) (ha2 : xin a2) (h : f152  f a0 a1 a2 M = some R) : xT (d + 1) 152 [xR_ a0, xI a1, xI a2] M (xQi R) := by
  refine xT_m xr_152_e (X := (none, d + 0, none)) rfl (xa_1 (xR_cat _) (xa_1 (xI_cat _) (xa_1 (xI_cat _) xa_n))) (by decide) ?_
  unfold f152 at h
  refine xe_alr (ins := .aload_n 0) (len := 1) (i := 0) (by decide +kernel) rfl rfl rfl rfl rfl ?_
  obtain ⟨v102, e103, h⟩ := xbnd h
  refine xs_gr (i := 211) (c := 6) (k := 9) (by decide +kernel) (by decide) (by decide +kernel) e103 rfl ?_
  refine xe_ldn (ins := .iload_n 1) (len := 1) (by decide +kernel) rfl rfl rfl rfl ?_
  obtain ⟨v104, e105, h⟩ := xbnd h
  refine xs_iald rfl (by decide +kernel) ha1 e105 rfl ?_
  refine xe_bipush (n := 15) (by decide +kernel) (by decide) rfl ?_
  refine xe_icmpne (off := 21) (t := 29) (by decide +kernel) (by decide) rfl (xq_ai_in e105) (show xin (15) by decide) (fun c106 => ?_) (fun c106 => ?_)
  · rw [if_pos c106] at h
    refine xW_lv rfl (l := []) (xsb_of trivial (show [0, 1, 2].Nodup by decide)) ?_
    exact k152_29    h
  · rw [if_neg c106] at h
    refine xe_ldn (ins := .iload_n 2) (len := 1) (by decide +kernel) rfl rfl rfl rfl ?_
    refine xe_alr (ins := .aload_n 0) (len := 1) (i := 0) (by decide +kernel) rfl rfl rfl rfl rfl ?_
    obtain ⟨v107, e108, h⟩ := xbnd h
    refine xs_gr (i := 214) (c := 6) (k := 10) (by decide +kernel) (by decide) (by decide +kernel) e108 rfl ?_
    refine xe_ldn (ins := .iload_n 1) (len := 1) (by decide +kernel) rfl rfl rfl rfl ?_
    obtain ⟨v109, e110, h⟩ := xbnd h
    refine xs_iald rfl (by decide +kernel) ha1 e110 rfl ?_
    refine xe_ishr (by decide +kernel) rfl ?_
    refine xe_iconst (n := 1) (by decide +kernel) rfl ?_
    refine xe_iand (by decide +kernel) rfl ?_
    refine xe_iconst (n := 1) (by decide +kernel) rfl ?_
    refine xe_icmpne (off := 7) (t := 29) (by decide +kernel) (by decide) rfl (xin_of _) (show xin (1) by decide) (fun c111 => ?_) (fun c111 => ?_)
    · rw [if_pos c111] at h
      refine xW_lv rfl (l := []) (xsb_of trivial (show [0, 1, 2].Nodup by decide)) ?_
      exact k152_29    h
    · rw [if_neg c111] at h
      refine xe_iconst (n := 1) (by decide +kernel) rfl ?_
      refine xe_goto (off := 4) (nx := 30) (by decide +kernel) (by decide) ?_
      refine xW_lv rfl (l := []) (xsb_of trivial (show [0, 1, 2].Nodup by decide)) ?_
      exact k152_30   (show xin (1) by decide) h
-- ChangeHouse$Works.takeFresh
def xr_154 : xj_mR := (10, yX10_takeFresh, cX10_takeFresh, 5, (Option.none : Option Jvm.ClassFile.FieldType), 2, false, (7, 33), (1, 5))
set_option maxRecDepth 20000 in
theorem xr_154_e : xj_row 154 = some xr_154 := rfl
def f154_103  (r2 : Nat → Int → Int → Int → xj_M → Option (xj_M)) (f : Nat) (x0 : Nat) (x1 : Int) (x2 : Int) (x3 : Int) (M : xj_M) : Option (xj_M) := r2 (x0) (x1) (x2) (xwr ((x3) + (1))) M
theorem k154_103 {d f : Nat}  {r2 : Nat → Int → Int → Int → xj_M → Option (xj_M)}  (hr2 : ∀ {x0 : Nat} {x1 : Int} {x2 : Int} {x3 : Int} {M : xj_M} {R : xj_M}, xin x1 → xin x2 → xin x3 → r2 x0 x1 x2 x3 M = some R → xW (d + 3) (none, d + 3, none) xr_154 (2, [(0, xR_ x0), (1, xI x1), (2, xI x2), (3, xI x3)], [], M) (xQv R)) {x0 : Nat} {x1 : Int} {x2 : Int} {x3 : Int} {M : xj_M} {R : xj_M} (hx1 : xin x1) (hx2 : xin x2) (hx3 : xin x3) (h : f154_103  r2 f x0 x1 x2 x3 M = some R) : xW (d + 3) (none, d + 3, none) xr_154 (103, [(0, xR_ x0), (1, xI x1), (2, xI x2), (3, xI x3)], [], M) (xQv R) := by
  unfold f154_103 at h
  refine xe_iincr (i := 3) (n := 1) (by decide +kernel) (by decide) rfl (xk_k (show ¬ (0 : Nat) = 3 by decide) (Or.inl (show ¬ (0 + 1 : Nat) = 3 by decide)) (xk_k (show ¬ (1 : Nat) = 3 by decide) (Or.inl (show ¬ (1 + 1 : Nat) = 3 by decide)) (xk_k (show ¬ (2 : Nat) = 3 by decide) (Or.inr (xI_cat _)) (xk_d rfl xk_n)))) rfl ?_
  refine xe_goto (off := -104) (nx := 2) (by decide +kernel) (by decide) ?_
  refine xW_lv rfl (l := [(0, xR_ (x0)), (1, xI (x1)), (2, xI (x2)), (3, xI (xwr ((x3) + (1))))]) (xsb_of ⟨rfl, rfl, rfl, rfl, trivial⟩ (show [3, 0, 1, 2].Nodup by decide)) ?_
  exact hr2 hx1 hx2 (xin_wr _) h
def f154_29b  (r2 : Nat → Int → Int → Int → xj_M → Option (xj_M)) (r29 : Nat → Int → Int → Int → Int → xj_M → Option (xj_M)) (f : Nat) (x0 : Nat) (x1 : Int) (x2 : Int) (x3 : Int) (x4 : Int) (M : xj_M) : Option (xj_M) := ((xq_gr 10 5 (x0) M).bind fun v101 => ((xq_ar (v101) (x3) M).bind fun v103 => ((xq_gi 5 1 (v103) M).bind fun v105 => (if (v105) ≤ (x4) then ((xq_gr 10 5 (x0) M).bind fun v108 => ((xq_ar (v108) (x3) M).bind fun v110 => ((xq_pi 5 1 (v110) (0) M).bind fun M112 => f154_103  r2 f (x0) (x1) (x2) (x3) M112))) else ((xq_gr 10 5 (x0) M).bind fun v114 => ((xq_ar (v114) (x3) M).bind fun v116 => ((xq_gr 10 9 (x0) M).bind fun v118 => ((xq_is 5 (v116) M).bind fun _ => ((f78  f (v116) (x4) (v118) M).bind fun M122 => ((xq_gr 10 4 (x0) M122).bind fun v124 => ((xq_ar (v124) (x3) M122).bind fun v126 => ((xq_gr 10 4 (x0) M122).bind fun v128 => ((xq_ar (v128) (x3) M122).bind fun v130 => ((xq_gr 10 9 (x0) M122).bind fun v132 => ((xq_is 5 (v130) M122).bind fun _ => ((f74  f (v130) (v132) M122).bind fun R136 => ((xq_gr 10 9 (x0) R136.2).bind fun v138 => ((xq_is 5 (v126) R136.2).bind fun _ => ((f76  f (v126) (xwr ((-1) - (R136.1))) (v138) (x2) R136.2).bind fun M142 => r29 (x0) (x1) (x2) (x3) (xwr ((x4) + (1))) M142)))))))))))))))))))
theorem k154_29b {d f : Nat}  {r2 : Nat → Int → Int → Int → xj_M → Option (xj_M)} {r29 : Nat → Int → Int → Int → Int → xj_M → Option (xj_M)}  (hr2 : ∀ {x0 : Nat} {x1 : Int} {x2 : Int} {x3 : Int} {M : xj_M} {R : xj_M}, xin x1 → xin x2 → xin x3 → r2 x0 x1 x2 x3 M = some R → xW (d + 3) (none, d + 3, none) xr_154 (2, [(0, xR_ x0), (1, xI x1), (2, xI x2), (3, xI x3)], [], M) (xQv R)) (hr29 : ∀ {x0 : Nat} {x1 : Int} {x2 : Int} {x3 : Int} {x4 : Int} {M : xj_M} {R : xj_M}, xin x1 → xin x2 → xin x3 → xin x4 → r29 x0 x1 x2 x3 x4 M = some R → xW (d + 3) (none, d + 3, none) xr_154 (29, [(0, xR_ x0), (1, xI x1), (2, xI x2), (3, xI x3), (4, xI x4)], [], M) (xQv R)) {x0 : Nat} {x1 : Int} {x2 : Int} {x3 : Int} {x4 : Int} {M : xj_M} {R : xj_M} (hx1 : xin x1) (hx2 : xin x2) (hx3 : xin x3) (hx4 : xin x4) (h : f154_29b  r2 r29 f x0 x1 x2 x3 x4 M = some R) : xW (d + 3) (none, d + 3, none) xr_154 (29, [(0, xR_ x0), (1, xI x1), (2, xI x2), (3, xI x3), (4, xI x4)], [], M) (xQv R) := by
  unfold f154_29b at h
  refine xe_ldn (ins := .iload 4) (len := 2) (by decide +kernel) rfl rfl rfl rfl ?_
  refine xe_alr (ins := .aload_n 0) (len := 1) (i := 0) (by decide +kernel) rfl rfl rfl rfl rfl ?_
  obtain ⟨v101, e102, h⟩ := xbnd h
  refine xs_gr (i := 23) (c := 10) (k := 5) (by decide +kernel) (by decide) (by decide +kernel) e102 rfl ?_
  refine xe_ldn (ins := .iload_n 3) (len := 1) (by decide +kernel) rfl rfl rfl rfl ?_
  obtain ⟨v103, e104, h⟩ := xbnd h
  refine xs_aald (by decide +kernel) hx3 e104 rfl ?_
  obtain ⟨v105, e106, h⟩ := xbnd h
  refine xs_gi (i := 127) (c := 5) (k := 1) (by decide +kernel) (by decide) (by decide +kernel) e106 rfl ?_
  refine xe_icmpge (off := 53) (t := 93) (by decide +kernel) (by decide) rfl hx4 (xq_gi_in e106) (fun c107 => ?_) (fun c107 => ?_)
  · rw [if_pos c107] at h
    refine xe_alr (ins := .aload_n 0) (len := 1) (i := 0) (by decide +kernel) rfl rfl rfl rfl rfl ?_
    obtain ⟨v108, e109, h⟩ := xbnd h
    refine xs_gr (i := 23) (c := 10) (k := 5) (by decide +kernel) (by decide) (by decide +kernel) e109 rfl ?_
    refine xe_ldn (ins := .iload_n 3) (len := 1) (by decide +kernel) rfl rfl rfl rfl ?_
    obtain ⟨v110, e111, h⟩ := xbnd h
    refine xs_aald (by decide +kernel) hx3 e111 rfl ?_
    refine xe_iconst (n := 0) (by decide +kernel) rfl ?_
    obtain ⟨M112, e113, h⟩ := xbnd h
    refine xs_p (i := 127) (c := 5) (k := 1) (by decide +kernel) (by decide +kernel) (by decide +kernel) e113 rfl ?_
    refine xW_lv rfl (l := [(0, xR_ (x0)), (1, xI (x1)), (2, xI (x2)), (3, xI (x3))]) (xsb_of ⟨rfl, rfl, rfl, rfl, trivial⟩ (show [0, 1, 2, 3, 4].Nodup by decide)) ?_
    exact k154_103  hr2 hx1 hx2 hx3 h
  · rw [if_neg c107] at h
    refine xe_alr (ins := .aload_n 0) (len := 1) (i := 0) (by decide +kernel) rfl rfl rfl rfl rfl ?_
    obtain ⟨v114, e115, h⟩ := xbnd h
    refine xs_gr (i := 23) (c := 10) (k := 5) (by decide +kernel) (by decide) (by decide +kernel) e115 rfl ?_
    refine xe_ldn (ins := .iload_n 3) (len := 1) (by decide +kernel) rfl rfl rfl rfl ?_
    obtain ⟨v116, e117, h⟩ := xbnd h
    refine xs_aald (by decide +kernel) hx3 e117 rfl ?_
    refine xe_ldn (ins := .iload 4) (len := 2) (by decide +kernel) rfl rfl rfl rfl ?_
    refine xe_alr (ins := .aload_n 0) (len := 1) (i := 0) (by decide +kernel) rfl rfl rfl rfl rfl ?_
    obtain ⟨v118, e119, h⟩ := xbnd h
    refine xs_gr (i := 40) (c := 10) (k := 9) (by decide +kernel) (by decide) (by decide +kernel) e119 rfl ?_
    obtain ⟨_, e121, h⟩ := xbnd h
    obtain ⟨M122, e120, h⟩ := xbnd h
    refine xs_cv (i := 228) (j := 78) (ar := [xR_ (v118), xI (x4)]) (rest := []) (r2 := xr_78) (by decide +kernel) (by decide +kernel) (by decide +kernel) xr_78_e rfl (by decide) (by decide) e121 ?_
    refine xc_v (k78 (d := d + 2)  hx4 e120) rfl ?_
    refine xe_alr (ins := .aload_n 0) (len := 1) (i := 0) (by decide +kernel) rfl rfl rfl rfl rfl ?_
    obtain ⟨v124, e125, h⟩ := xbnd h
    refine xs_gr (i := 20) (c := 10) (k := 4) (by decide +kernel) (by decide) (by decide +kernel) e125 rfl ?_
    refine xe_ldn (ins := .iload_n 3) (len := 1) (by decide +kernel) rfl rfl rfl rfl ?_
    obtain ⟨v126, e127, h⟩ := xbnd h
    refine xs_aald (by decide +kernel) hx3 e127 rfl ?_
    refine xe_iconst (n := -1) (by decide +kernel) rfl ?_
    refine xe_alr (ins := .aload_n 0) (len := 1) (i := 0) (by decide +kernel) rfl rfl rfl rfl rfl ?_
    obtain ⟨v128, e129, h⟩ := xbnd h
    refine xs_gr (i := 20) (c := 10) (k := 4) (by decide +kernel) (by decide) (by decide +kernel) e129 rfl ?_
    refine xe_ldn (ins := .iload_n 3) (len := 1) (by decide +kernel) rfl rfl rfl rfl ?_
    obtain ⟨v130, e131, h⟩ := xbnd h
    refine xs_aald (by decide +kernel) hx3 e131 rfl ?_
    refine xe_alr (ins := .aload_n 0) (len := 1) (i := 0) (by decide +kernel) rfl rfl rfl rfl rfl ?_
    obtain ⟨v132, e133, h⟩ := xbnd h
    refine xs_gr (i := 40) (c := 10) (k := 9) (by decide +kernel) (by decide) (by decide +kernel) e133 rfl ?_
    obtain ⟨_, e135, h⟩ := xbnd h
    obtain ⟨R136, e134, h⟩ := xbnd h
    refine xs_cv (i := 134) (j := 74) (ar := [xR_ (v132)]) (rest := [xI (-1), xR_ (v126)]) (r2 := xr_74) (by decide +kernel) (by decide +kernel) (by decide +kernel) xr_74_e rfl (by decide) (by simp only [List.map_cons, List.map_nil, List.sum_cons, List.sum_nil, xR_cat, xI_cat, xZ_cat]; decide) e135 ?_
    refine xc_i (k74 (d := d + 0)   e134) rfl (fun hi137 => ?_)
    refine xe_isub (by decide +kernel) rfl ?_
    refine xe_alr (ins := .aload_n 0) (len := 1) (i := 0) (by decide +kernel) rfl rfl rfl rfl rfl ?_
    obtain ⟨v138, e139, h⟩ := xbnd h
    refine xs_gr (i := 40) (c := 10) (k := 9) (by decide +kernel) (by decide) (by decide +kernel) e139 rfl ?_
    refine xe_ldn (ins := .iload_n 2) (len := 1) (by decide +kernel) rfl rfl rfl rfl ?_
    obtain ⟨_, e141, h⟩ := xbnd h
    obtain ⟨M142, e140, h⟩ := xbnd h
    refine xs_cv (i := 145) (j := 76) (ar := [xI (x2), xR_ (v138), xI (xwr ((-1) - (R136.1)))]) (rest := []) (r2 := xr_76) (by decide +kernel) (by decide +kernel) (by decide +kernel) xr_76_e rfl (by decide) (by decide) e141 ?_
    refine xc_v (k76 (d := d + 2)  (xin_wr _) hx2 e140) rfl ?_
    refine xe_iincr (i := 4) (n := 1) (by decide +kernel) (by decide) rfl (xk_k (show ¬ (0 : Nat) = 4 by decide) (Or.inl (show ¬ (0 + 1 : Nat) = 4 by decide)) (xk_k (show ¬ (1 : Nat) = 4 by decide) (Or.inl (show ¬ (1 + 1 : Nat) = 4 by decide)) (xk_k (show ¬ (2 : Nat) = 4 by decide) (Or.inl (show ¬ (2 + 1 : Nat) = 4 by decide)) (xk_k (show ¬ (3 : Nat) = 4 by decide) (Or.inr (xI_cat _)) (xk_d rfl xk_n))))) rfl ?_
    refine xe_goto (off := -61) (nx := 29) (by decide +kernel) (by decide) ?_
    refine xW_lv rfl (l := [(0, xR_ (x0)), (1, xI (x1)), (2, xI (x2)), (3, xI (x3)), (4, xI (xwr ((x4) + (1))))]) (xsb_of ⟨rfl, rfl, rfl, rfl, rfl, trivial⟩ (show [4, 0, 1, 2, 3].Nodup by decide)) ?_
    exact hr29 hx1 hx2 hx3 (xin_wr _) h
def f154_29  (r2 : Nat → Int → Int → Int → xj_M → Option (xj_M)) (f : Nat) : Nat → Nat → Int → Int → Int → Int → xj_M → Option (xj_M)
  | 0, _, _, _, _, _, _ => none
  | n + 1, x0, x1, x2, x3, x4, M => f154_29b  r2 (f154_29  r2 f n) f x0 x1 x2 x3 x4 M
theorem k154_29 {d f : Nat}  {r2 : Nat → Int → Int → Int → xj_M → Option (xj_M)}  (hr2 : ∀ {x0 : Nat} {x1 : Int} {x2 : Int} {x3 : Int} {M : xj_M} {R : xj_M}, xin x1 → xin x2 → xin x3 → r2 x0 x1 x2 x3 M = some R → xW (d + 3) (none, d + 3, none) xr_154 (2, [(0, xR_ x0), (1, xI x1), (2, xI x2), (3, xI x3)], [], M) (xQv R)) : ∀ {n : Nat} {x0 : Nat} {x1 : Int} {x2 : Int} {x3 : Int} {x4 : Int} {M : xj_M} {R : xj_M}, xin x1 → xin x2 → xin x3 → xin x4 → f154_29  r2 f n x0 x1 x2 x3 x4 M = some R → xW (d + 3) (none, d + 3, none) xr_154 (29, [(0, xR_ x0), (1, xI x1), (2, xI x2), (3, xI x3), (4, xI x4)], [], M) (xQv R) := by
  intro n
  induction n with
  | zero => intros; rename_i h; cases h
  | succ n ih => intros; rename_i h; exact k154_29b  hr2 ih (by assumption) (by assumption) (by assumption) (by assumption) h
def f154_2b  (r2 : Nat → Int → Int → Int → xj_M → Option (xj_M)) (f : Nat) (x0 : Nat) (x1 : Int) (x2 : Int) (x3 : Int) (M : xj_M) : Option (xj_M) := ((xq_gr 10 1 (x0) M).bind fun v144 => ((xq_gi 3 1 (v144) M).bind fun v146 => (if (v146) ≤ (x3) then (some M) else ((xq_gr 10 1 (x0) M).bind fun v149 => ((xq_gr 3 10 (v149) M).bind fun v151 => ((xq_ai 3 (v151) (x3) M).bind fun v153 => (if ¬ (v153) = (x1) then f154_103  r2 f (x0) (x1) (x2) (x3) M else f154_29  r2 f f (x0) (x1) (x2) (x3) (0) M)))))))
theorem k154_2b {d f : Nat}  {r2 : Nat → Int → Int → Int → xj_M → Option (xj_M)}  (hr2 : ∀ {x0 : Nat} {x1 : Int} {x2 : Int} {x3 : Int} {M : xj_M} {R : xj_M}, xin x1 → xin x2 → xin x3 → r2 x0 x1 x2 x3 M = some R → xW (d + 3) (none, d + 3, none) xr_154 (2, [(0, xR_ x0), (1, xI x1), (2, xI x2), (3, xI x3)], [], M) (xQv R)) {x0 : Nat} {x1 : Int} {x2 : Int} {x3 : Int} {M : xj_M} {R : xj_M} (hx1 : xin x1) (hx2 : xin x2) (hx3 : xin x3) (h : f154_2b  r2 f x0 x1 x2 x3 M = some R) : xW (d + 3) (none, d + 3, none) xr_154 (2, [(0, xR_ x0), (1, xI x1), (2, xI x2), (3, xI x3)], [], M) (xQv R) := by
  unfold f154_2b at h
  refine xe_ldn (ins := .iload_n 3) (len := 1) (by decide +kernel) rfl rfl rfl rfl ?_
  refine xe_alr (ins := .aload_n 0) (len := 1) (i := 0) (by decide +kernel) rfl rfl rfl rfl rfl ?_
  obtain ⟨v144, e145, h⟩ := xbnd h
  refine xs_gr (i := 60) (c := 10) (k := 1) (by decide +kernel) (by decide) (by decide +kernel) e145 rfl ?_
  obtain ⟨v146, e147, h⟩ := xbnd h
  refine xs_gi (i := 79) (c := 3) (k := 1) (by decide +kernel) (by decide) (by decide +kernel) e147 rfl ?_
  refine xe_icmpge (off := 99) (t := 109) (by decide +kernel) (by decide) rfl hx3 (xq_gi_in e147) (fun c148 => ?_) (fun c148 => ?_)
  · rw [if_pos c148] at h
    cases h
    exact xe_ret_v (by decide +kernel) rfl ⟨rfl, rfl⟩
  · rw [if_neg c148] at h
    refine xe_alr (ins := .aload_n 0) (len := 1) (i := 0) (by decide +kernel) rfl rfl rfl rfl rfl ?_
    obtain ⟨v149, e150, h⟩ := xbnd h
    refine xs_gr (i := 60) (c := 10) (k := 1) (by decide +kernel) (by decide) (by decide +kernel) e150 rfl ?_
    obtain ⟨v151, e152, h⟩ := xbnd h
    refine xs_gr (i := 173) (c := 3) (k := 10) (by decide +kernel) (by decide) (by decide +kernel) e152 rfl ?_
    refine xe_ldn (ins := .iload_n 3) (len := 1) (by decide +kernel) rfl rfl rfl rfl ?_
    obtain ⟨v153, e154, h⟩ := xbnd h
    refine xs_iald rfl (by decide +kernel) hx3 e154 rfl ?_
    refine xe_ldn (ins := .iload_n 1) (len := 1) (by decide +kernel) rfl rfl rfl rfl ?_
    refine xe_icmpne (off := 80) (t := 103) (by decide +kernel) (by decide) rfl (xq_ai_in e154) hx1 (fun c155 => ?_) (fun c155 => ?_)
    · rw [if_pos c155] at h
      refine xW_lv rfl (l := [(0, xR_ (x0)), (1, xI (x1)), (2, xI (x2)), (3, xI (x3))]) (xsb_of ⟨rfl, rfl, rfl, rfl, trivial⟩ (show [0, 1, 2, 3].Nodup by decide)) ?_
      exact k154_103  hr2 hx1 hx2 hx3 h
    · rw [if_neg c155] at h
      refine xe_iconst (n := 0) (by decide +kernel) rfl ?_
      refine xe_isr (ins := .istore 4) (len := 2) (i := 4) (by decide +kernel) rfl rfl rfl (by decide) (xk_k (show ¬ (0 : Nat) = 4 by decide) (Or.inl (show ¬ (0 + 1 : Nat) = 4 by decide)) (xk_k (show ¬ (1 : Nat) = 4 by decide) (Or.inl (show ¬ (1 + 1 : Nat) = 4 by decide)) (xk_k (show ¬ (2 : Nat) = 4 by decide) (Or.inl (show ¬ (2 + 1 : Nat) = 4 by decide)) (xk_k (show ¬ (3 : Nat) = 4 by decide) (Or.inr (xI_cat _)) xk_n)))) rfl ?_
      refine xW_lv rfl (l := [(0, xR_ (x0)), (1, xI (x1)), (2, xI (x2)), (3, xI (x3)), (4, xI (0))]) (xsb_of ⟨rfl, rfl, rfl, rfl, rfl, trivial⟩ (show [4, 0, 1, 2, 3].Nodup by decide)) ?_
      exact k154_29  hr2 hx1 hx2 hx3 (show xin (0) by decide) h
def f154_2   (f : Nat) : Nat → Nat → Int → Int → Int → xj_M → Option (xj_M)
  | 0, _, _, _, _, _ => none
  | n + 1, x0, x1, x2, x3, M => f154_2b   (f154_2   f n) f x0 x1 x2 x3 M
theorem k154_2 {d f : Nat}     : ∀ {n : Nat} {x0 : Nat} {x1 : Int} {x2 : Int} {x3 : Int} {M : xj_M} {R : xj_M}, xin x1 → xin x2 → xin x3 → f154_2   f n x0 x1 x2 x3 M = some R → xW (d + 3) (none, d + 3, none) xr_154 (2, [(0, xR_ x0), (1, xI x1), (2, xI x2), (3, xI x3)], [], M) (xQv R) := by
  intro n
  induction n with
  | zero => intros; rename_i h; cases h
  | succ n ih => intros; rename_i h; exact k154_2b   ih (by assumption) (by assumption) (by assumption) h
def f154  (f : Nat) (a0 : Nat) (a1 : Int) (a2 : Int) (M : xj_M) : Option (xj_M) := f154_2   f f (a0) (a1) (a2) (0) M
theorem k154 {d f : Nat}   {a0 : Nat} {a1 : Int} {a2 : Int} {M : xj_M} {R : xj_M} (ha1 : xin a1) (ha2 : xin a2) (h : f154  f a0 a1 a2 M = some R) : xT (d + 4) 154 [xR_ a0, xI a1, xI a2] M (xQv R) := by
  refine xT_m xr_154_e (X := (none, d + 3, none)) rfl (xa_1 (xR_cat _) (xa_1 (xI_cat _) (xa_1 (xI_cat _) xa_n))) (by decide) ?_
  unfold f154 at h
  refine xe_iconst (n := 0) (by decide +kernel) rfl ?_
  refine xe_isr (ins := .istore_n 3) (len := 1) (i := 3) (by decide +kernel) rfl rfl rfl (by decide) (xk_k (show ¬ (0 : Nat) = 3 by decide) (Or.inl (show ¬ (0 + 1 : Nat) = 3 by decide)) (xk_k (show ¬ (1 : Nat) = 3 by decide) (Or.inl (show ¬ (1 + 1 : Nat) = 3 by decide)) (xk_k (show ¬ (2 : Nat) = 3 by decide) (Or.inr (xI_cat _)) xk_n))) rfl ?_
  refine xW_lv rfl (l := [(0, xR_ (a0)), (1, xI (a1)), (2, xI (a2)), (3, xI (0))]) (xsb_of ⟨rfl, rfl, rfl, rfl, trivial⟩ (show [3, 0, 1, 2].Nodup by decide)) ?_
  exact k154_2   ha1 ha2 (show xin (0) by decide) h
-- ChangeHouse$Works.give
def xr_156 : xj_mR := (10, yX10_give, cX10_give, 4, (Option.some Jvm.ClassFile.FieldType.boolean), 2, false, (6, 237), (1, 5))
set_option maxRecDepth 20000 in
theorem xr_156_e : xj_row 156 = some xr_156 := rfl
def f156_28   (f : Nat)  (M : xj_M) : Option (Int × xj_M) := (some (1, M))
theorem k156_28 {d f : Nat}      {M : xj_M} {R : Int × xj_M}  (h : f156_28   f  M = some R) : xW (d + 3) (none, d + 3, none) xr_156 (28, [], [], M) (xQi R) := by
  unfold f156_28 at h
  refine xe_iconst (n := 1) (by decide +kernel) rfl ?_
  cases h
  exact xe_ret_i (ty := .boolean) (by decide +kernel) rfl (by decide) ⟨rfl, rfl, (show xin (1) by decide)⟩
def f156  (f : Nat) (a0 : Nat) (a1 : Int) (a2 : Nat) (M : xj_M) : Option (Int × xj_M) := ((xq_gr 10 5 (a0) M).bind fun v101 => ((xq_ar (v101) (a1) M).bind fun v103 => ((xq_is 5 (v103) M).bind fun _ => ((f74  f (v103) (a2) M).bind fun R107 => (if 0 ≤ (R107.1) then f156_28   f  R107.2 else ((xq_gr 10 4 (a0) R107.2).bind fun v110 => ((xq_ar (v110) (a1) R107.2).bind fun v112 => ((xq_is 5 (v112) R107.2).bind fun _ => ((f74  f (v112) (a2) R107.2).bind fun R116 => (if (R116.1) < 0 then ((xq_gr 10 4 (a0) R116.2).bind fun v119 => ((xq_ar (v119) (a1) R116.2).bind fun v121 => ((xq_gi 5 1 (v121) R116.2).bind fun v123 => ((xq_gr 10 5 (a0) R116.2).bind fun v125 => ((xq_ar (v125) (a1) R116.2).bind fun v127 => ((xq_gi 5 1 (v127) R116.2).bind fun v129 => (if (xwr ((v123) + (v129))) < (100) then ((xq_gr 10 5 (a0) R116.2).bind fun v132 => ((xq_ar (v132) (a1) R116.2).bind fun v134 => ((xq_is 5 (v134) R116.2).bind fun _ => ((f76  f (v134) (xwr ((-1) - (R107.1))) (a2) (0) R116.2).bind fun M138 => ((xq_gi 10 15 (a0) M138).bind fun v140 => ((xq_pi 10 15 (a0) (xwr ((v140) + (1))) M138).bind fun M142 => (some (1, M142)))))))) else (some (0, R116.2))))))))) else f156_28   f  R116.2))))))))))
theorem k156 {d f : Nat}   {a0 : Nat} {a1 : Int} {a2 : Nat} {M : xj_M} {R : Int × xj_M} (ha1 : xin a1) (h : f156  f a0 a1 a2 M = some R) : xT (d + 4) 156 [xR_ a0, xI a1, xR_ a2] M (xQi R) := by
  refine xT_m xr_156_e (X := (none, d + 3, none)) rfl (xa_1 (xR_cat _) (xa_1 (xI_cat _) (xa_1 (xR_cat _) xa_n))) (by decide) ?_
  unfold f156 at h
  refine xe_alr (ins := .aload_n 0) (len := 1) (i := 0) (by decide +kernel) rfl rfl rfl rfl rfl ?_
  obtain ⟨v101, e102, h⟩ := xbnd h
  refine xs_gr (i := 23) (c := 10) (k := 5) (by decide +kernel) (by decide) (by decide +kernel) e102 rfl ?_
  refine xe_ldn (ins := .iload_n 1) (len := 1) (by decide +kernel) rfl rfl rfl rfl ?_
  obtain ⟨v103, e104, h⟩ := xbnd h
  refine xs_aald (by decide +kernel) ha1 e104 rfl ?_
  refine xe_alr (ins := .aload_n 2) (len := 1) (i := 2) (by decide +kernel) rfl rfl rfl rfl rfl ?_
  obtain ⟨_, e106, h⟩ := xbnd h
  obtain ⟨R107, e105, h⟩ := xbnd h
  refine xs_cv (i := 134) (j := 74) (ar := [xR_ (a2)]) (rest := []) (r2 := xr_74) (by decide +kernel) (by decide +kernel) (by decide +kernel) xr_74_e rfl (by decide) (by decide) e106 ?_
  refine xc_i (k74 (d := d + 0)   e105) rfl (fun hi108 => ?_)
  refine xe_isr (ins := .istore_n 3) (len := 1) (i := 3) (by decide +kernel) rfl rfl rfl (by decide) (xk_k (show ¬ (0 : Nat) = 3 by decide) (Or.inl (show ¬ (0 + 1 : Nat) = 3 by decide)) (xk_k (show ¬ (1 : Nat) = 3 by decide) (Or.inl (show ¬ (1 + 1 : Nat) = 3 by decide)) (xk_k (show ¬ (2 : Nat) = 3 by decide) (Or.inr (xR_cat _)) xk_n))) rfl ?_
  refine xe_ldn (ins := .iload_n 3) (len := 1) (by decide +kernel) rfl rfl rfl rfl ?_
  refine xe_ifge (off := 16) (t := 28) (by decide +kernel) (by decide) rfl hi108 (fun c109 => ?_) (fun c109 => ?_)
  · rw [if_pos c109] at h
    refine xW_lv rfl (l := []) (xsb_of trivial (show [3, 0, 1, 2].Nodup by decide)) ?_
    exact k156_28    h
  · rw [if_neg c109] at h
    refine xe_alr (ins := .aload_n 0) (len := 1) (i := 0) (by decide +kernel) rfl rfl rfl rfl rfl ?_
    obtain ⟨v110, e111, h⟩ := xbnd h
    refine xs_gr (i := 20) (c := 10) (k := 4) (by decide +kernel) (by decide) (by decide +kernel) e111 rfl ?_
    refine xe_ldn (ins := .iload_n 1) (len := 1) (by decide +kernel) rfl rfl rfl rfl ?_
    obtain ⟨v112, e113, h⟩ := xbnd h
    refine xs_aald (by decide +kernel) ha1 e113 rfl ?_
    refine xe_alr (ins := .aload_n 2) (len := 1) (i := 2) (by decide +kernel) rfl rfl rfl rfl rfl ?_
    obtain ⟨_, e115, h⟩ := xbnd h
    obtain ⟨R116, e114, h⟩ := xbnd h
    refine xs_cv (i := 134) (j := 74) (ar := [xR_ (a2)]) (rest := []) (r2 := xr_74) (by decide +kernel) (by decide +kernel) (by decide +kernel) xr_74_e rfl (by decide) (by decide) e115 ?_
    refine xc_i (k74 (d := d + 0)   e114) rfl (fun hi117 => ?_)
    refine xe_iflt (off := 5) (t := 30) (by decide +kernel) (by decide) rfl hi117 (fun c118 => ?_) (fun c118 => ?_)
    · rw [if_pos c118] at h
      refine xe_alr (ins := .aload_n 0) (len := 1) (i := 0) (by decide +kernel) rfl rfl rfl rfl rfl ?_
      obtain ⟨v119, e120, h⟩ := xbnd h
      refine xs_gr (i := 20) (c := 10) (k := 4) (by decide +kernel) (by decide) (by decide +kernel) e120 rfl ?_
      refine xe_ldn (ins := .iload_n 1) (len := 1) (by decide +kernel) rfl rfl rfl rfl ?_
      obtain ⟨v121, e122, h⟩ := xbnd h
      refine xs_aald (by decide +kernel) ha1 e122 rfl ?_
      obtain ⟨v123, e124, h⟩ := xbnd h
      refine xs_gi (i := 127) (c := 5) (k := 1) (by decide +kernel) (by decide) (by decide +kernel) e124 rfl ?_
      refine xe_alr (ins := .aload_n 0) (len := 1) (i := 0) (by decide +kernel) rfl rfl rfl rfl rfl ?_
      obtain ⟨v125, e126, h⟩ := xbnd h
      refine xs_gr (i := 23) (c := 10) (k := 5) (by decide +kernel) (by decide) (by decide +kernel) e126 rfl ?_
      refine xe_ldn (ins := .iload_n 1) (len := 1) (by decide +kernel) rfl rfl rfl rfl ?_
      obtain ⟨v127, e128, h⟩ := xbnd h
      refine xs_aald (by decide +kernel) ha1 e128 rfl ?_
      obtain ⟨v129, e130, h⟩ := xbnd h
      refine xs_gi (i := 127) (c := 5) (k := 1) (by decide +kernel) (by decide) (by decide +kernel) e130 rfl ?_
      refine xe_iadd (by decide +kernel) rfl ?_
      refine xe_bipush (n := 100) (by decide +kernel) (by decide) rfl ?_
      refine xe_icmplt (off := 5) (t := 56) (by decide +kernel) (by decide) rfl (xin_wr _) (show xin (100) by decide) (fun c131 => ?_) (fun c131 => ?_)
      · rw [if_pos c131] at h
        refine xe_alr (ins := .aload_n 0) (len := 1) (i := 0) (by decide +kernel) rfl rfl rfl rfl rfl ?_
        obtain ⟨v132, e133, h⟩ := xbnd h
        refine xs_gr (i := 23) (c := 10) (k := 5) (by decide +kernel) (by decide) (by decide +kernel) e133 rfl ?_
        refine xe_ldn (ins := .iload_n 1) (len := 1) (by decide +kernel) rfl rfl rfl rfl ?_
        obtain ⟨v134, e135, h⟩ := xbnd h
        refine xs_aald (by decide +kernel) ha1 e135 rfl ?_
        refine xe_iconst (n := -1) (by decide +kernel) rfl ?_
        refine xe_ldn (ins := .iload_n 3) (len := 1) (by decide +kernel) rfl rfl rfl rfl ?_
        refine xe_isub (by decide +kernel) rfl ?_
        refine xe_alr (ins := .aload_n 2) (len := 1) (i := 2) (by decide +kernel) rfl rfl rfl rfl rfl ?_
        refine xe_iconst (n := 0) (by decide +kernel) rfl ?_
        obtain ⟨_, e137, h⟩ := xbnd h
        obtain ⟨M138, e136, h⟩ := xbnd h
        refine xs_cv (i := 145) (j := 76) (ar := [xI (0), xR_ (a2), xI (xwr ((-1) - (R107.1)))]) (rest := []) (r2 := xr_76) (by decide +kernel) (by decide +kernel) (by decide +kernel) xr_76_e rfl (by decide) (by decide) e137 ?_
        refine xc_v (k76 (d := d + 2)  (xin_wr _) (show xin (0) by decide) e136) rfl ?_
        refine xe_alr (ins := .aload_n 0) (len := 1) (i := 0) (by decide +kernel) rfl rfl rfl rfl rfl ?_
        refine xe_dupr (by decide +kernel) rfl ?_
        obtain ⟨v140, e141, h⟩ := xbnd h
        refine xs_gi (i := 163) (c := 10) (k := 15) (by decide +kernel) (by decide) (by decide +kernel) e141 rfl ?_
        refine xe_iconst (n := 1) (by decide +kernel) rfl ?_
        refine xe_iadd (by decide +kernel) rfl ?_
        obtain ⟨M142, e143, h⟩ := xbnd h
        refine xs_p (i := 163) (c := 10) (k := 15) (by decide +kernel) (by decide +kernel) (by decide +kernel) e143 rfl ?_
        refine xe_iconst (n := 1) (by decide +kernel) rfl ?_
        cases h
        exact xe_ret_i (ty := .boolean) (by decide +kernel) rfl (by decide) ⟨rfl, rfl, (show xin (1) by decide)⟩
      · rw [if_neg c131] at h
        refine xe_iconst (n := 0) (by decide +kernel) rfl ?_
        cases h
        exact xe_ret_i (ty := .boolean) (by decide +kernel) rfl (by decide) ⟨rfl, rfl, (show xin (0) by decide)⟩
    · rw [if_neg c118] at h
      refine xW_lv rfl (l := []) (xsb_of trivial (show [3, 0, 1, 2].Nodup by decide)) ?_
      exact k156_28    h
