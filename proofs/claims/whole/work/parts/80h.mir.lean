/-! Mirrors (written by mk_mir.py) -/
-- ChangeHouse$Works.addToGroup
def xr_159 : xj_mR := (10, yX10_addToGroup, cX10_addToGroup, 7, (Option.some Jvm.ClassFile.FieldType.boolean), 2, false, (7, 10), (1, 5))
set_option maxRecDepth 20000 in
theorem xr_159_e : xj_row 159 = some xr_159 := rfl
def f159_187   (f : Nat) (y0 : Int) (M : xj_M) : Option (Int × xj_M) := (if (y0) = 0 ∨ (y0) = 1 then some (y0, M) else none)
theorem k159_187 {d f : Nat}     {y0 : Int} {M : xj_M} {R : Int × xj_M} (hy0 : xin y0) (h : f159_187   f y0 M = some R) : xW (d + 3) (none, d + 3, none) xr_159 (187, [], [xI y0], M) (xQi R) := by
  unfold f159_187 at h
  by_cases c101 : (y0) = 0 ∨ (y0) = 1
  · rw [if_pos c101] at h; cases h; exact xe_ret_i (ty := .boolean) (by decide +kernel) rfl (xbool c101) ⟨rfl, rfl, hy0⟩
  · rw [if_neg c101] at h; cases h
def f159_154   (f : Nat) (x0 : Nat) (x2 : Int) (x4 : Int) (x5 : Int) (x6 : Int) (M : xj_M) : Option (Int × xj_M) := ((xq_gr 10 7 (x0) M).bind fun v102 => ((xq_gr 10 9 (x0) M).bind fun v104 => ((xq_is 5 (v102) M).bind fun _ => ((f76  f (v102) (x4) (v104) (x6) M).bind fun M108 => ((xq_gr 10 8 (x0) M108).bind fun v110 => ((xq_sl (v110) (x6) (x2) M108).bind fun M112 => (if ¬ (x5) = 0 then f159_187   f (0) M112 else f159_187   f (1) M112)))))))
theorem k159_154 {d f : Nat}     {x0 : Nat} {x2 : Int} {x4 : Int} {x5 : Int} {x6 : Int} {M : xj_M} {R : Int × xj_M} (hx2 : xiN x2) (hx4 : xin x4) (hx5 : xin x5) (hx6 : xin x6) (h : f159_154   f x0 x2 x4 x5 x6 M = some R) : xW (d + 3) (none, d + 3, none) xr_159 (154, [(0, xR_ x0), (2, xZ x2), (4, xI x4), (5, xI x5), (6, xI x6)], [], M) (xQi R) := by
  unfold f159_154 at h
  refine xe_alr (ins := .aload_n 0) (len := 1) (i := 0) (by decide +kernel) rfl rfl rfl rfl rfl ?_
  obtain ⟨v102, e103, h⟩ := xbnd h
  refine xs_gr (i := 32) (c := 10) (k := 7) (by decide +kernel) (by decide) (by decide +kernel) e103 rfl ?_
  refine xe_ldn (ins := .iload 4) (len := 2) (by decide +kernel) rfl rfl rfl rfl ?_
  refine xe_alr (ins := .aload_n 0) (len := 1) (i := 0) (by decide +kernel) rfl rfl rfl rfl rfl ?_
  obtain ⟨v104, e105, h⟩ := xbnd h
  refine xs_gr (i := 40) (c := 10) (k := 9) (by decide +kernel) (by decide) (by decide +kernel) e105 rfl ?_
  refine xe_ldn (ins := .iload 6) (len := 2) (by decide +kernel) rfl rfl rfl rfl ?_
  obtain ⟨_, e107, h⟩ := xbnd h
  obtain ⟨M108, e106, h⟩ := xbnd h
  refine xs_cv (i := 145) (j := 76) (ar := [xI (x6), xR_ (v104), xI (x4)]) (rest := []) (r2 := xr_76) (by decide +kernel) (by decide +kernel) (by decide +kernel) xr_76_e rfl (by decide) (by decide) e107 ?_
  refine xc_v (k76 (d := d + 2)  hx4 hx6 e106) rfl ?_
  refine xe_alr (ins := .aload_n 0) (len := 1) (i := 0) (by decide +kernel) rfl rfl rfl rfl rfl ?_
  obtain ⟨v110, e111, h⟩ := xbnd h
  refine xs_gr (i := 36) (c := 10) (k := 8) (by decide +kernel) (by decide) (by decide +kernel) e111 rfl ?_
  refine xe_ldn (ins := .iload 6) (len := 2) (by decide +kernel) rfl rfl rfl rfl ?_
  refine xe_ldn (ins := .lload_n 2) (len := 1) (by decide +kernel) rfl rfl rfl rfl ?_
  obtain ⟨M112, e113, h⟩ := xbnd h
  refine xs_last (by decide +kernel) hx6 e113 rfl ?_
  refine xe_ldn (ins := .iload 5) (len := 2) (by decide +kernel) rfl rfl rfl rfl ?_
  refine xe_ifne (off := 7) (t := 186) (by decide +kernel) (by decide) rfl hx5 (fun c114 => ?_) (fun c114 => ?_)
  · rw [if_pos c114] at h
    refine xe_iconst (n := 0) (by decide +kernel) rfl ?_
    refine xW_lv rfl (l := []) (xsb_of trivial (show [0, 2, 4, 5, 6].Nodup by decide)) ?_
    exact k159_187   (show xin (0) by decide) h
  · rw [if_neg c114] at h
    refine xe_iconst (n := 1) (by decide +kernel) rfl ?_
    refine xe_goto (off := 4) (nx := 187) (by decide +kernel) (by decide) ?_
    refine xW_lv rfl (l := []) (xsb_of trivial (show [0, 2, 4, 5, 6].Nodup by decide)) ?_
    exact k159_187   (show xin (1) by decide) h
def f159_131   (f : Nat) (x0 : Nat) (x2 : Int) (x4 : Int) (x5 : Int) (y0 : Int) (M : xj_M) : Option (Int × xj_M) := (if (x5) = 0 then f159_154   f (x0) (x2) (x4) (x5) (y0) M else ((xq_gr 10 7 (x0) M).bind fun v116 => ((xq_gr 10 7 (x0) M).bind fun v118 => ((xq_gi 5 1 (v118) M).bind fun v120 => ((xq_is 5 (v116) M).bind fun _ => ((f77  f (v116) (xwr ((v120) - (1))) M).bind fun M124 => f159_154   f (x0) (x2) (x4) (x5) (y0) M124))))))
theorem k159_131 {d f : Nat}     {x0 : Nat} {x2 : Int} {x4 : Int} {x5 : Int} {y0 : Int} {M : xj_M} {R : Int × xj_M} (hx2 : xiN x2) (hx4 : xin x4) (hx5 : xin x5) (hy0 : xin y0) (h : f159_131   f x0 x2 x4 x5 y0 M = some R) : xW (d + 3) (none, d + 3, none) xr_159 (131, [(0, xR_ x0), (2, xZ x2), (4, xI x4), (5, xI x5)], [xI y0], M) (xQi R) := by
  unfold f159_131 at h
  refine xe_isr (ins := .istore 6) (len := 2) (i := 6) (by decide +kernel) rfl rfl rfl (by decide) (xk_k (show ¬ (0 : Nat) = 6 by decide) (Or.inl (show ¬ (0 + 1 : Nat) = 6 by decide)) (xk_k (show ¬ (2 : Nat) = 6 by decide) (Or.inl (show ¬ (2 + 1 : Nat) = 6 by decide)) (xk_k (show ¬ (4 : Nat) = 6 by decide) (Or.inl (show ¬ (4 + 1 : Nat) = 6 by decide)) (xk_k (show ¬ (5 : Nat) = 6 by decide) (Or.inr (xI_cat _)) xk_n)))) rfl ?_
  refine xe_ldn (ins := .iload 5) (len := 2) (by decide +kernel) rfl rfl rfl rfl ?_
  refine xe_ifeq (off := 19) (t := 154) (by decide +kernel) (by decide) rfl hx5 (fun c115 => ?_) (fun c115 => ?_)
  · rw [if_pos c115] at h
    refine xW_lv rfl (l := [(0, xR_ (x0)), (2, xZ (x2)), (4, xI (x4)), (5, xI (x5)), (6, xI (y0))]) (xsb_of ⟨rfl, rfl, rfl, rfl, rfl, trivial⟩ (show [6, 0, 2, 4, 5].Nodup by decide)) ?_
    exact k159_154   hx2 hx4 hx5 hy0 h
  · rw [if_neg c115] at h
    refine xe_alr (ins := .aload_n 0) (len := 1) (i := 0) (by decide +kernel) rfl rfl rfl rfl rfl ?_
    obtain ⟨v116, e117, h⟩ := xbnd h
    refine xs_gr (i := 32) (c := 10) (k := 7) (by decide +kernel) (by decide) (by decide +kernel) e117 rfl ?_
    refine xe_alr (ins := .aload_n 0) (len := 1) (i := 0) (by decide +kernel) rfl rfl rfl rfl rfl ?_
    obtain ⟨v118, e119, h⟩ := xbnd h
    refine xs_gr (i := 32) (c := 10) (k := 7) (by decide +kernel) (by decide) (by decide +kernel) e119 rfl ?_
    obtain ⟨v120, e121, h⟩ := xbnd h
    refine xs_gi (i := 127) (c := 5) (k := 1) (by decide +kernel) (by decide) (by decide +kernel) e121 rfl ?_
    refine xe_iconst (n := 1) (by decide +kernel) rfl ?_
    refine xe_isub (by decide +kernel) rfl ?_
    obtain ⟨_, e123, h⟩ := xbnd h
    obtain ⟨M124, e122, h⟩ := xbnd h
    refine xs_cv (i := 138) (j := 77) (ar := [xI (xwr ((v120) - (1)))]) (rest := []) (r2 := xr_77) (by decide +kernel) (by decide +kernel) (by decide +kernel) xr_77_e rfl (by decide) (by decide) e123 ?_
    refine xc_v (k77 (d := d + 2)  (xin_wr _) e122) rfl ?_
    refine xW_lv rfl (l := [(0, xR_ (x0)), (2, xZ (x2)), (4, xI (x4)), (5, xI (x5)), (6, xI (y0))]) (xsb_of ⟨rfl, rfl, rfl, rfl, rfl, trivial⟩ (show [6, 0, 2, 4, 5].Nodup by decide)) ?_
    exact k159_154   hx2 hx4 hx5 hy0 h
def f159_99   (f : Nat) (x0 : Nat) (x2 : Int) (x4 : Int) (x5 : Int) (M : xj_M) : Option (Int × xj_M) := (if (x5) = 0 then ((xq_gr 10 7 (x0) M).bind fun v127 => ((xq_gi 5 1 (v127) M).bind fun v129 => f159_131   f (x0) (x2) (x4) (x5) (v129) M)) else ((xq_gr 10 7 (x0) M).bind fun v131 => ((xq_gr 5 3 (v131) M).bind fun v133 => ((xq_gr 10 7 (x0) M).bind fun v135 => ((xq_gi 5 1 (v135) M).bind fun v137 => ((xq_ai 3 (v133) (xwr ((v137) - (1))) M).bind fun v139 => f159_131   f (x0) (x2) (x4) (x5) (v139) M))))))
theorem k159_99 {d f : Nat}     {x0 : Nat} {x2 : Int} {x4 : Int} {x5 : Int} {M : xj_M} {R : Int × xj_M} (hx2 : xiN x2) (hx4 : xin x4) (hx5 : xin x5) (h : f159_99   f x0 x2 x4 x5 M = some R) : xW (d + 3) (none, d + 3, none) xr_159 (99, [(0, xR_ x0), (2, xZ x2), (4, xI x4), (5, xI x5)], [], M) (xQi R) := by
  unfold f159_99 at h
  refine xe_ldn (ins := .iload 5) (len := 2) (by decide +kernel) rfl rfl rfl rfl ?_
  refine xe_ifeq (off := 23) (t := 124) (by decide +kernel) (by decide) rfl hx5 (fun c126 => ?_) (fun c126 => ?_)
  · rw [if_pos c126] at h
    refine xe_alr (ins := .aload_n 0) (len := 1) (i := 0) (by decide +kernel) rfl rfl rfl rfl rfl ?_
    obtain ⟨v127, e128, h⟩ := xbnd h
    refine xs_gr (i := 32) (c := 10) (k := 7) (by decide +kernel) (by decide) (by decide +kernel) e128 rfl ?_
    obtain ⟨v129, e130, h⟩ := xbnd h
    refine xs_gi (i := 127) (c := 5) (k := 1) (by decide +kernel) (by decide) (by decide +kernel) e130 rfl ?_
    refine xW_lv rfl (l := [(0, xR_ (x0)), (2, xZ (x2)), (4, xI (x4)), (5, xI (x5))]) (xsb_of ⟨rfl, rfl, rfl, rfl, trivial⟩ (show [0, 2, 4, 5].Nodup by decide)) ?_
    exact k159_131   hx2 hx4 hx5 (xq_gi_in e130) h
  · rw [if_neg c126] at h
    refine xe_alr (ins := .aload_n 0) (len := 1) (i := 0) (by decide +kernel) rfl rfl rfl rfl rfl ?_
    obtain ⟨v131, e132, h⟩ := xbnd h
    refine xs_gr (i := 32) (c := 10) (k := 7) (by decide +kernel) (by decide) (by decide +kernel) e132 rfl ?_
    obtain ⟨v133, e134, h⟩ := xbnd h
    refine xs_gr (i := 270) (c := 5) (k := 3) (by decide +kernel) (by decide) (by decide +kernel) e134 rfl ?_
    refine xe_alr (ins := .aload_n 0) (len := 1) (i := 0) (by decide +kernel) rfl rfl rfl rfl rfl ?_
    obtain ⟨v135, e136, h⟩ := xbnd h
    refine xs_gr (i := 32) (c := 10) (k := 7) (by decide +kernel) (by decide) (by decide +kernel) e136 rfl ?_
    obtain ⟨v137, e138, h⟩ := xbnd h
    refine xs_gi (i := 127) (c := 5) (k := 1) (by decide +kernel) (by decide) (by decide +kernel) e138 rfl ?_
    refine xe_iconst (n := 1) (by decide +kernel) rfl ?_
    refine xe_isub (by decide +kernel) rfl ?_
    obtain ⟨v139, e140, h⟩ := xbnd h
    refine xs_iald rfl (by decide +kernel) (xin_wr _) e140 rfl ?_
    refine xe_goto (off := 10) (nx := 131) (by decide +kernel) (by decide) ?_
    refine xW_lv rfl (l := [(0, xR_ (x0)), (2, xZ (x2)), (4, xI (x4)), (5, xI (x5))]) (xsb_of ⟨rfl, rfl, rfl, rfl, trivial⟩ (show [0, 2, 4, 5].Nodup by decide)) ?_
    exact k159_131   hx2 hx4 hx5 (xq_ai_in e140) h
def f159_78   (f : Nat) (x0 : Nat) (x2 : Int) (x4 : Int) (y0 : Int) (M : xj_M) : Option (Int × xj_M) := (if (y0) = 0 then f159_99   f (x0) (x2) (x4) (y0) M else ((xq_gr 10 7 (x0) M).bind fun v142 => ((xq_gi 5 1 (v142) M).bind fun v144 => (if ¬ (x4) = (v144) then f159_99   f (x0) (x2) (x4) (y0) M else (some (0, M))))))
theorem k159_78 {d f : Nat}     {x0 : Nat} {x2 : Int} {x4 : Int} {y0 : Int} {M : xj_M} {R : Int × xj_M} (hx2 : xiN x2) (hx4 : xin x4) (hy0 : xin y0) (h : f159_78   f x0 x2 x4 y0 M = some R) : xW (d + 3) (none, d + 3, none) xr_159 (78, [(0, xR_ x0), (2, xZ x2), (4, xI x4)], [xI y0], M) (xQi R) := by
  unfold f159_78 at h
  refine xe_isr (ins := .istore 5) (len := 2) (i := 5) (by decide +kernel) rfl rfl rfl (by decide) (xk_k (show ¬ (0 : Nat) = 5 by decide) (Or.inl (show ¬ (0 + 1 : Nat) = 5 by decide)) (xk_k (show ¬ (2 : Nat) = 5 by decide) (Or.inl (show ¬ (2 + 1 : Nat) = 5 by decide)) (xk_k (show ¬ (4 : Nat) = 5 by decide) (Or.inr (xI_cat _)) xk_n))) rfl ?_
  refine xe_ldn (ins := .iload 5) (len := 2) (by decide +kernel) rfl rfl rfl rfl ?_
  refine xe_ifeq (off := 17) (t := 99) (by decide +kernel) (by decide) rfl hy0 (fun c141 => ?_) (fun c141 => ?_)
  · rw [if_pos c141] at h
    refine xW_lv rfl (l := [(0, xR_ (x0)), (2, xZ (x2)), (4, xI (x4)), (5, xI (y0))]) (xsb_of ⟨rfl, rfl, rfl, rfl, trivial⟩ (show [5, 0, 2, 4].Nodup by decide)) ?_
    exact k159_99   hx2 hx4 hy0 h
  · rw [if_neg c141] at h
    refine xe_ldn (ins := .iload 4) (len := 2) (by decide +kernel) rfl rfl rfl rfl ?_
    refine xe_alr (ins := .aload_n 0) (len := 1) (i := 0) (by decide +kernel) rfl rfl rfl rfl rfl ?_
    obtain ⟨v142, e143, h⟩ := xbnd h
    refine xs_gr (i := 32) (c := 10) (k := 7) (by decide +kernel) (by decide) (by decide +kernel) e143 rfl ?_
    obtain ⟨v144, e145, h⟩ := xbnd h
    refine xs_gi (i := 127) (c := 5) (k := 1) (by decide +kernel) (by decide) (by decide +kernel) e145 rfl ?_
    refine xe_icmpne (off := 5) (t := 99) (by decide +kernel) (by decide) rfl hx4 (xq_gi_in e145) (fun c146 => ?_) (fun c146 => ?_)
    · rw [if_pos c146] at h
      refine xW_lv rfl (l := [(0, xR_ (x0)), (2, xZ (x2)), (4, xI (x4)), (5, xI (y0))]) (xsb_of ⟨rfl, rfl, rfl, rfl, trivial⟩ (show [5, 0, 2, 4].Nodup by decide)) ?_
      exact k159_99   hx2 hx4 hy0 h
    · rw [if_neg c146] at h
      refine xe_iconst (n := 0) (by decide +kernel) rfl ?_
      cases h
      exact xe_ret_i (ty := .boolean) (by decide +kernel) rfl (by decide) ⟨rfl, rfl, (show xin (0) by decide)⟩
def f159  (f : Nat) (a0 : Nat) (a1 : Nat) (a2 : Int) (M : xj_M) : Option (Int × xj_M) := ((xq_gr 10 7 (a0) M).bind fun v147 => ((xq_gr 10 9 (a0) M).bind fun v149 => ((xq_is 5 (v147) M).bind fun _ => ((f74  f (v147) (v149) M).bind fun R153 => (if (R153.1) < 0 then ((xq_gr 10 7 (a0) R153.2).bind fun v156 => ((xq_gi 5 1 (v156) R153.2).bind fun v158 => (if ¬ (v158) = (512) then f159_78   f (a0) (a2) (xwr ((-1) - (R153.1))) (0) R153.2 else f159_78   f (a0) (a2) (xwr ((-1) - (R153.1))) (1) R153.2))) else ((xq_gr 10 7 (a0) R153.2).bind fun v161 => ((xq_gr 5 3 (v161) R153.2).bind fun v163 => ((xq_ai 3 (v163) (R153.1) R153.2).bind fun v165 => ((xq_gr 10 8 (a0) R153.2).bind fun v167 => ((xq_gi 6 4 (a1) R153.2).bind fun v169 => ((xq_gr 10 8 (a0) R153.2).bind fun v171 => ((xq_al (v171) (v165) R153.2).bind fun v173 => ((f160  f (v169) (v173) (a2) R153.2).bind fun R176 => ((xq_sl (v167) (v165) (R176.1) R176.2).bind fun M178 => (some (1, M178))))))))))))))))
theorem k159 {d f : Nat}   {a0 : Nat} {a1 : Nat} {a2 : Int} {M : xj_M} {R : Int × xj_M} (ha2 : xiN a2) (h : f159  f a0 a1 a2 M = some R) : xT (d + 4) 159 [xR_ a0, xR_ a1, xZ a2] M (xQi R) := by
  refine xT_m xr_159_e (X := (none, d + 3, none)) rfl (xa_1 (xR_cat _) (xa_1 (xR_cat _) (xa_2 (xZ_cat _) xa_n))) (by decide) ?_
  unfold f159 at h
  refine xe_alr (ins := .aload_n 0) (len := 1) (i := 0) (by decide +kernel) rfl rfl rfl rfl rfl ?_
  obtain ⟨v147, e148, h⟩ := xbnd h
  refine xs_gr (i := 32) (c := 10) (k := 7) (by decide +kernel) (by decide) (by decide +kernel) e148 rfl ?_
  refine xe_alr (ins := .aload_n 0) (len := 1) (i := 0) (by decide +kernel) rfl rfl rfl rfl rfl ?_
  obtain ⟨v149, e150, h⟩ := xbnd h
  refine xs_gr (i := 40) (c := 10) (k := 9) (by decide +kernel) (by decide) (by decide +kernel) e150 rfl ?_
  obtain ⟨_, e152, h⟩ := xbnd h
  obtain ⟨R153, e151, h⟩ := xbnd h
  refine xs_cv (i := 134) (j := 74) (ar := [xR_ (v149)]) (rest := []) (r2 := xr_74) (by decide +kernel) (by decide +kernel) (by decide +kernel) xr_74_e rfl (by decide) (by decide) e152 ?_
  refine xc_i (k74 (d := d + 0)   e151) rfl (fun hi154 => ?_)
  refine xe_isr (ins := .istore 4) (len := 2) (i := 4) (by decide +kernel) rfl rfl rfl (by decide) (xk_k (show ¬ (0 : Nat) = 4 by decide) (Or.inl (show ¬ (0 + 1 : Nat) = 4 by decide)) (xk_k (show ¬ (1 : Nat) = 4 by decide) (Or.inl (show ¬ (1 + 1 : Nat) = 4 by decide)) (xk_k (show ¬ (2 : Nat) = 4 by decide) (Or.inl (show ¬ (2 + 1 : Nat) = 4 by decide)) xk_n))) rfl ?_
  refine xe_ldn (ins := .iload 4) (len := 2) (by decide +kernel) rfl rfl rfl rfl ?_
  refine xe_iflt (off := 39) (t := 54) (by decide +kernel) (by decide) rfl hi154 (fun c155 => ?_) (fun c155 => ?_)
  · rw [if_pos c155] at h
    refine xe_iconst (n := -1) (by decide +kernel) rfl ?_
    refine xe_ldn (ins := .iload 4) (len := 2) (by decide +kernel) rfl rfl rfl rfl ?_
    refine xe_isub (by decide +kernel) rfl ?_
    refine xe_isr (ins := .istore 4) (len := 2) (i := 4) (by decide +kernel) rfl rfl rfl (by decide) (xk_d rfl (xk_k (show ¬ (0 : Nat) = 4 by decide) (Or.inl (show ¬ (0 + 1 : Nat) = 4 by decide)) (xk_k (show ¬ (1 : Nat) = 4 by decide) (Or.inl (show ¬ (1 + 1 : Nat) = 4 by decide)) (xk_k (show ¬ (2 : Nat) = 4 by decide) (Or.inl (show ¬ (2 + 1 : Nat) = 4 by decide)) xk_n)))) rfl ?_
    refine xe_alr (ins := .aload_n 0) (len := 1) (i := 0) (by decide +kernel) rfl rfl rfl rfl rfl ?_
    obtain ⟨v156, e157, h⟩ := xbnd h
    refine xs_gr (i := 32) (c := 10) (k := 7) (by decide +kernel) (by decide) (by decide +kernel) e157 rfl ?_
    obtain ⟨v158, e159, h⟩ := xbnd h
    refine xs_gi (i := 127) (c := 5) (k := 1) (by decide +kernel) (by decide) (by decide +kernel) e159 rfl ?_
    refine xe_sipush (n := 512) (by decide +kernel) (by decide) rfl ?_
    refine xe_icmpne (off := 7) (t := 77) (by decide +kernel) (by decide) rfl (xq_gi_in e159) (show xin (512) by decide) (fun c160 => ?_) (fun c160 => ?_)
    · rw [if_pos c160] at h
      refine xe_iconst (n := 0) (by decide +kernel) rfl ?_
      refine xW_lv rfl (l := [(0, xR_ (a0)), (2, xZ (a2)), (4, xI (xwr ((-1) - (R153.1))))]) (xsb_of ⟨rfl, rfl, rfl, trivial⟩ (show [4, 0, 1, 2].Nodup by decide)) ?_
      exact k159_78   ha2 (xin_wr _) (show xin (0) by decide) h
    · rw [if_neg c160] at h
      refine xe_iconst (n := 1) (by decide +kernel) rfl ?_
      refine xe_goto (off := 4) (nx := 78) (by decide +kernel) (by decide) ?_
      refine xW_lv rfl (l := [(0, xR_ (a0)), (2, xZ (a2)), (4, xI (xwr ((-1) - (R153.1))))]) (xsb_of ⟨rfl, rfl, rfl, trivial⟩ (show [4, 0, 1, 2].Nodup by decide)) ?_
      exact k159_78   ha2 (xin_wr _) (show xin (1) by decide) h
  · rw [if_neg c155] at h
    refine xe_alr (ins := .aload_n 0) (len := 1) (i := 0) (by decide +kernel) rfl rfl rfl rfl rfl ?_
    obtain ⟨v161, e162, h⟩ := xbnd h
    refine xs_gr (i := 32) (c := 10) (k := 7) (by decide +kernel) (by decide) (by decide +kernel) e162 rfl ?_
    obtain ⟨v163, e164, h⟩ := xbnd h
    refine xs_gr (i := 270) (c := 5) (k := 3) (by decide +kernel) (by decide) (by decide +kernel) e164 rfl ?_
    refine xe_ldn (ins := .iload 4) (len := 2) (by decide +kernel) rfl rfl rfl rfl ?_
    obtain ⟨v165, e166, h⟩ := xbnd h
    refine xs_iald rfl (by decide +kernel) hi154 e166 rfl ?_
    refine xe_isr (ins := .istore 5) (len := 2) (i := 5) (by decide +kernel) rfl rfl rfl (by decide) (xk_k (show ¬ (4 : Nat) = 5 by decide) (Or.inr (xI_cat _)) (xk_k (show ¬ (0 : Nat) = 5 by decide) (Or.inl (show ¬ (0 + 1 : Nat) = 5 by decide)) (xk_k (show ¬ (1 : Nat) = 5 by decide) (Or.inl (show ¬ (1 + 1 : Nat) = 5 by decide)) (xk_k (show ¬ (2 : Nat) = 5 by decide) (Or.inl (show ¬ (2 + 1 : Nat) = 5 by decide)) xk_n)))) rfl ?_
    refine xe_alr (ins := .aload_n 0) (len := 1) (i := 0) (by decide +kernel) rfl rfl rfl rfl rfl ?_
    obtain ⟨v167, e168, h⟩ := xbnd h
    refine xs_gr (i := 36) (c := 10) (k := 8) (by decide +kernel) (by decide) (by decide +kernel) e168 rfl ?_
    refine xe_ldn (ins := .iload 5) (len := 2) (by decide +kernel) rfl rfl rfl rfl ?_
    refine xe_alr (ins := .aload_n 1) (len := 1) (i := 1) (by decide +kernel) rfl rfl rfl rfl rfl ?_
    obtain ⟨v169, e170, h⟩ := xbnd h
    refine xs_gi (i := 248) (c := 6) (k := 4) (by decide +kernel) (by decide) (by decide +kernel) e170 rfl ?_
    refine xe_alr (ins := .aload_n 0) (len := 1) (i := 0) (by decide +kernel) rfl rfl rfl rfl rfl ?_
    obtain ⟨v171, e172, h⟩ := xbnd h
    refine xs_gr (i := 36) (c := 10) (k := 8) (by decide +kernel) (by decide) (by decide +kernel) e172 rfl ?_
    refine xe_ldn (ins := .iload 5) (len := 2) (by decide +kernel) rfl rfl rfl rfl ?_
    obtain ⟨v173, e174, h⟩ := xbnd h
    refine xs_lald (by decide +kernel) (xq_ai_in e166) e174 rfl ?_
    refine xe_ldn (ins := .lload_n 2) (len := 1) (by decide +kernel) rfl rfl rfl rfl ?_
    obtain ⟨R176, e175, h⟩ := xbnd h
    refine xs_cs (kd := 2) (by decide) (i := 273) (j := 160) (ar := [xZ (a2), xZ (v173), xI (v169)]) (rest := [xI (v165), xR_ (v167)]) (r2 := xr_160) (by decide +kernel) (by decide +kernel) (by decide +kernel) xr_160_e rfl (by simp only [List.map_cons, List.map_nil, List.sum_cons, List.sum_nil, xR_cat, xI_cat, xZ_cat]; decide) ?_
    refine xc_l (k160 (d := d + 2)  (xq_gi_in e170) (xq_al_in e174) ha2 e175) rfl (fun hi177 => ?_)
    obtain ⟨M178, e179, h⟩ := xbnd h
    refine xs_last (by decide +kernel) (xq_ai_in e166) e179 rfl ?_
    refine xe_iconst (n := 1) (by decide +kernel) rfl ?_
    cases h
    exact xe_ret_i (ty := .boolean) (by decide +kernel) rfl (by decide) ⟨rfl, rfl, (show xin (1) by decide)⟩
-- ChangeHouse$Works.giveGroups
def xr_161 : xj_mR := (10, yX10_giveGroups, cX10_giveGroups, 3, (Option.some Jvm.ClassFile.FieldType.boolean), 1, false, (7, 21), (1, 5))
set_option maxRecDepth 20000 in
theorem xr_161_e : xj_row 161 = some xr_161 := rfl
def f161_93  (r2 : Nat → Nat → Int → xj_M → Option (Int × xj_M)) (f : Nat) (x0 : Nat) (x1 : Nat) (x2 : Int) (M : xj_M) : Option (Int × xj_M) := r2 (x0) (x1) (xwr ((x2) + (1))) M
theorem k161_93 {d f : Nat}  {r2 : Nat → Nat → Int → xj_M → Option (Int × xj_M)}  (hr2 : ∀ {x0 : Nat} {x1 : Nat} {x2 : Int} {M : xj_M} {R : Int × xj_M}, xin x2 → r2 x0 x1 x2 M = some R → xW (d + 4) (none, d + 4, none) xr_161 (2, [(0, xR_ x0), (1, xR_ x1), (2, xI x2)], [], M) (xQi R)) {x0 : Nat} {x1 : Nat} {x2 : Int} {M : xj_M} {R : Int × xj_M} (hx2 : xin x2) (h : f161_93  r2 f x0 x1 x2 M = some R) : xW (d + 4) (none, d + 4, none) xr_161 (93, [(0, xR_ x0), (1, xR_ x1), (2, xI x2)], [], M) (xQi R) := by
  unfold f161_93 at h
  refine xe_iincr (i := 2) (n := 1) (by decide +kernel) (by decide) rfl (xk_k (show ¬ (0 : Nat) = 2 by decide) (Or.inl (show ¬ (0 + 1 : Nat) = 2 by decide)) (xk_k (show ¬ (1 : Nat) = 2 by decide) (Or.inr (xR_cat _)) (xk_d rfl xk_n))) rfl ?_
  refine xe_goto (off := -94) (nx := 2) (by decide +kernel) (by decide) ?_
  refine xW_lv rfl (l := [(0, xR_ (x0)), (1, xR_ (x1)), (2, xI (xwr ((x2) + (1))))]) (xsb_of ⟨rfl, rfl, rfl, trivial⟩ (show [2, 0, 1].Nodup by decide)) ?_
  exact hr2 (xin_wr _) h
def f161_2b  (r2 : Nat → Nat → Int → xj_M → Option (Int × xj_M)) (f : Nat) (x0 : Nat) (x1 : Nat) (x2 : Int) (M : xj_M) : Option (Int × xj_M) := ((xq_gr 10 7 (x0) M).bind fun v101 => ((xq_gi 5 1 (v101) M).bind fun v103 => (if (v103) ≤ (x2) then (some (1, M)) else ((xq_gr 10 7 (x0) M).bind fun v106 => ((xq_gr 10 10 (x0) M).bind fun v108 => ((xq_is 5 (v106) M).bind fun _ => ((f78  f (v106) (x2) (v108) M).bind fun M112 => ((xq_gr 10 7 (x0) M112).bind fun v114 => ((xq_gr 10 11 (x0) M112).bind fun v116 => ((xq_is 5 (v114) M112).bind fun _ => ((f78  f (v114) (x2) (v116) M112).bind fun M120 => ((xq_gr 10 11 (x0) M120).bind fun v122 => ((xq_gi 6 3 (x1) M120).bind fun v124 => ((xq_gr 10 8 (x0) M120).bind fun v126 => ((xq_gr 10 7 (x0) M120).bind fun v128 => ((xq_gr 5 3 (v128) M120).bind fun v130 => ((xq_ai 3 (v130) (x2) M120).bind fun v132 => ((xq_al (v126) (v132) M120).bind fun v134 => ((xq_sl (v122) (v124) (v134) M120).bind fun M136 => ((xq_gr 10 11 (x0) M136).bind fun v138 => ((xq_gi 6 3 (x1) M136).bind fun v140 => ((xq_al (v138) (v140) M136).bind fun v142 => ((f397  f (x1) (v142) M136).bind fun R145 => (if (R145.1) = 0 then f161_93  r2 f (x0) (x1) (x2) R145.2 else ((xq_gi 6 0 (x1) R145.2).bind fun v148 => ((xq_gr 10 11 (x0) R145.2).bind fun v150 => ((xq_is 10 (x0) R145.2).bind fun _ => ((f156  f (x0) (v148) (v150) R145.2).bind fun R154 => (if ¬ (R154.1) = 0 then f161_93  r2 f (x0) (x1) (x2) R154.2 else (some (0, R154.2)))))))))))))))))))))))))))))))
theorem k161_2b {d f : Nat}  {r2 : Nat → Nat → Int → xj_M → Option (Int × xj_M)}  (hr2 : ∀ {x0 : Nat} {x1 : Nat} {x2 : Int} {M : xj_M} {R : Int × xj_M}, xin x2 → r2 x0 x1 x2 M = some R → xW (d + 4) (none, d + 4, none) xr_161 (2, [(0, xR_ x0), (1, xR_ x1), (2, xI x2)], [], M) (xQi R)) {x0 : Nat} {x1 : Nat} {x2 : Int} {M : xj_M} {R : Int × xj_M} (hx2 : xin x2) (h : f161_2b  r2 f x0 x1 x2 M = some R) : xW (d + 4) (none, d + 4, none) xr_161 (2, [(0, xR_ x0), (1, xR_ x1), (2, xI x2)], [], M) (xQi R) := by
  unfold f161_2b at h
  refine xe_ldn (ins := .iload_n 2) (len := 1) (by decide +kernel) rfl rfl rfl rfl ?_
  refine xe_alr (ins := .aload_n 0) (len := 1) (i := 0) (by decide +kernel) rfl rfl rfl rfl rfl ?_
  obtain ⟨v101, e102, h⟩ := xbnd h
  refine xs_gr (i := 32) (c := 10) (k := 7) (by decide +kernel) (by decide) (by decide +kernel) e102 rfl ?_
  obtain ⟨v103, e104, h⟩ := xbnd h
  refine xs_gi (i := 127) (c := 5) (k := 1) (by decide +kernel) (by decide) (by decide +kernel) e104 rfl ?_
  refine xe_icmpge (off := 89) (t := 99) (by decide +kernel) (by decide) rfl hx2 (xq_gi_in e104) (fun c105 => ?_) (fun c105 => ?_)
  · rw [if_pos c105] at h
    refine xe_iconst (n := 1) (by decide +kernel) rfl ?_
    cases h
    exact xe_ret_i (ty := .boolean) (by decide +kernel) rfl (by decide) ⟨rfl, rfl, (show xin (1) by decide)⟩
  · rw [if_neg c105] at h
    refine xe_alr (ins := .aload_n 0) (len := 1) (i := 0) (by decide +kernel) rfl rfl rfl rfl rfl ?_
    obtain ⟨v106, e107, h⟩ := xbnd h
    refine xs_gr (i := 32) (c := 10) (k := 7) (by decide +kernel) (by decide) (by decide +kernel) e107 rfl ?_
    refine xe_ldn (ins := .iload_n 2) (len := 1) (by decide +kernel) rfl rfl rfl rfl ?_
    refine xe_alr (ins := .aload_n 0) (len := 1) (i := 0) (by decide +kernel) rfl rfl rfl rfl rfl ?_
    obtain ⟨v108, e109, h⟩ := xbnd h
    refine xs_gr (i := 43) (c := 10) (k := 10) (by decide +kernel) (by decide) (by decide +kernel) e109 rfl ?_
    obtain ⟨_, e111, h⟩ := xbnd h
    obtain ⟨M112, e110, h⟩ := xbnd h
    refine xs_cv (i := 228) (j := 78) (ar := [xR_ (v108), xI (x2)]) (rest := []) (r2 := xr_78) (by decide +kernel) (by decide +kernel) (by decide +kernel) xr_78_e rfl (by decide) (by decide) e111 ?_
    refine xc_v (k78 (d := d + 3)  hx2 e110) rfl ?_
    refine xe_alr (ins := .aload_n 0) (len := 1) (i := 0) (by decide +kernel) rfl rfl rfl rfl rfl ?_
    obtain ⟨v114, e115, h⟩ := xbnd h
    refine xs_gr (i := 32) (c := 10) (k := 7) (by decide +kernel) (by decide) (by decide +kernel) e115 rfl ?_
    refine xe_ldn (ins := .iload_n 2) (len := 1) (by decide +kernel) rfl rfl rfl rfl ?_
    refine xe_alr (ins := .aload_n 0) (len := 1) (i := 0) (by decide +kernel) rfl rfl rfl rfl rfl ?_
    obtain ⟨v116, e117, h⟩ := xbnd h
    refine xs_gr (i := 46) (c := 10) (k := 11) (by decide +kernel) (by decide) (by decide +kernel) e117 rfl ?_
    obtain ⟨_, e119, h⟩ := xbnd h
    obtain ⟨M120, e118, h⟩ := xbnd h
    refine xs_cv (i := 228) (j := 78) (ar := [xR_ (v116), xI (x2)]) (rest := []) (r2 := xr_78) (by decide +kernel) (by decide +kernel) (by decide +kernel) xr_78_e rfl (by decide) (by decide) e119 ?_
    refine xc_v (k78 (d := d + 3)  hx2 e118) rfl ?_
    refine xe_alr (ins := .aload_n 0) (len := 1) (i := 0) (by decide +kernel) rfl rfl rfl rfl rfl ?_
    obtain ⟨v122, e123, h⟩ := xbnd h
    refine xs_gr (i := 46) (c := 10) (k := 11) (by decide +kernel) (by decide) (by decide +kernel) e123 rfl ?_
    refine xe_alr (ins := .aload_n 1) (len := 1) (i := 1) (by decide +kernel) rfl rfl rfl rfl rfl ?_
    obtain ⟨v124, e125, h⟩ := xbnd h
    refine xs_gi (i := 189) (c := 6) (k := 3) (by decide +kernel) (by decide) (by decide +kernel) e125 rfl ?_
    refine xe_alr (ins := .aload_n 0) (len := 1) (i := 0) (by decide +kernel) rfl rfl rfl rfl rfl ?_
    obtain ⟨v126, e127, h⟩ := xbnd h
    refine xs_gr (i := 36) (c := 10) (k := 8) (by decide +kernel) (by decide) (by decide +kernel) e127 rfl ?_
    refine xe_alr (ins := .aload_n 0) (len := 1) (i := 0) (by decide +kernel) rfl rfl rfl rfl rfl ?_
    obtain ⟨v128, e129, h⟩ := xbnd h
    refine xs_gr (i := 32) (c := 10) (k := 7) (by decide +kernel) (by decide) (by decide +kernel) e129 rfl ?_
    obtain ⟨v130, e131, h⟩ := xbnd h
    refine xs_gr (i := 270) (c := 5) (k := 3) (by decide +kernel) (by decide) (by decide +kernel) e131 rfl ?_
    refine xe_ldn (ins := .iload_n 2) (len := 1) (by decide +kernel) rfl rfl rfl rfl ?_
    obtain ⟨v132, e133, h⟩ := xbnd h
    refine xs_iald rfl (by decide +kernel) hx2 e133 rfl ?_
    obtain ⟨v134, e135, h⟩ := xbnd h
    refine xs_lald (by decide +kernel) (xq_ai_in e133) e135 rfl ?_
    obtain ⟨M136, e137, h⟩ := xbnd h
    refine xs_last (by decide +kernel) (xq_gi_in e125) e137 rfl ?_
    refine xe_alr (ins := .aload_n 1) (len := 1) (i := 1) (by decide +kernel) rfl rfl rfl rfl rfl ?_
    refine xe_alr (ins := .aload_n 0) (len := 1) (i := 0) (by decide +kernel) rfl rfl rfl rfl rfl ?_
    obtain ⟨v138, e139, h⟩ := xbnd h
    refine xs_gr (i := 46) (c := 10) (k := 11) (by decide +kernel) (by decide) (by decide +kernel) e139 rfl ?_
    refine xe_alr (ins := .aload_n 1) (len := 1) (i := 1) (by decide +kernel) rfl rfl rfl rfl rfl ?_
    obtain ⟨v140, e141, h⟩ := xbnd h
    refine xs_gi (i := 189) (c := 6) (k := 3) (by decide +kernel) (by decide) (by decide +kernel) e141 rfl ?_
    obtain ⟨v142, e143, h⟩ := xbnd h
    refine xs_lald (by decide +kernel) (xq_gi_in e141) e143 rfl ?_
    obtain ⟨R145, e144, h⟩ := xbnd h
    refine xs_cs (kd := 2) (by decide) (i := 288) (j := 397) (ar := [xZ (v142), xR_ (x1)]) (rest := []) (r2 := xr_397) (by decide +kernel) (by decide +kernel) (by decide +kernel) xr_397_e rfl (by decide) ?_
    refine xc_i (k397 (d := d + 3)  (xq_al_in e143) e144) rfl (fun hi146 => ?_)
    refine xe_ifeq (off := 20) (t := 93) (by decide +kernel) (by decide) rfl hi146 (fun c147 => ?_) (fun c147 => ?_)
    · rw [if_pos c147] at h
      refine xW_lv rfl (l := [(0, xR_ (x0)), (1, xR_ (x1)), (2, xI (x2))]) (xsb_of ⟨rfl, rfl, rfl, trivial⟩ (show [0, 1, 2].Nodup by decide)) ?_
      exact k161_93  hr2 hx2 h
    · rw [if_neg c147] at h
      refine xe_alr (ins := .aload_n 0) (len := 1) (i := 0) (by decide +kernel) rfl rfl rfl rfl rfl ?_
      refine xe_alr (ins := .aload_n 1) (len := 1) (i := 1) (by decide +kernel) rfl rfl rfl rfl rfl ?_
      obtain ⟨v148, e149, h⟩ := xbnd h
      refine xs_gi (i := 176) (c := 6) (k := 0) (by decide +kernel) (by decide) (by decide +kernel) e149 rfl ?_
      refine xe_alr (ins := .aload_n 0) (len := 1) (i := 0) (by decide +kernel) rfl rfl rfl rfl rfl ?_
      obtain ⟨v150, e151, h⟩ := xbnd h
      refine xs_gr (i := 46) (c := 10) (k := 11) (by decide +kernel) (by decide) (by decide +kernel) e151 rfl ?_
      obtain ⟨_, e153, h⟩ := xbnd h
      obtain ⟨R154, e152, h⟩ := xbnd h
      refine xs_cv (i := 241) (j := 156) (ar := [xR_ (v150), xI (v148)]) (rest := []) (r2 := xr_156) (by decide +kernel) (by decide +kernel) (by decide +kernel) xr_156_e rfl (by decide) (by decide) e153 ?_
      refine xc_i (k156 (d := d + 0)  (xq_gi_in e149) e152) rfl (fun hi155 => ?_)
      refine xe_ifne (off := 5) (t := 93) (by decide +kernel) (by decide) rfl hi155 (fun c156 => ?_) (fun c156 => ?_)
      · rw [if_pos c156] at h
        refine xW_lv rfl (l := [(0, xR_ (x0)), (1, xR_ (x1)), (2, xI (x2))]) (xsb_of ⟨rfl, rfl, rfl, trivial⟩ (show [0, 1, 2].Nodup by decide)) ?_
        exact k161_93  hr2 hx2 h
      · rw [if_neg c156] at h
        refine xe_iconst (n := 0) (by decide +kernel) rfl ?_
        cases h
        exact xe_ret_i (ty := .boolean) (by decide +kernel) rfl (by decide) ⟨rfl, rfl, (show xin (0) by decide)⟩
def f161_2   (f : Nat) : Nat → Nat → Nat → Int → xj_M → Option (Int × xj_M)
  | 0, _, _, _, _ => none
  | n + 1, x0, x1, x2, M => f161_2b   (f161_2   f n) f x0 x1 x2 M
theorem k161_2 {d f : Nat}     : ∀ {n : Nat} {x0 : Nat} {x1 : Nat} {x2 : Int} {M : xj_M} {R : Int × xj_M}, xin x2 → f161_2   f n x0 x1 x2 M = some R → xW (d + 4) (none, d + 4, none) xr_161 (2, [(0, xR_ x0), (1, xR_ x1), (2, xI x2)], [], M) (xQi R) := by
  intro n
  induction n with
  | zero => intros; rename_i h; cases h
  | succ n ih => intros; rename_i h; exact k161_2b   ih (by assumption) h
def f161  (f : Nat) (a0 : Nat) (a1 : Nat) (M : xj_M) : Option (Int × xj_M) := f161_2   f f (a0) (a1) (0) M
theorem k161 {d f : Nat}   {a0 : Nat} {a1 : Nat} {M : xj_M} {R : Int × xj_M}  (h : f161  f a0 a1 M = some R) : xT (d + 5) 161 [xR_ a0, xR_ a1] M (xQi R) := by
  refine xT_m xr_161_e (X := (none, d + 4, none)) rfl (xa_1 (xR_cat _) (xa_1 (xR_cat _) xa_n)) (by decide) ?_
  unfold f161 at h
  refine xe_iconst (n := 0) (by decide +kernel) rfl ?_
  refine xe_isr (ins := .istore_n 2) (len := 1) (i := 2) (by decide +kernel) rfl rfl rfl (by decide) (xk_k (show ¬ (0 : Nat) = 2 by decide) (Or.inl (show ¬ (0 + 1 : Nat) = 2 by decide)) (xk_k (show ¬ (1 : Nat) = 2 by decide) (Or.inr (xR_cat _)) xk_n)) rfl ?_
  refine xW_lv rfl (l := [(0, xR_ (a0)), (1, xR_ (a1)), (2, xI (0))]) (xsb_of ⟨rfl, rfl, rfl, trivial⟩ (show [2, 0, 1].Nodup by decide)) ?_
  exact k161_2   (show xin (0) by decide) h
-- ChangeHouse.<init>
def xr_168 : xj_mR := (11, yX11_init, cX11_init, 3, (Option.none : Option Jvm.ClassFile.FieldType), 0, true, (1, 34), (1, 1))
set_option maxRecDepth 20000 in
theorem xr_168_e : xj_row 168 = some xr_168 := rfl
def f168_173b  (r173 : Nat → Nat → Int → xj_M → Option (xj_M)) (f : Nat) (x0 : Nat) (x1 : Nat) (x2 : Int) (M : xj_M) : Option (xj_M) := (if (4) ≤ (x2) then (some M) else ((xq_gr 11 5 (x0) M).bind fun v102 => ((xq_nw 1 M).bind fun p104 => ((f4  f (p104.1) (x1) p104.2).bind fun M107 => ((xq_sr (v102) (x2) (p104.1) M107).bind fun M109 => r173 (x0) (x1) (xwr ((x2) + (1))) M109)))))
theorem k168_173b {d f : Nat}  {r173 : Nat → Nat → Int → xj_M → Option (xj_M)}  (hr173 : ∀ {x0 : Nat} {x1 : Nat} {x2 : Int} {M : xj_M} {R : xj_M}, xin x2 → r173 x0 x1 x2 M = some R → xW (d + 2) (none, d + 2, none) xr_168 (173, [(0, xR_ x0), (1, xR_ x1), (2, xI x2)], [], M) (xQv R)) {x0 : Nat} {x1 : Nat} {x2 : Int} {M : xj_M} {R : xj_M} (hx2 : xin x2) (h : f168_173b  r173 f x0 x1 x2 M = some R) : xW (d + 2) (none, d + 2, none) xr_168 (173, [(0, xR_ x0), (1, xR_ x1), (2, xI x2)], [], M) (xQv R) := by
  unfold f168_173b at h
  refine xe_ldn (ins := .iload_n 2) (len := 1) (by decide +kernel) rfl rfl rfl rfl ?_
  refine xe_iconst (n := 4) (by decide +kernel) rfl ?_
  refine xe_icmpge (off := 23) (t := 198) (by decide +kernel) (by decide) rfl hx2 (show xin (4) by decide) (fun c101 => ?_) (fun c101 => ?_)
  · rw [if_pos c101] at h
    cases h
    exact xe_ret_v (by decide +kernel) rfl ⟨rfl, rfl⟩
  · rw [if_neg c101] at h
    refine xe_alr (ins := .aload_n 0) (len := 1) (i := 0) (by decide +kernel) rfl rfl rfl rfl rfl ?_
    obtain ⟨v102, e103, h⟩ := xbnd h
    refine xs_gr (i := 50) (c := 11) (k := 5) (by decide +kernel) (by decide) (by decide +kernel) e103 rfl ?_
    refine xe_ldn (ins := .iload_n 2) (len := 1) (by decide +kernel) rfl rfl rfl rfl ?_
    obtain ⟨p104, e105, h⟩ := xbnd h
    refine xs_nw (i := 48) (ci := 1) (x := p104.1) (M1 := p104.2) (by decide +kernel) (by decide +kernel) e105 rfl ?_
    refine xe_dupr (by decide +kernel) rfl ?_
    refine xe_alr (ins := .aload_n 1) (len := 1) (i := 1) (by decide +kernel) rfl rfl rfl rfl rfl ?_
    obtain ⟨M107, e106, h⟩ := xbnd h
    refine xs_ci (kd := 1) (by decide) (i := 104) (j := 4) (ar := [xR_ (x1)]) (rest := [xR_ (p104.1), xI (x2), xR_ (v102)]) (r2 := xr_4) (by decide +kernel) (by decide +kernel) xr_4_e rfl rfl (by simp only [List.map_cons, List.map_nil, List.sum_cons, List.sum_nil, xR_cat, xI_cat, xZ_cat]; decide) (xq_nw_ne e105) ?_
    refine xc_v (k4 (d := d + 1)   e106) rfl ?_
    obtain ⟨M109, e110, h⟩ := xbnd h
    refine xs_aast (by decide +kernel) hx2 e110 rfl ?_
    refine xe_iincr (i := 2) (n := 1) (by decide +kernel) (by decide) rfl (xk_k (show ¬ (0 : Nat) = 2 by decide) (Or.inl (show ¬ (0 + 1 : Nat) = 2 by decide)) (xk_k (show ¬ (1 : Nat) = 2 by decide) (Or.inr (xR_cat _)) (xk_d rfl xk_n))) rfl ?_
    refine xe_goto (off := -22) (nx := 173) (by decide +kernel) (by decide) ?_
    refine xW_lv rfl (l := [(0, xR_ (x0)), (1, xR_ (x1)), (2, xI (xwr ((x2) + (1))))]) (xsb_of ⟨rfl, rfl, rfl, trivial⟩ (show [2, 0, 1].Nodup by decide)) ?_
    exact hr173 (xin_wr _) h
def f168_173   (f : Nat) : Nat → Nat → Nat → Int → xj_M → Option (xj_M)
  | 0, _, _, _, _ => none
  | n + 1, x0, x1, x2, M => f168_173b   (f168_173   f n) f x0 x1 x2 M
theorem k168_173 {d f : Nat}     : ∀ {n : Nat} {x0 : Nat} {x1 : Nat} {x2 : Int} {M : xj_M} {R : xj_M}, xin x2 → f168_173   f n x0 x1 x2 M = some R → xW (d + 2) (none, d + 2, none) xr_168 (173, [(0, xR_ x0), (1, xR_ x1), (2, xI x2)], [], M) (xQv R) := by
  intro n
  induction n with
  | zero => intros; rename_i h; cases h
  | succ n ih => intros; rename_i h; exact k168_173b   ih (by assumption) h
def f168  (f : Nat) (a0 : Nat) (M : xj_M) : Option (xj_M) := ((xq_nz (a0)).bind fun _ => ((xq_nw 8 M).bind fun p112 => ((f110  f (p112.1) p112.2).bind fun M115 => ((xq_pr 11 0 (a0) (p112.1) M115).bind fun M117 => ((xq_nw 4 M117).bind fun p119 => ((xq_gr 11 0 (a0) p119.2).bind fun v121 => ((f29  f (p119.1) (v121) p119.2).bind fun M124 => ((xq_pr 11 1 (a0) (p119.1) M124).bind fun M126 => ((xq_nw 9 M126).bind fun p128 => ((f129  f (p128.1) p128.2).bind fun M131 => ((xq_pr 11 2 (a0) (p128.1) M131).bind fun M133 => ((xq_nw 10 M133).bind fun p135 => ((xq_gr 11 2 (a0) p135.2).bind fun v137 => ((f144  f (p135.1) (v137) p135.2).bind fun M140 => ((xq_pr 11 3 (a0) (p135.1) M140).bind fun M142 => ((xq_nw 7 M142).bind fun p144 => ((f98  f (p144.1) p144.2).bind fun M147 => ((xq_pr 11 4 (a0) (p144.1) M147).bind fun M149 => ((xq_an 1 (4) M149).bind fun p151 => ((xq_pr 11 5 (a0) (p151.1) p151.2).bind fun M153 => ((xq_pi 11 9 (a0) (-1) M153).bind fun M155 => ((xq_nw 5 M155).bind fun p157 => ((f68  f (p157.1) (8) (500) p157.2).bind fun M160 => ((xq_pr 11 10 (a0) (p157.1) M160).bind fun M162 => ((xq_nw 5 M162).bind fun p164 => ((f68  f (p164.1) (8) (500) p164.2).bind fun M167 => ((xq_pr 11 11 (a0) (p164.1) M167).bind fun M169 => ((xq_na 4 (4) M169).bind fun p171 => ((xq_pr 11 14 (a0) (p171.1) p171.2).bind fun M173 => ((xq_pi 11 15 (a0) (-1) M173).bind fun M175 => ((xq_nw 2 M175).bind fun p177 => ((xq_nw 3 p177.2).bind fun p179 => ((f19  f (p179.1) (0) p179.2).bind fun M182 => ((xq_an 5 (0) M182).bind fun p184 => ((f14  f (p177.1) (p179.1) (p184.1) p184.2).bind fun M187 => ((xq_an 0 (72) M187).bind fun p189 => ((xq_pr 2 2 (p177.1) (p189.1) p189.2).bind fun M191 => ((xq_na 4 (72) M191).bind fun p193 => ((xq_pr 2 3 (p177.1) (p193.1) p193.2).bind fun M195 => ((xq_gr 2 3 (p177.1) M195).bind fun v197 => ((f381  f (v197) (9000000000000000000) M195).bind fun M200 => f168_173   f f (a0) (p177.1) (0) M200)))))))))))))))))))))))))))))))))))))))))
theorem k168 {d f : Nat}   {a0 : Nat} {M : xj_M} {R : xj_M}  (h : f168  f a0 M = some R) : xT (d + 3) 168 [xR_ a0] M (xQv R) := by
  refine xT_m xr_168_e (X := (none, d + 2, none)) rfl (xa_1 (xR_cat _) xa_n) (by decide) ?_
  unfold f168 at h
  refine xe_alr (ins := .aload_n 0) (len := 1) (i := 0) (by decide +kernel) rfl rfl rfl rfl rfl ?_
  obtain ⟨_, e111, h⟩ := xbnd h
  refine xe_oi (i := 1) (j := 0) (by decide +kernel) (by decide +kernel) (by rfl) (xq_nz_ne e111) rfl ?_
  refine xe_alr (ins := .aload_n 0) (len := 1) (i := 0) (by decide +kernel) rfl rfl rfl rfl rfl ?_
  obtain ⟨p112, e113, h⟩ := xbnd h
  refine xs_nw (i := 7) (ci := 8) (x := p112.1) (M1 := p112.2) (by decide +kernel) (by decide +kernel) e113 rfl ?_
  refine xe_dupr (by decide +kernel) rfl ?_
  obtain ⟨M115, e114, h⟩ := xbnd h
  refine xs_ci (kd := 4) (by decide) (i := 9) (j := 110) (ar := []) (rest := [xR_ (p112.1), xR_ (a0)]) (r2 := xr_110) (by decide +kernel) (by decide +kernel) xr_110_e rfl rfl (by simp only [List.map_cons, List.map_nil, List.sum_cons, List.sum_nil, xR_cat, xI_cat, xZ_cat]; decide) (xq_nw_ne e113) ?_
  refine xc_v (k110 (d := d + 1)   e114) rfl ?_
  obtain ⟨M117, e118, h⟩ := xbnd h
  refine xs_p (i := 10) (c := 11) (k := 0) (by decide +kernel) (by decide +kernel) (by decide +kernel) e118 rfl ?_
  refine xe_alr (ins := .aload_n 0) (len := 1) (i := 0) (by decide +kernel) rfl rfl rfl rfl rfl ?_
  obtain ⟨p119, e120, h⟩ := xbnd h
  refine xs_nw (i := 16) (ci := 4) (x := p119.1) (M1 := p119.2) (by decide +kernel) (by decide +kernel) e120 rfl ?_
  refine xe_dupr (by decide +kernel) rfl ?_
  refine xe_alr (ins := .aload_n 0) (len := 1) (i := 0) (by decide +kernel) rfl rfl rfl rfl rfl ?_
  obtain ⟨v121, e122, h⟩ := xbnd h
  refine xs_gr (i := 10) (c := 11) (k := 0) (by decide +kernel) (by decide) (by decide +kernel) e122 rfl ?_
  obtain ⟨M124, e123, h⟩ := xbnd h
  refine xs_ci (kd := 1) (by decide) (i := 18) (j := 29) (ar := [xR_ (v121)]) (rest := [xR_ (p119.1), xR_ (a0)]) (r2 := xr_29) (by decide +kernel) (by decide +kernel) xr_29_e rfl rfl (by simp only [List.map_cons, List.map_nil, List.sum_cons, List.sum_nil, xR_cat, xI_cat, xZ_cat]; decide) (xq_nw_ne e120) ?_
  refine xc_v (k29 (d := d + 1)   e123) rfl ?_
  obtain ⟨M126, e127, h⟩ := xbnd h
  refine xs_p (i := 21) (c := 11) (k := 1) (by decide +kernel) (by decide +kernel) (by decide +kernel) e127 rfl ?_
  refine xe_alr (ins := .aload_n 0) (len := 1) (i := 0) (by decide +kernel) rfl rfl rfl rfl rfl ?_
  obtain ⟨p128, e129, h⟩ := xbnd h
  refine xs_nw (i := 25) (ci := 9) (x := p128.1) (M1 := p128.2) (by decide +kernel) (by decide +kernel) e129 rfl ?_
  refine xe_dupr (by decide +kernel) rfl ?_
  obtain ⟨M131, e130, h⟩ := xbnd h
  refine xs_ci (kd := 4) (by decide) (i := 27) (j := 129) (ar := []) (rest := [xR_ (p128.1), xR_ (a0)]) (r2 := xr_129) (by decide +kernel) (by decide +kernel) xr_129_e rfl rfl (by simp only [List.map_cons, List.map_nil, List.sum_cons, List.sum_nil, xR_cat, xI_cat, xZ_cat]; decide) (xq_nw_ne e129) ?_
  refine xc_v (k129 (d := d + 1)   e130) rfl ?_
  obtain ⟨M133, e134, h⟩ := xbnd h
  refine xs_p (i := 28) (c := 11) (k := 2) (by decide +kernel) (by decide +kernel) (by decide +kernel) e134 rfl ?_
  refine xe_alr (ins := .aload_n 0) (len := 1) (i := 0) (by decide +kernel) rfl rfl rfl rfl rfl ?_
  obtain ⟨p135, e136, h⟩ := xbnd h
  refine xs_nw (i := 32) (ci := 10) (x := p135.1) (M1 := p135.2) (by decide +kernel) (by decide +kernel) e136 rfl ?_
  refine xe_dupr (by decide +kernel) rfl ?_
  refine xe_alr (ins := .aload_n 0) (len := 1) (i := 0) (by decide +kernel) rfl rfl rfl rfl rfl ?_
  obtain ⟨v137, e138, h⟩ := xbnd h
  refine xs_gr (i := 28) (c := 11) (k := 2) (by decide +kernel) (by decide) (by decide +kernel) e138 rfl ?_
  obtain ⟨M140, e139, h⟩ := xbnd h
  refine xs_ci (kd := 1) (by decide) (i := 34) (j := 144) (ar := [xR_ (v137)]) (rest := [xR_ (p135.1), xR_ (a0)]) (r2 := xr_144) (by decide +kernel) (by decide +kernel) xr_144_e rfl rfl (by simp only [List.map_cons, List.map_nil, List.sum_cons, List.sum_nil, xR_cat, xI_cat, xZ_cat]; decide) (xq_nw_ne e136) ?_
  refine xc_v (k144 (d := d + 0)   e139) rfl ?_
  obtain ⟨M142, e143, h⟩ := xbnd h
  refine xs_p (i := 37) (c := 11) (k := 3) (by decide +kernel) (by decide +kernel) (by decide +kernel) e143 rfl ?_
  refine xe_alr (ins := .aload_n 0) (len := 1) (i := 0) (by decide +kernel) rfl rfl rfl rfl rfl ?_
  obtain ⟨p144, e145, h⟩ := xbnd h
  refine xs_nw (i := 41) (ci := 7) (x := p144.1) (M1 := p144.2) (by decide +kernel) (by decide +kernel) e145 rfl ?_
  refine xe_dupr (by decide +kernel) rfl ?_
  obtain ⟨M147, e146, h⟩ := xbnd h
  refine xs_ci (kd := 4) (by decide) (i := 43) (j := 98) (ar := []) (rest := [xR_ (p144.1), xR_ (a0)]) (r2 := xr_98) (by decide +kernel) (by decide +kernel) xr_98_e rfl rfl (by simp only [List.map_cons, List.map_nil, List.sum_cons, List.sum_nil, xR_cat, xI_cat, xZ_cat]; decide) (xq_nw_ne e145) ?_
  refine xc_v (k98 (d := d + 1)   e146) rfl ?_
  obtain ⟨M149, e150, h⟩ := xbnd h
  refine xs_p (i := 44) (c := 11) (k := 4) (by decide +kernel) (by decide +kernel) (by decide +kernel) e150 rfl ?_
  refine xe_alr (ins := .aload_n 0) (len := 1) (i := 0) (by decide +kernel) rfl rfl rfl rfl rfl ?_
  refine xe_iconst (n := 4) (by decide +kernel) rfl ?_
  obtain ⟨p151, e152, h⟩ := xbnd h
  refine xs_an (i := 48) (ci := 1) (x := p151.1) (M1 := p151.2) (by decide +kernel) (by decide +kernel) (show xin (4) by decide) e152 rfl ?_
  obtain ⟨M153, e154, h⟩ := xbnd h
  refine xs_p (i := 50) (c := 11) (k := 5) (by decide +kernel) (by decide +kernel) (by decide +kernel) e154 rfl ?_
  refine xe_alr (ins := .aload_n 0) (len := 1) (i := 0) (by decide +kernel) rfl rfl rfl rfl rfl ?_
  refine xe_iconst (n := -1) (by decide +kernel) rfl ?_
  obtain ⟨M155, e156, h⟩ := xbnd h
  refine xs_p (i := 54) (c := 11) (k := 9) (by decide +kernel) (by decide +kernel) (by decide +kernel) e156 rfl ?_
  refine xe_alr (ins := .aload_n 0) (len := 1) (i := 0) (by decide +kernel) rfl rfl rfl rfl rfl ?_
  obtain ⟨p157, e158, h⟩ := xbnd h
  refine xs_nw (i := 58) (ci := 5) (x := p157.1) (M1 := p157.2) (by decide +kernel) (by decide +kernel) e158 rfl ?_
  refine xe_dupr (by decide +kernel) rfl ?_
  refine xe_bipush (n := 8) (by decide +kernel) (by decide) rfl ?_
  refine xe_sipush (n := 500) (by decide +kernel) (by decide) rfl ?_
  obtain ⟨M160, e159, h⟩ := xbnd h
  refine xs_ci (kd := 1) (by decide) (i := 60) (j := 68) (ar := [xI (500), xI (8)]) (rest := [xR_ (p157.1), xR_ (a0)]) (r2 := xr_68) (by decide +kernel) (by decide +kernel) xr_68_e rfl rfl (by simp only [List.map_cons, List.map_nil, List.sum_cons, List.sum_nil, xR_cat, xI_cat, xZ_cat]; decide) (xq_nw_ne e158) ?_
  refine xc_v (k68 (d := d + 1)  (show xin (8) by decide) (show xin (500) by decide) e159) rfl ?_
  obtain ⟨M162, e163, h⟩ := xbnd h
  refine xs_p (i := 63) (c := 11) (k := 10) (by decide +kernel) (by decide +kernel) (by decide +kernel) e163 rfl ?_
  refine xe_alr (ins := .aload_n 0) (len := 1) (i := 0) (by decide +kernel) rfl rfl rfl rfl rfl ?_
  obtain ⟨p164, e165, h⟩ := xbnd h
  refine xs_nw (i := 58) (ci := 5) (x := p164.1) (M1 := p164.2) (by decide +kernel) (by decide +kernel) e165 rfl ?_
  refine xe_dupr (by decide +kernel) rfl ?_
  refine xe_bipush (n := 8) (by decide +kernel) (by decide) rfl ?_
  refine xe_sipush (n := 500) (by decide +kernel) (by decide) rfl ?_
  obtain ⟨M167, e166, h⟩ := xbnd h
  refine xs_ci (kd := 1) (by decide) (i := 60) (j := 68) (ar := [xI (500), xI (8)]) (rest := [xR_ (p164.1), xR_ (a0)]) (r2 := xr_68) (by decide +kernel) (by decide +kernel) xr_68_e rfl rfl (by simp only [List.map_cons, List.map_nil, List.sum_cons, List.sum_nil, xR_cat, xI_cat, xZ_cat]; decide) (xq_nw_ne e165) ?_
  refine xc_v (k68 (d := d + 1)  (show xin (8) by decide) (show xin (500) by decide) e166) rfl ?_
  obtain ⟨M169, e170, h⟩ := xbnd h
  refine xs_p (i := 67) (c := 11) (k := 11) (by decide +kernel) (by decide +kernel) (by decide +kernel) e170 rfl ?_
  refine xe_alr (ins := .aload_n 0) (len := 1) (i := 0) (by decide +kernel) rfl rfl rfl rfl rfl ?_
  refine xe_iconst (n := 4) (by decide +kernel) rfl ?_
  obtain ⟨p171, e172, h⟩ := xbnd h
  refine xs_na (kk := 4) (ty := .long) (x := p171.1) (M1 := p171.2) (by decide +kernel) rfl (show xin (4) by decide) e172 rfl ?_
  obtain ⟨M173, e174, h⟩ := xbnd h
  refine xs_p (i := 70) (c := 11) (k := 14) (by decide +kernel) (by decide +kernel) (by decide +kernel) e174 rfl ?_
  refine xe_alr (ins := .aload_n 0) (len := 1) (i := 0) (by decide +kernel) rfl rfl rfl rfl rfl ?_
  refine xe_iconst (n := -1) (by decide +kernel) rfl ?_
  obtain ⟨M175, e176, h⟩ := xbnd h
  refine xs_p (i := 74) (c := 11) (k := 15) (by decide +kernel) (by decide +kernel) (by decide +kernel) e176 rfl ?_
  obtain ⟨p177, e178, h⟩ := xbnd h
  refine xs_nw (i := 77) (ci := 2) (x := p177.1) (M1 := p177.2) (by decide +kernel) (by decide +kernel) e178 rfl ?_
  refine xe_dupr (by decide +kernel) rfl ?_
  obtain ⟨p179, e180, h⟩ := xbnd h
  refine xs_nw (i := 79) (ci := 3) (x := p179.1) (M1 := p179.2) (by decide +kernel) (by decide +kernel) e180 rfl ?_
  refine xe_dupr (by decide +kernel) rfl ?_
  refine xe_iconst (n := 0) (by decide +kernel) rfl ?_
  obtain ⟨M182, e181, h⟩ := xbnd h
  refine xs_ci (kd := 1) (by decide) (i := 81) (j := 19) (ar := [xI (0)]) (rest := [xR_ (p179.1), xR_ (p177.1), xR_ (p177.1)]) (r2 := xr_19) (by decide +kernel) (by decide +kernel) xr_19_e rfl rfl (by simp only [List.map_cons, List.map_nil, List.sum_cons, List.sum_nil, xR_cat, xI_cat, xZ_cat]; decide) (xq_nw_ne e180) ?_
  refine xc_v (k19 (d := d + 1)  (show xin (0) by decide) e181) rfl ?_
  refine xe_iconst (n := 0) (by decide +kernel) rfl ?_
  obtain ⟨p184, e185, h⟩ := xbnd h
  refine xs_an (i := 58) (ci := 5) (x := p184.1) (M1 := p184.2) (by decide +kernel) (by decide +kernel) (show xin (0) by decide) e185 rfl ?_
  obtain ⟨M187, e186, h⟩ := xbnd h
  refine xs_ci (kd := 1) (by decide) (i := 84) (j := 14) (ar := [xR_ (p184.1), xR_ (p179.1)]) (rest := [xR_ (p177.1)]) (r2 := xr_14) (by decide +kernel) (by decide +kernel) xr_14_e rfl rfl (by simp only [List.map_cons, List.map_nil, List.sum_cons, List.sum_nil, xR_cat, xI_cat, xZ_cat]; decide) (xq_nw_ne e178) ?_
  refine xc_v (k14 (d := d + 1)   e186) rfl ?_
  refine xe_asr (ins := .astore_n 1) (len := 1) (i := 1) (by decide +kernel) rfl rfl rfl (by decide) (xk_k (show ¬ (0 : Nat) = 1 by decide) (Or.inr (xR_cat _)) xk_n) rfl ?_
  refine xe_alr (ins := .aload_n 1) (len := 1) (i := 1) (by decide +kernel) rfl rfl rfl rfl rfl ?_
  refine xe_bipush (n := 72) (by decide +kernel) (by decide) rfl ?_
  obtain ⟨p189, e190, h⟩ := xbnd h
  refine xs_an (i := 87) (ci := 0) (x := p189.1) (M1 := p189.2) (by decide +kernel) (by decide +kernel) (show xin (72) by decide) e190 rfl ?_
  obtain ⟨M191, e192, h⟩ := xbnd h
  refine xs_p (i := 89) (c := 2) (k := 2) (by decide +kernel) (by decide +kernel) (by decide +kernel) e192 rfl ?_
  refine xe_alr (ins := .aload_n 1) (len := 1) (i := 1) (by decide +kernel) rfl rfl rfl rfl rfl ?_
  refine xe_bipush (n := 72) (by decide +kernel) (by decide) rfl ?_
  obtain ⟨p193, e194, h⟩ := xbnd h
  refine xs_na (kk := 4) (ty := .long) (x := p193.1) (M1 := p193.2) (by decide +kernel) rfl (show xin (72) by decide) e194 rfl ?_
  obtain ⟨M195, e196, h⟩ := xbnd h
  refine xs_p (i := 93) (c := 2) (k := 3) (by decide +kernel) (by decide +kernel) (by decide +kernel) e196 rfl ?_
  refine xe_alr (ins := .aload_n 1) (len := 1) (i := 1) (by decide +kernel) rfl rfl rfl rfl rfl ?_
  obtain ⟨v197, e198, h⟩ := xbnd h
  refine xs_gr (i := 93) (c := 2) (k := 3) (by decide +kernel) (by decide) (by decide +kernel) e198 rfl ?_
  refine xe_ldc2 (i := 96) (n := 9000000000000000000) (by decide +kernel) (by decide +kernel) rfl ?_
  obtain ⟨M200, e199, h⟩ := xbnd h
  refine xs_cs (kd := 2) (by decide) (i := 98) (j := 381) (ar := [xZ (9000000000000000000), xR_ (v197)]) (rest := []) (r2 := xr_381) (by decide +kernel) (by decide +kernel) (by decide +kernel) xr_381_e rfl (by decide) ?_
  refine xc_v (k381 (d := d + 1)  (show xiN (9000000000000000000) by decide) e199) rfl ?_
  refine xe_iconst (n := 0) (by decide +kernel) rfl ?_
  refine xe_isr (ins := .istore_n 2) (len := 1) (i := 2) (by decide +kernel) rfl rfl rfl (by decide) (xk_k (show ¬ (1 : Nat) = 2 by decide) (Or.inr (xR_cat _)) (xk_k (show ¬ (0 : Nat) = 2 by decide) (Or.inl (show ¬ (0 + 1 : Nat) = 2 by decide)) xk_n)) rfl ?_
  refine xW_lv rfl (l := [(0, xR_ (a0)), (1, xR_ (p177.1)), (2, xI (0))]) (xsb_of ⟨rfl, rfl, rfl, trivial⟩ (show [2, 1, 0].Nodup by decide)) ?_
  exact k168_173   (show xin (0) by decide) h
-- ChangeHouse.predicate
def xr_175 : xj_mR := (11, yX11_predicate, cX11_predicate, 6, (Option.some Jvm.ClassFile.FieldType.int), 2, false, (7, 236), (1, 1))
set_option maxRecDepth 20000 in
theorem xr_175_e : xj_row 175 = some xr_175 := rfl
def f175_36   (f : Nat)  (M : xj_M) : Option ((Nat ⊕ Int) × xj_M) := (some (.inl 1, xj_new M (.inl ()) 6))
theorem k175_36 {d f : Nat}      {M : xj_M} {R : (Nat ⊕ Int) × xj_M}  (h : f175_36   f  M = some R) : xW (d + 5) (none, d + 5, none) xr_175 (36, [], [], M) (xQti R) := by
  unfold f175_36 at h
  cases h
  exact xe_throw (i := 261) rfl (show 5 ≤ d + 5 by omega) (by decide +kernel) (by decide +kernel) (by decide +kernel) ⟨rfl, rfl, fun v hv => by cases hv⟩
def f175_193   (f : Nat) (y0 : Int) (M : xj_M) : Option ((Nat ⊕ Int) × xj_M) := (some (.inr (y0), M))
theorem k175_193 {d f : Nat}     {y0 : Int} {M : xj_M} {R : (Nat ⊕ Int) × xj_M} (hy0 : xin y0) (h : f175_193   f y0 M = some R) : xW (d + 5) (none, d + 5, none) xr_175 (193, [], [xI y0], M) (xQti R) := by
  unfold f175_193 at h
  cases h
  exact xe_ret_i (ty := .int) (by decide +kernel) rfl rfl ⟨rfl, rfl, fun v hv => by cases hv; exact hy0⟩
def f175_192   (f : Nat)  (M : xj_M) : Option ((Nat ⊕ Int) × xj_M) := f175_193   f (0) M
theorem k175_192 {d f : Nat}      {M : xj_M} {R : (Nat ⊕ Int) × xj_M}  (h : f175_192   f  M = some R) : xW (d + 5) (none, d + 5, none) xr_175 (192, [], [], M) (xQti R) := by
  unfold f175_192 at h
  refine xe_iconst (n := 0) (by decide +kernel) rfl ?_
  refine xW_lv rfl (l := []) (xsb_of trivial (show [].Nodup by decide)) ?_
  exact k175_193   (show xin (0) by decide) h
def f175_139   (f : Nat) (y0 : Int) (M : xj_M) : Option ((Nat ⊕ Int) × xj_M) := (some (.inr (y0), M))
theorem k175_139 {d f : Nat}     {y0 : Int} {M : xj_M} {R : (Nat ⊕ Int) × xj_M} (hy0 : xin y0) (h : f175_139   f y0 M = some R) : xW (d + 5) (none, d + 5, none) xr_175 (139, [], [xI y0], M) (xQti R) := by
  unfold f175_139 at h
  cases h
  exact xe_ret_i (ty := .int) (by decide +kernel) rfl rfl ⟨rfl, rfl, fun v hv => by cases hv; exact hy0⟩
def f175_123   (f : Nat) (y0 : Int) (M : xj_M) : Option ((Nat ⊕ Int) × xj_M) := (some (.inr (y0), M))
theorem k175_123 {d f : Nat}     {y0 : Int} {M : xj_M} {R : (Nat ⊕ Int) × xj_M} (hy0 : xin y0) (h : f175_123   f y0 M = some R) : xW (d + 5) (none, d + 5, none) xr_175 (123, [], [xI y0], M) (xQti R) := by
  unfold f175_123 at h
  cases h
  exact xe_ret_i (ty := .int) (by decide +kernel) rfl rfl ⟨rfl, rfl, fun v hv => by cases hv; exact hy0⟩
def f175  (f : Nat) (a0 : Nat) (a1 : Int) (a2 : Int) (M : xj_M) : Option ((Nat ⊕ Int) × xj_M) := ((xq_gr 11 5 (a0) M).bind fun v101 => ((xq_gi 11 6 (a0) M).bind fun v103 => ((xq_ar (v101) (v103) M).bind fun v105 => ((xq_is 1 (v105) M).bind fun _ => ((f5  f (v105) M).bind fun R109 => ((xq_gr 2 0 (R109.1) R109.2).bind fun v111 => (if (a1) < 0 then f175_36   f  R109.2 else ((xq_gi 3 1 (v111) R109.2).bind fun v114 => (if (a1) < (v114) then (if (a2) < 0 ∨ 7 < (a2) then (some (.inr (-1), R109.2)) else (if (a2) = 0 then ((xq_gr 3 3 (v111) R109.2).bind fun v119 => ((xq_ai 3 (v119) (a1) R109.2).bind fun v121 => (some (.inr (v121), R109.2)))) else (if (a2) = 1 then ((xq_gr 3 4 (v111) R109.2).bind fun v124 => ((xq_ai 3 (v124) (a1) R109.2).bind fun v126 => (some (.inr (v126), R109.2)))) else (if (a2) = 2 then ((xq_gr 3 5 (v111) R109.2).bind fun v129 => ((xq_ab (v129) (a1) R109.2).bind fun v131 => (if (v131) = 0 then f175_123   f (0) R109.2 else f175_123   f (1) R109.2))) else (if (a2) = 3 then ((xq_gr 3 6 (v111) R109.2).bind fun v135 => ((xq_ab (v135) (a1) R109.2).bind fun v137 => (if (v137) = 0 then f175_139   f (0) R109.2 else f175_139   f (1) R109.2))) else (if (a2) = 4 then ((xq_gr 3 10 (v111) R109.2).bind fun v141 => ((xq_ai 3 (v141) (a1) R109.2).bind fun v143 => (some (.inr (v143), R109.2)))) else (if (a2) = 5 then ((xq_gr 1 5 (v105) R109.2).bind fun v146 => ((xq_ai 3 (v146) (a1) R109.2).bind fun v148 => (some (.inr (v148), R109.2)))) else (if (a2) = 6 then ((xq_gr 2 1 (R109.1) R109.2).bind fun v151 => ((xq_ar (v151) (a1) R109.2).bind fun v153 => ((xq_gi 5 1 (v153) R109.2).bind fun v155 => (some (.inr (v155), R109.2))))) else ((xq_gr 11 13 (a0) R109.2).bind fun v158 => (if (v158) = 0 then f175_192   f  R109.2 else ((xq_gr 11 13 (a0) R109.2).bind fun v161 => ((xq_gr 11 12 (a0) R109.2).bind fun v163 => ((xq_is 2 (v161) R109.2).bind fun _ => ((f18  f (v161) (v163) (a1) R109.2).bind fun R167 => (if (R167.1) ≤ 0 then f175_192   f  R167.2 else f175_193   f (1) R167.2))))))))))))))) else f175_36   f  R109.2)))))))))
theorem k175 {d f : Nat}   {a0 : Nat} {a1 : Int} {a2 : Int} {M : xj_M} {R : (Nat ⊕ Int) × xj_M} (ha1 : xin a1) (ha2 : xin a2) (h : f175  f a0 a1 a2 M = some R) : xT (d + 6) 175 [xR_ a0, xI a1, xI a2] M (xQti R) := by
  refine xT_m xr_175_e (X := (none, d + 5, none)) rfl (xa_1 (xR_cat _) (xa_1 (xI_cat _) (xa_1 (xI_cat _) xa_n))) (by decide) ?_
  unfold f175 at h
  refine xe_alr (ins := .aload_n 0) (len := 1) (i := 0) (by decide +kernel) rfl rfl rfl rfl rfl ?_
  obtain ⟨v101, e102, h⟩ := xbnd h
  refine xs_gr (i := 50) (c := 11) (k := 5) (by decide +kernel) (by decide) (by decide +kernel) e102 rfl ?_
  refine xe_alr (ins := .aload_n 0) (len := 1) (i := 0) (by decide +kernel) rfl rfl rfl rfl rfl ?_
  obtain ⟨v103, e104, h⟩ := xbnd h
  refine xs_gi (i := 132) (c := 11) (k := 6) (by decide +kernel) (by decide) (by decide +kernel) e104 rfl ?_
  obtain ⟨v105, e106, h⟩ := xbnd h
  refine xs_aald (by decide +kernel) (xq_gi_in e104) e106 rfl ?_
  refine xe_asr (ins := .astore_n 3) (len := 1) (i := 3) (by decide +kernel) rfl rfl rfl (by decide) (xk_k (show ¬ (0 : Nat) = 3 by decide) (Or.inl (show ¬ (0 + 1 : Nat) = 3 by decide)) (xk_k (show ¬ (1 : Nat) = 3 by decide) (Or.inl (show ¬ (1 + 1 : Nat) = 3 by decide)) (xk_k (show ¬ (2 : Nat) = 3 by decide) (Or.inr (xI_cat _)) xk_n))) rfl ?_
  refine xe_alr (ins := .aload_n 3) (len := 1) (i := 3) (by decide +kernel) rfl rfl rfl rfl rfl ?_
  obtain ⟨_, e108, h⟩ := xbnd h
  obtain ⟨R109, e107, h⟩ := xbnd h
  refine xs_cv (i := 145) (j := 5) (ar := []) (rest := []) (r2 := xr_5) (by decide +kernel) (by decide +kernel) (by decide +kernel) xr_5_e rfl (by decide) (by decide) e108 ?_
  refine xc_r (k5 (d := d + 4)   e107) rfl ?_
  refine xe_asr (ins := .astore 4) (len := 2) (i := 4) (by decide +kernel) rfl rfl rfl (by decide) (xk_k (show ¬ (3 : Nat) = 4 by decide) (Or.inr (xR_cat _)) (xk_k (show ¬ (0 : Nat) = 4 by decide) (Or.inl (show ¬ (0 + 1 : Nat) = 4 by decide)) (xk_k (show ¬ (1 : Nat) = 4 by decide) (Or.inl (show ¬ (1 + 1 : Nat) = 4 by decide)) (xk_k (show ¬ (2 : Nat) = 4 by decide) (Or.inl (show ¬ (2 + 1 : Nat) = 4 by decide)) xk_n)))) rfl ?_
  refine xe_alr (ins := .aload 4) (len := 2) (i := 4) (by decide +kernel) rfl rfl rfl rfl rfl ?_
  obtain ⟨v111, e112, h⟩ := xbnd h
  refine xs_gr (i := 149) (c := 2) (k := 0) (by decide +kernel) (by decide) (by decide +kernel) e112 rfl ?_
  refine xe_asr (ins := .astore 5) (len := 2) (i := 5) (by decide +kernel) rfl rfl rfl (by decide) (xk_k (show ¬ (4 : Nat) = 5 by decide) (Or.inr (xR_cat _)) (xk_k (show ¬ (3 : Nat) = 5 by decide) (Or.inl (show ¬ (3 + 1 : Nat) = 5 by decide)) (xk_k (show ¬ (0 : Nat) = 5 by decide) (Or.inl (show ¬ (0 + 1 : Nat) = 5 by decide)) (xk_k (show ¬ (1 : Nat) = 5 by decide) (Or.inl (show ¬ (1 + 1 : Nat) = 5 by decide)) (xk_k (show ¬ (2 : Nat) = 5 by decide) (Or.inl (show ¬ (2 + 1 : Nat) = 5 by decide)) xk_n))))) rfl ?_
  refine xe_ldn (ins := .iload_n 1) (len := 1) (by decide +kernel) rfl rfl rfl rfl ?_
  refine xe_iflt (off := 12) (t := 36) (by decide +kernel) (by decide) rfl ha1 (fun c113 => ?_) (fun c113 => ?_)
  · rw [if_pos c113] at h
    refine xW_lv rfl (l := []) (xsb_of trivial (show [5, 4, 3, 0, 1, 2].Nodup by decide)) ?_
    exact k175_36    h
  · rw [if_neg c113] at h
    refine xe_ldn (ins := .iload_n 1) (len := 1) (by decide +kernel) rfl rfl rfl rfl ?_
    refine xe_alr (ins := .aload 5) (len := 2) (i := 5) (by decide +kernel) rfl rfl rfl rfl rfl ?_
    obtain ⟨v114, e115, h⟩ := xbnd h
    refine xs_gi (i := 253) (c := 3) (k := 1) (by decide +kernel) (by decide) (by decide +kernel) e115 rfl ?_
    refine xe_icmplt (off := 11) (t := 44) (by decide +kernel) (by decide) rfl ha1 (xq_gi_in e115) (fun c116 => ?_) (fun c116 => ?_)
    · rw [if_pos c116] at h
      refine xe_ldn (ins := .iload_n 2) (len := 1) (by decide +kernel) rfl rfl rfl rfl ?_
      by_cases c117 : (a2) < 0 ∨ 7 < (a2)
      · rw [if_pos c117] at h
        refine xe_ts (dd := 149) (lo := 0) (hi := 7) (offs := #[47, 55, 63, 79, 95, 103, 110, 121]) (len := 47) (off := 149) (t := 194) (by decide +kernel) ha2 (by rw [if_pos c117]) (by decide) ?_
        refine xe_iconst (n := -1) (by decide +kernel) rfl ?_
        cases h
        exact xe_ret_i (ty := .int) (by decide +kernel) rfl rfl ⟨rfl, rfl, fun v hv => by cases hv; exact (show xin (-1) by decide)⟩
      · rw [if_neg c117] at h
        by_cases c118 : (a2) = 0
        · rw [if_pos c118] at h
          refine xe_ts (dd := 149) (lo := 0) (hi := 7) (offs := #[47, 55, 63, 79, 95, 103, 110, 121]) (len := 47) (off := 47) (t := 92) (by decide +kernel) ha2 (by rw [if_neg c117, c118]; rfl) (by decide) ?_
          refine xe_alr (ins := .aload 5) (len := 2) (i := 5) (by decide +kernel) rfl rfl rfl rfl rfl ?_
          obtain ⟨v119, e120, h⟩ := xbnd h
          refine xs_gr (i := 264) (c := 3) (k := 3) (by decide +kernel) (by decide) (by decide +kernel) e120 rfl ?_
          refine xe_ldn (ins := .iload_n 1) (len := 1) (by decide +kernel) rfl rfl rfl rfl ?_
          obtain ⟨v121, e122, h⟩ := xbnd h
          refine xs_iald rfl (by decide +kernel) ha1 e122 rfl ?_
          cases h
          exact xe_ret_i (ty := .int) (by decide +kernel) rfl rfl ⟨rfl, rfl, fun v hv => by cases hv; exact (xq_ai_in e122)⟩
        · rw [if_neg c118] at h
          by_cases c123 : (a2) = 1
          · rw [if_pos c123] at h
            refine xe_ts (dd := 149) (lo := 0) (hi := 7) (offs := #[47, 55, 63, 79, 95, 103, 110, 121]) (len := 47) (off := 55) (t := 100) (by decide +kernel) ha2 (by rw [if_neg c117, c123]; rfl) (by decide) ?_
            refine xe_alr (ins := .aload 5) (len := 2) (i := 5) (by decide +kernel) rfl rfl rfl rfl rfl ?_
            obtain ⟨v124, e125, h⟩ := xbnd h
            refine xs_gr (i := 265) (c := 3) (k := 4) (by decide +kernel) (by decide) (by decide +kernel) e125 rfl ?_
            refine xe_ldn (ins := .iload_n 1) (len := 1) (by decide +kernel) rfl rfl rfl rfl ?_
            obtain ⟨v126, e127, h⟩ := xbnd h
            refine xs_iald rfl (by decide +kernel) ha1 e127 rfl ?_
            cases h
            exact xe_ret_i (ty := .int) (by decide +kernel) rfl rfl ⟨rfl, rfl, fun v hv => by cases hv; exact (xq_ai_in e127)⟩
          · rw [if_neg c123] at h
            by_cases c128 : (a2) = 2
            · rw [if_pos c128] at h
              refine xe_ts (dd := 149) (lo := 0) (hi := 7) (offs := #[47, 55, 63, 79, 95, 103, 110, 121]) (len := 47) (off := 63) (t := 108) (by decide +kernel) ha2 (by rw [if_neg c117, c128]; rfl) (by decide) ?_
              refine xe_alr (ins := .aload 5) (len := 2) (i := 5) (by decide +kernel) rfl rfl rfl rfl rfl ?_
              obtain ⟨v129, e130, h⟩ := xbnd h
              refine xs_gr (i := 268) (c := 3) (k := 5) (by decide +kernel) (by decide) (by decide +kernel) e130 rfl ?_
              refine xe_ldn (ins := .iload_n 1) (len := 1) (by decide +kernel) rfl rfl rfl rfl ?_
              obtain ⟨v131, e132, h⟩ := xbnd h
              refine xs_bald (by decide +kernel) ha1 e132 rfl ?_
              refine xe_ifeq (off := 7) (t := 122) (by decide +kernel) (by decide) rfl (xq_ab_in e132) (fun c133 => ?_) (fun c133 => ?_)
              · rw [if_pos c133] at h
                refine xe_iconst (n := 0) (by decide +kernel) rfl ?_
                refine xW_lv rfl (l := []) (xsb_of trivial (show [5, 4, 3, 0, 1, 2].Nodup by decide)) ?_
                exact k175_123   (show xin (0) by decide) h
              · rw [if_neg c133] at h
                refine xe_iconst (n := 1) (by decide +kernel) rfl ?_
                refine xe_goto (off := 4) (nx := 123) (by decide +kernel) (by decide) ?_
                refine xW_lv rfl (l := []) (xsb_of trivial (show [5, 4, 3, 0, 1, 2].Nodup by decide)) ?_
                exact k175_123   (show xin (1) by decide) h
            · rw [if_neg c128] at h
              by_cases c134 : (a2) = 3
              · rw [if_pos c134] at h
                refine xe_ts (dd := 149) (lo := 0) (hi := 7) (offs := #[47, 55, 63, 79, 95, 103, 110, 121]) (len := 47) (off := 79) (t := 124) (by decide +kernel) ha2 (by rw [if_neg c117, c134]; rfl) (by decide) ?_
                refine xe_alr (ins := .aload 5) (len := 2) (i := 5) (by decide +kernel) rfl rfl rfl rfl rfl ?_
                obtain ⟨v135, e136, h⟩ := xbnd h
                refine xs_gr (i := 271) (c := 3) (k := 6) (by decide +kernel) (by decide) (by decide +kernel) e136 rfl ?_
                refine xe_ldn (ins := .iload_n 1) (len := 1) (by decide +kernel) rfl rfl rfl rfl ?_
                obtain ⟨v137, e138, h⟩ := xbnd h
                refine xs_bald (by decide +kernel) ha1 e138 rfl ?_
                refine xe_ifeq (off := 7) (t := 138) (by decide +kernel) (by decide) rfl (xq_ab_in e138) (fun c139 => ?_) (fun c139 => ?_)
                · rw [if_pos c139] at h
                  refine xe_iconst (n := 0) (by decide +kernel) rfl ?_
                  refine xW_lv rfl (l := []) (xsb_of trivial (show [5, 4, 3, 0, 1, 2].Nodup by decide)) ?_
                  exact k175_139   (show xin (0) by decide) h
                · rw [if_neg c139] at h
                  refine xe_iconst (n := 1) (by decide +kernel) rfl ?_
                  refine xe_goto (off := 4) (nx := 139) (by decide +kernel) (by decide) ?_
                  refine xW_lv rfl (l := []) (xsb_of trivial (show [5, 4, 3, 0, 1, 2].Nodup by decide)) ?_
                  exact k175_139   (show xin (1) by decide) h
              · rw [if_neg c134] at h
                by_cases c140 : (a2) = 4
                · rw [if_pos c140] at h
                  refine xe_ts (dd := 149) (lo := 0) (hi := 7) (offs := #[47, 55, 63, 79, 95, 103, 110, 121]) (len := 47) (off := 95) (t := 140) (by decide +kernel) ha2 (by rw [if_neg c117, c140]; rfl) (by decide) ?_
                  refine xe_alr (ins := .aload 5) (len := 2) (i := 5) (by decide +kernel) rfl rfl rfl rfl rfl ?_
                  obtain ⟨v141, e142, h⟩ := xbnd h
                  refine xs_gr (i := 274) (c := 3) (k := 10) (by decide +kernel) (by decide) (by decide +kernel) e142 rfl ?_
                  refine xe_ldn (ins := .iload_n 1) (len := 1) (by decide +kernel) rfl rfl rfl rfl ?_
                  obtain ⟨v143, e144, h⟩ := xbnd h
                  refine xs_iald rfl (by decide +kernel) ha1 e144 rfl ?_
                  cases h
                  exact xe_ret_i (ty := .int) (by decide +kernel) rfl rfl ⟨rfl, rfl, fun v hv => by cases hv; exact (xq_ai_in e144)⟩
                · rw [if_neg c140] at h
                  by_cases c145 : (a2) = 5
                  · rw [if_pos c145] at h
                    refine xe_ts (dd := 149) (lo := 0) (hi := 7) (offs := #[47, 55, 63, 79, 95, 103, 110, 121]) (len := 47) (off := 103) (t := 148) (by decide +kernel) ha2 (by rw [if_neg c117, c145]; rfl) (by decide) ?_
                    refine xe_alr (ins := .aload_n 3) (len := 1) (i := 3) (by decide +kernel) rfl rfl rfl rfl rfl ?_
                    obtain ⟨v146, e147, h⟩ := xbnd h
                    refine xs_gr (i := 277) (c := 1) (k := 5) (by decide +kernel) (by decide) (by decide +kernel) e147 rfl ?_
                    refine xe_ldn (ins := .iload_n 1) (len := 1) (by decide +kernel) rfl rfl rfl rfl ?_
                    obtain ⟨v148, e149, h⟩ := xbnd h
                    refine xs_iald rfl (by decide +kernel) ha1 e149 rfl ?_
                    cases h
                    exact xe_ret_i (ty := .int) (by decide +kernel) rfl rfl ⟨rfl, rfl, fun v hv => by cases hv; exact (xq_ai_in e149)⟩
                  · rw [if_neg c145] at h
                    by_cases c150 : (a2) = 6
                    · rw [if_pos c150] at h
                      refine xe_ts (dd := 149) (lo := 0) (hi := 7) (offs := #[47, 55, 63, 79, 95, 103, 110, 121]) (len := 47) (off := 110) (t := 155) (by decide +kernel) ha2 (by rw [if_neg c117, c150]; rfl) (by decide) ?_
                      refine xe_alr (ins := .aload 4) (len := 2) (i := 4) (by decide +kernel) rfl rfl rfl rfl rfl ?_
                      obtain ⟨v151, e152, h⟩ := xbnd h
                      refine xs_gr (i := 279) (c := 2) (k := 1) (by decide +kernel) (by decide) (by decide +kernel) e152 rfl ?_
                      refine xe_ldn (ins := .iload_n 1) (len := 1) (by decide +kernel) rfl rfl rfl rfl ?_
                      obtain ⟨v153, e154, h⟩ := xbnd h
                      refine xs_aald (by decide +kernel) ha1 e154 rfl ?_
                      obtain ⟨v155, e156, h⟩ := xbnd h
                      refine xs_gi (i := 283) (c := 5) (k := 1) (by decide +kernel) (by decide) (by decide +kernel) e156 rfl ?_
                      cases h
                      exact xe_ret_i (ty := .int) (by decide +kernel) rfl rfl ⟨rfl, rfl, fun v hv => by cases hv; exact (xq_gi_in e156)⟩
                    · rw [if_neg c150] at h
                      have c157 : (a2) = 7 := by omega
                      refine xe_ts (dd := 149) (lo := 0) (hi := 7) (offs := #[47, 55, 63, 79, 95, 103, 110, 121]) (len := 47) (off := 121) (t := 166) (by decide +kernel) ha2 (by rw [if_neg c117, c157]; rfl) (by decide) ?_
                      refine xe_alr (ins := .aload_n 0) (len := 1) (i := 0) (by decide +kernel) rfl rfl rfl rfl rfl ?_
                      obtain ⟨v158, e159, h⟩ := xbnd h
                      refine xs_gr (i := 244) (c := 11) (k := 13) (by decide +kernel) (by decide) (by decide +kernel) e159 rfl ?_
                      refine xe_ifnull (off := 22) (t := 192) (by decide +kernel) (by decide) rfl (fun c160 => ?_) (fun c160 => ?_)
                      · rw [if_pos c160] at h
                        refine xW_lv rfl (l := []) (xsb_of trivial (show [5, 4, 3, 0, 1, 2].Nodup by decide)) ?_
                        exact k175_192    h
                      · rw [if_neg c160] at h
                        refine xe_alr (ins := .aload_n 0) (len := 1) (i := 0) (by decide +kernel) rfl rfl rfl rfl rfl ?_
                        obtain ⟨v161, e162, h⟩ := xbnd h
                        refine xs_gr (i := 244) (c := 11) (k := 13) (by decide +kernel) (by decide) (by decide +kernel) e162 rfl ?_
                        refine xe_alr (ins := .aload_n 0) (len := 1) (i := 0) (by decide +kernel) rfl rfl rfl rfl rfl ?_
                        obtain ⟨v163, e164, h⟩ := xbnd h
                        refine xs_gr (i := 240) (c := 11) (k := 12) (by decide +kernel) (by decide) (by decide +kernel) e164 rfl ?_
                        refine xe_ldn (ins := .iload_n 1) (len := 1) (by decide +kernel) rfl rfl rfl rfl ?_
                        obtain ⟨_, e166, h⟩ := xbnd h
                        obtain ⟨R167, e165, h⟩ := xbnd h
                        refine xs_cv (i := 284) (j := 18) (ar := [xI (a1), xR_ (v163)]) (rest := []) (r2 := xr_18) (by decide +kernel) (by decide +kernel) (by decide +kernel) xr_18_e rfl (by decide) (by decide) e166 ?_
                        refine xc_i (k18 (d := d + 2)  ha1 e165) rfl (fun hi168 => ?_)
                        refine xe_ifle (off := 7) (t := 192) (by decide +kernel) (by decide) rfl hi168 (fun c169 => ?_) (fun c169 => ?_)
                        · rw [if_pos c169] at h
                          refine xW_lv rfl (l := []) (xsb_of trivial (show [5, 4, 3, 0, 1, 2].Nodup by decide)) ?_
                          exact k175_192    h
                        · rw [if_neg c169] at h
                          refine xe_iconst (n := 1) (by decide +kernel) rfl ?_
                          refine xe_goto (off := 4) (nx := 193) (by decide +kernel) (by decide) ?_
                          refine xW_lv rfl (l := []) (xsb_of trivial (show [5, 4, 3, 0, 1, 2].Nodup by decide)) ?_
                          exact k175_193   (show xin (1) by decide) h
    · rw [if_neg c116] at h
      refine xW_lv rfl (l := []) (xsb_of trivial (show [5, 4, 3, 0, 1, 2].Nodup by decide)) ?_
      exact k175_36    h
-- ChangeHouse.edits
def xr_177 : xj_mR := (11, yX11_edits, cX11_edits, 4, (Option.some Jvm.ClassFile.FieldType.int), 0, false, (7, 138), (1, 1))
set_option maxRecDepth 20000 in
theorem xr_177_e : xj_row 177 = some xr_177 := rfl
def f177_51  (r19 : Nat → Int → Nat → Int → xj_M → Option (Int × xj_M)) (f : Nat) (x0 : Nat) (x1 : Int) (x2 : Nat) (x3 : Int) (M : xj_M) : Option (Int × xj_M) := r19 (x0) (x1) (x2) (xwr ((x3) + (1))) M
theorem k177_51 {d f : Nat}  {r19 : Nat → Int → Nat → Int → xj_M → Option (Int × xj_M)}  (hr19 : ∀ {x0 : Nat} {x1 : Int} {x2 : Nat} {x3 : Int} {M : xj_M} {R : Int × xj_M}, xin x1 → xin x3 → r19 x0 x1 x2 x3 M = some R → xW (d + 3) (none, d + 3, none) xr_177 (19, [(0, xR_ x0), (1, xI x1), (2, xR_ x2), (3, xI x3)], [], M) (xQi R)) {x0 : Nat} {x1 : Int} {x2 : Nat} {x3 : Int} {M : xj_M} {R : Int × xj_M} (hx1 : xin x1) (hx3 : xin x3) (h : f177_51  r19 f x0 x1 x2 x3 M = some R) : xW (d + 3) (none, d + 3, none) xr_177 (51, [(0, xR_ x0), (1, xI x1), (2, xR_ x2), (3, xI x3)], [], M) (xQi R) := by
  unfold f177_51 at h
  refine xe_iincr (i := 3) (n := 1) (by decide +kernel) (by decide) rfl (xk_k (show ¬ (0 : Nat) = 3 by decide) (Or.inl (show ¬ (0 + 1 : Nat) = 3 by decide)) (xk_k (show ¬ (1 : Nat) = 3 by decide) (Or.inl (show ¬ (1 + 1 : Nat) = 3 by decide)) (xk_k (show ¬ (2 : Nat) = 3 by decide) (Or.inr (xR_cat _)) (xk_d rfl xk_n)))) rfl ?_
  refine xe_goto (off := -35) (nx := 19) (by decide +kernel) (by decide) ?_
  refine xW_lv rfl (l := [(0, xR_ (x0)), (1, xI (x1)), (2, xR_ (x2)), (3, xI (xwr ((x3) + (1))))]) (xsb_of ⟨rfl, rfl, rfl, rfl, trivial⟩ (show [3, 0, 1, 2].Nodup by decide)) ?_
  exact hr19 hx1 (xin_wr _) h
def f177_57   (f : Nat) (x1 : Int) (M : xj_M) : Option (Int × xj_M) := (some (x1, M))
theorem k177_57 {d f : Nat}     {x1 : Int} {M : xj_M} {R : Int × xj_M} (hx1 : xin x1) (h : f177_57   f x1 M = some R) : xW (d + 3) (none, d + 3, none) xr_177 (57, [(1, xI x1)], [], M) (xQi R) := by
  unfold f177_57 at h
  refine xe_ldn (ins := .iload_n 1) (len := 1) (by decide +kernel) rfl rfl rfl rfl ?_
  cases h
  exact xe_ret_i (ty := .int) (by decide +kernel) rfl rfl ⟨rfl, rfl, hx1⟩
def f177_19b  (r19 : Nat → Int → Nat → Int → xj_M → Option (Int × xj_M)) (f : Nat) (x0 : Nat) (x1 : Int) (x2 : Nat) (x3 : Int) (M : xj_M) : Option (Int × xj_M) := ((xq_gi 3 1 (x2) M).bind fun v101 => (if (v101) ≤ (x3) then f177_57   f (x1) M else ((xq_gr 3 6 (x2) M).bind fun v104 => ((xq_ab (v104) (x3) M).bind fun v106 => (if (v106) = 0 then f177_51  r19 f (x0) (x1) (x2) (x3) M else ((xq_gr 11 13 (x0) M).bind fun v109 => ((xq_gr 11 12 (x0) M).bind fun v111 => ((xq_is 2 (v109) M).bind fun _ => ((f18  f (v109) (v111) (x3) M).bind fun R115 => f177_51  r19 f (x0) (xwr ((x1) + (R115.1))) (x2) (x3) R115.2)))))))))
theorem k177_19b {d f : Nat}  {r19 : Nat → Int → Nat → Int → xj_M → Option (Int × xj_M)}  (hr19 : ∀ {x0 : Nat} {x1 : Int} {x2 : Nat} {x3 : Int} {M : xj_M} {R : Int × xj_M}, xin x1 → xin x3 → r19 x0 x1 x2 x3 M = some R → xW (d + 3) (none, d + 3, none) xr_177 (19, [(0, xR_ x0), (1, xI x1), (2, xR_ x2), (3, xI x3)], [], M) (xQi R)) {x0 : Nat} {x1 : Int} {x2 : Nat} {x3 : Int} {M : xj_M} {R : Int × xj_M} (hx1 : xin x1) (hx3 : xin x3) (h : f177_19b  r19 f x0 x1 x2 x3 M = some R) : xW (d + 3) (none, d + 3, none) xr_177 (19, [(0, xR_ x0), (1, xI x1), (2, xR_ x2), (3, xI x3)], [], M) (xQi R) := by
  unfold f177_19b at h
  refine xe_ldn (ins := .iload_n 3) (len := 1) (by decide +kernel) rfl rfl rfl rfl ?_
  refine xe_alr (ins := .aload_n 2) (len := 1) (i := 2) (by decide +kernel) rfl rfl rfl rfl rfl ?_
  obtain ⟨v101, e102, h⟩ := xbnd h
  refine xs_gi (i := 253) (c := 3) (k := 1) (by decide +kernel) (by decide) (by decide +kernel) e102 rfl ?_
  refine xe_icmpge (off := 33) (t := 57) (by decide +kernel) (by decide) rfl hx3 (xq_gi_in e102) (fun c103 => ?_) (fun c103 => ?_)
  · rw [if_pos c103] at h
    refine xW_lv rfl (l := [(1, xI (x1))]) (xsb_of ⟨rfl, trivial⟩ (show [0, 1, 2, 3].Nodup by decide)) ?_
    exact k177_57   hx1 h
  · rw [if_neg c103] at h
    refine xe_alr (ins := .aload_n 2) (len := 1) (i := 2) (by decide +kernel) rfl rfl rfl rfl rfl ?_
    obtain ⟨v104, e105, h⟩ := xbnd h
    refine xs_gr (i := 271) (c := 3) (k := 6) (by decide +kernel) (by decide) (by decide +kernel) e105 rfl ?_
    refine xe_ldn (ins := .iload_n 3) (len := 1) (by decide +kernel) rfl rfl rfl rfl ?_
    obtain ⟨v106, e107, h⟩ := xbnd h
    refine xs_bald (by decide +kernel) hx3 e107 rfl ?_
    refine xe_ifeq (off := 18) (t := 51) (by decide +kernel) (by decide) rfl (xq_ab_in e107) (fun c108 => ?_) (fun c108 => ?_)
    · rw [if_pos c108] at h
      refine xW_lv rfl (l := [(0, xR_ (x0)), (1, xI (x1)), (2, xR_ (x2)), (3, xI (x3))]) (xsb_of ⟨rfl, rfl, rfl, rfl, trivial⟩ (show [0, 1, 2, 3].Nodup by decide)) ?_
      exact k177_51  hr19 hx1 hx3 h
    · rw [if_neg c108] at h
      refine xe_ldn (ins := .iload_n 1) (len := 1) (by decide +kernel) rfl rfl rfl rfl ?_
      refine xe_alr (ins := .aload_n 0) (len := 1) (i := 0) (by decide +kernel) rfl rfl rfl rfl rfl ?_
      obtain ⟨v109, e110, h⟩ := xbnd h
      refine xs_gr (i := 244) (c := 11) (k := 13) (by decide +kernel) (by decide) (by decide +kernel) e110 rfl ?_
      refine xe_alr (ins := .aload_n 0) (len := 1) (i := 0) (by decide +kernel) rfl rfl rfl rfl rfl ?_
      obtain ⟨v111, e112, h⟩ := xbnd h
      refine xs_gr (i := 240) (c := 11) (k := 12) (by decide +kernel) (by decide) (by decide +kernel) e112 rfl ?_
      refine xe_ldn (ins := .iload_n 3) (len := 1) (by decide +kernel) rfl rfl rfl rfl ?_
      obtain ⟨_, e114, h⟩ := xbnd h
      obtain ⟨R115, e113, h⟩ := xbnd h
      refine xs_cv (i := 284) (j := 18) (ar := [xI (x3), xR_ (v111)]) (rest := [xI (x1)]) (r2 := xr_18) (by decide +kernel) (by decide +kernel) (by decide +kernel) xr_18_e rfl (by decide) (by simp only [List.map_cons, List.map_nil, List.sum_cons, List.sum_nil, xR_cat, xI_cat, xZ_cat]; decide) e114 ?_
      refine xc_i (k18 (d := d + 0)  hx3 e113) rfl (fun hi116 => ?_)
      refine xe_iadd (by decide +kernel) rfl ?_
      refine xe_isr (ins := .istore_n 1) (len := 1) (i := 1) (by decide +kernel) rfl rfl rfl (by decide) (xk_k (show ¬ (0 : Nat) = 1 by decide) (Or.inr (xR_cat _)) (xk_d rfl (xk_k (show ¬ (2 : Nat) = 1 by decide) (Or.inl (show ¬ (2 + 1 : Nat) = 1 by decide)) (xk_k (show ¬ (3 : Nat) = 1 by decide) (Or.inl (show ¬ (3 + 1 : Nat) = 1 by decide)) xk_n)))) rfl ?_
      refine xW_lv rfl (l := [(0, xR_ (x0)), (1, xI (xwr ((x1) + (R115.1)))), (2, xR_ (x2)), (3, xI (x3))]) (xsb_of ⟨rfl, rfl, rfl, rfl, trivial⟩ (show [1, 0, 2, 3].Nodup by decide)) ?_
      exact k177_51  hr19 (xin_wr _) hx3 h
def f177_19   (f : Nat) : Nat → Nat → Int → Nat → Int → xj_M → Option (Int × xj_M)
  | 0, _, _, _, _, _ => none
  | n + 1, x0, x1, x2, x3, M => f177_19b   (f177_19   f n) f x0 x1 x2 x3 M
theorem k177_19 {d f : Nat}     : ∀ {n : Nat} {x0 : Nat} {x1 : Int} {x2 : Nat} {x3 : Int} {M : xj_M} {R : Int × xj_M}, xin x1 → xin x3 → f177_19   f n x0 x1 x2 x3 M = some R → xW (d + 3) (none, d + 3, none) xr_177 (19, [(0, xR_ x0), (1, xI x1), (2, xR_ x2), (3, xI x3)], [], M) (xQi R) := by
  intro n
  induction n with
  | zero => intros; rename_i h; cases h
  | succ n ih => intros; rename_i h; exact k177_19b   ih (by assumption) (by assumption) h
def f177  (f : Nat) (a0 : Nat) (M : xj_M) : Option (Int × xj_M) := ((xq_gr 11 13 (a0) M).bind fun v117 => (if (v117) = 0 then f177_57   f (0) M else ((xq_gr 11 13 (a0) M).bind fun v120 => ((xq_gr 2 0 (v120) M).bind fun v122 => f177_19   f f (a0) (0) (v122) (0) M))))
theorem k177 {d f : Nat}   {a0 : Nat} {M : xj_M} {R : Int × xj_M}  (h : f177  f a0 M = some R) : xT (d + 4) 177 [xR_ a0] M (xQi R) := by
  refine xT_m xr_177_e (X := (none, d + 3, none)) rfl (xa_1 (xR_cat _) xa_n) (by decide) ?_
  unfold f177 at h
  refine xe_iconst (n := 0) (by decide +kernel) rfl ?_
  refine xe_isr (ins := .istore_n 1) (len := 1) (i := 1) (by decide +kernel) rfl rfl rfl (by decide) (xk_k (show ¬ (0 : Nat) = 1 by decide) (Or.inr (xR_cat _)) xk_n) rfl ?_
  refine xe_alr (ins := .aload_n 0) (len := 1) (i := 0) (by decide +kernel) rfl rfl rfl rfl rfl ?_
  obtain ⟨v117, e118, h⟩ := xbnd h
  refine xs_gr (i := 244) (c := 11) (k := 13) (by decide +kernel) (by decide) (by decide +kernel) e118 rfl ?_
  refine xe_ifnull (off := 51) (t := 57) (by decide +kernel) (by decide) rfl (fun c119 => ?_) (fun c119 => ?_)
  · rw [if_pos c119] at h
    refine xW_lv rfl (l := [(1, xI (0))]) (xsb_of ⟨rfl, trivial⟩ (show [1, 0].Nodup by decide)) ?_
    exact k177_57   (show xin (0) by decide) h
  · rw [if_neg c119] at h
    refine xe_alr (ins := .aload_n 0) (len := 1) (i := 0) (by decide +kernel) rfl rfl rfl rfl rfl ?_
    obtain ⟨v120, e121, h⟩ := xbnd h
    refine xs_gr (i := 244) (c := 11) (k := 13) (by decide +kernel) (by decide) (by decide +kernel) e121 rfl ?_
    obtain ⟨v122, e123, h⟩ := xbnd h
    refine xs_gr (i := 149) (c := 2) (k := 0) (by decide +kernel) (by decide) (by decide +kernel) e123 rfl ?_
    refine xe_asr (ins := .astore_n 2) (len := 1) (i := 2) (by decide +kernel) rfl rfl rfl (by decide) (xk_k (show ¬ (1 : Nat) = 2 by decide) (Or.inr (xI_cat _)) (xk_k (show ¬ (0 : Nat) = 2 by decide) (Or.inl (show ¬ (0 + 1 : Nat) = 2 by decide)) xk_n)) rfl ?_
    refine xe_iconst (n := 0) (by decide +kernel) rfl ?_
    refine xe_isr (ins := .istore_n 3) (len := 1) (i := 3) (by decide +kernel) rfl rfl rfl (by decide) (xk_k (show ¬ (2 : Nat) = 3 by decide) (Or.inr (xR_cat _)) (xk_k (show ¬ (1 : Nat) = 3 by decide) (Or.inl (show ¬ (1 + 1 : Nat) = 3 by decide)) (xk_k (show ¬ (0 : Nat) = 3 by decide) (Or.inl (show ¬ (0 + 1 : Nat) = 3 by decide)) xk_n))) rfl ?_
    refine xW_lv rfl (l := [(0, xR_ (a0)), (1, xI (0)), (2, xR_ (v122)), (3, xI (0))]) (xsb_of ⟨rfl, rfl, rfl, rfl, trivial⟩ (show [3, 2, 1, 0].Nodup by decide)) ?_
    exact k177_19   (show xin (0) by decide) (show xin (0) by decide) h
-- ChangeHouse.edit
def xr_178 : xj_mR := (11, yX11_edit, cX11_edit, 9, (Option.some Jvm.ClassFile.FieldType.long), 2, false, (8, 30), (1, 1))
set_option maxRecDepth 20000 in
theorem xr_178_e : xj_row 178 = some xr_178 := rfl
def f178_124   (f : Nat)  (M : xj_M) : Option ((Nat ⊕ Int) × xj_M) := (some (.inl 1, xj_new M (.inl ()) 6))
theorem k178_124 {d f : Nat}      {M : xj_M} {R : (Nat ⊕ Int) × xj_M}  (h : f178_124   f  M = some R) : xW (d + 5) (none, d + 5, none) xr_178 (124, [], [], M) (xQtl R) := by
  unfold f178_124 at h
  cases h
  exact xe_throw (i := 261) rfl (show 5 ≤ d + 5 by omega) (by decide +kernel) (by decide +kernel) (by decide +kernel) ⟨rfl, rfl, fun v hv => by cases hv⟩
def f178_237   (f : Nat) (y0 : Int) (M : xj_M) : Option ((Nat ⊕ Int) × xj_M) := (some (.inr (y0), M))
theorem k178_237 {d f : Nat}     {y0 : Int} {M : xj_M} {R : (Nat ⊕ Int) × xj_M} (hy0 : xiN y0) (h : f178_237   f y0 M = some R) : xW (d + 5) (none, d + 5, none) xr_178 (237, [], [xZ y0], M) (xQtl R) := by
  unfold f178_237 at h
  cases h
  exact xe_ret_l (by decide +kernel) rfl ⟨rfl, rfl, fun v hv => by cases hv; exact hy0⟩
def f178_90   (f : Nat) (x0 : Nat) (x1 : Int) (x2 : Int) (x3 : Int) (x4 : Int) (x5 : Int) (M : xj_M) : Option ((Nat ⊕ Int) × xj_M) := (if (x1) < 0 then f178_124   f  M else (if (x2) < 0 then f178_124   f  M else (if (x5) ≤ (x4) then f178_124   f  M else ((xq_gr 11 13 (x0) M).bind fun v104 => ((xq_gr 2 0 (v104) M).bind fun v106 => ((xq_gr 3 3 (v106) M).bind fun v108 => ((xq_ai 3 (v108) (x4) M).bind fun v110 => (if (x2) < (xwr ((2) + (v110))) then (if ¬ (x2) = 0 then ((xq_gr 11 13 (x0) M).bind fun v114 => ((xq_gr 11 12 (x0) M).bind fun v116 => ((xq_is 2 (v114) M).bind fun _ => ((f17  f (v114) (v116) (x4) M).bind fun R120 => ((xq_gr 11 13 (x0) R120.2).bind fun v122 => ((xq_gr 2 1 (v122) R120.2).bind fun v124 => ((xq_ar (v124) (x4) R120.2).bind fun v126 => ((xq_is 5 (v126) R120.2).bind fun _ => ((f84  f (v126) (R120.1) (x3) R120.2).bind fun R130 => (if ¬ (R130.1) = (-1) then (if ¬ (x2) = (1) then (if ¬ (xand (R130.1) (1)) = (1) then ((xq_is 5 (R120.1) R130.2).bind fun _ => ((f70  f (R120.1) (xshr (R130.1) (1)) (xwr ((x2) - (2))) R130.2).bind fun R137 => f178_237   f (R137.1) R137.2)) else ((xq_is 5 (v126) R130.2).bind fun _ => ((f70  f (v126) (xshr (R130.1) (1)) (xwr ((x2) - (2))) R130.2).bind fun R141 => f178_237   f (R141.1) R141.2))) else (some (.inr (xand (R130.1) (1)), R130.2))) else (some (.inl 1, xj_new R130.2 (.inl ()) 6)))))))))))) else (some (.inr (x4), M))) else f178_124   f  M))))))))
theorem k178_90 {d f : Nat}     {x0 : Nat} {x1 : Int} {x2 : Int} {x3 : Int} {x4 : Int} {x5 : Int} {M : xj_M} {R : (Nat ⊕ Int) × xj_M} (hx1 : xin x1) (hx2 : xin x2) (hx3 : xin x3) (hx4 : xin x4) (hx5 : xin x5) (h : f178_90   f x0 x1 x2 x3 x4 x5 M = some R) : xW (d + 5) (none, d + 5, none) xr_178 (90, [(0, xR_ x0), (1, xI x1), (2, xI x2), (3, xI x3), (4, xI x4), (5, xI x5)], [], M) (xQtl R) := by
  unfold f178_90 at h
  refine xe_ldn (ins := .iload_n 1) (len := 1) (by decide +kernel) rfl rfl rfl rfl ?_
  refine xe_iflt (off := 33) (t := 124) (by decide +kernel) (by decide) rfl hx1 (fun c101 => ?_) (fun c101 => ?_)
  · rw [if_pos c101] at h
    refine xW_lv rfl (l := []) (xsb_of trivial (show [0, 1, 2, 3, 4, 5].Nodup by decide)) ?_
    exact k178_124    h
  · rw [if_neg c101] at h
    refine xe_ldn (ins := .iload_n 2) (len := 1) (by decide +kernel) rfl rfl rfl rfl ?_
    refine xe_iflt (off := 29) (t := 124) (by decide +kernel) (by decide) rfl hx2 (fun c102 => ?_) (fun c102 => ?_)
    · rw [if_pos c102] at h
      refine xW_lv rfl (l := []) (xsb_of trivial (show [0, 1, 2, 3, 4, 5].Nodup by decide)) ?_
      exact k178_124    h
    · rw [if_neg c102] at h
      refine xe_ldn (ins := .iload 4) (len := 2) (by decide +kernel) rfl rfl rfl rfl ?_
      refine xe_ldn (ins := .iload 5) (len := 2) (by decide +kernel) rfl rfl rfl rfl ?_
      refine xe_icmpge (off := 22) (t := 124) (by decide +kernel) (by decide) rfl hx4 hx5 (fun c103 => ?_) (fun c103 => ?_)
      · rw [if_pos c103] at h
        refine xW_lv rfl (l := []) (xsb_of trivial (show [0, 1, 2, 3, 4, 5].Nodup by decide)) ?_
        exact k178_124    h
      · rw [if_neg c103] at h
        refine xe_ldn (ins := .iload_n 2) (len := 1) (by decide +kernel) rfl rfl rfl rfl ?_
        refine xe_iconst (n := 2) (by decide +kernel) rfl ?_
        refine xe_alr (ins := .aload_n 0) (len := 1) (i := 0) (by decide +kernel) rfl rfl rfl rfl rfl ?_
        obtain ⟨v104, e105, h⟩ := xbnd h
        refine xs_gr (i := 244) (c := 11) (k := 13) (by decide +kernel) (by decide) (by decide +kernel) e105 rfl ?_
        obtain ⟨v106, e107, h⟩ := xbnd h
        refine xs_gr (i := 149) (c := 2) (k := 0) (by decide +kernel) (by decide) (by decide +kernel) e107 rfl ?_
        obtain ⟨v108, e109, h⟩ := xbnd h
        refine xs_gr (i := 264) (c := 3) (k := 3) (by decide +kernel) (by decide) (by decide +kernel) e109 rfl ?_
        refine xe_ldn (ins := .iload 4) (len := 2) (by decide +kernel) rfl rfl rfl rfl ?_
        obtain ⟨v110, e111, h⟩ := xbnd h
        refine xs_iald rfl (by decide +kernel) hx4 e111 rfl ?_
        refine xe_iadd (by decide +kernel) rfl ?_
        refine xe_icmplt (off := 11) (t := 132) (by decide +kernel) (by decide) rfl hx2 (xin_wr _) (fun c112 => ?_) (fun c112 => ?_)
        · rw [if_pos c112] at h
          refine xe_ldn (ins := .iload_n 2) (len := 1) (by decide +kernel) rfl rfl rfl rfl ?_
          refine xe_ifne (off := 7) (t := 140) (by decide +kernel) (by decide) rfl hx2 (fun c113 => ?_) (fun c113 => ?_)
          · rw [if_pos c113] at h
            refine xe_alr (ins := .aload_n 0) (len := 1) (i := 0) (by decide +kernel) rfl rfl rfl rfl rfl ?_
            obtain ⟨v114, e115, h⟩ := xbnd h
            refine xs_gr (i := 244) (c := 11) (k := 13) (by decide +kernel) (by decide) (by decide +kernel) e115 rfl ?_
            refine xe_alr (ins := .aload_n 0) (len := 1) (i := 0) (by decide +kernel) rfl rfl rfl rfl rfl ?_
            obtain ⟨v116, e117, h⟩ := xbnd h
            refine xs_gr (i := 240) (c := 11) (k := 12) (by decide +kernel) (by decide) (by decide +kernel) e117 rfl ?_
            refine xe_ldn (ins := .iload 4) (len := 2) (by decide +kernel) rfl rfl rfl rfl ?_
            obtain ⟨_, e119, h⟩ := xbnd h
            obtain ⟨R120, e118, h⟩ := xbnd h
            refine xs_cv (i := 296) (j := 17) (ar := [xI (x4), xR_ (v116)]) (rest := []) (r2 := xr_17) (by decide +kernel) (by decide +kernel) (by decide +kernel) xr_17_e rfl (by decide) (by decide) e119 ?_
            refine xc_r (k17 (d := d + 2)  hx4 e118) rfl ?_
            refine xe_asr (ins := .astore 6) (len := 2) (i := 6) (by decide +kernel) rfl rfl rfl (by decide) (xk_k (show ¬ (0 : Nat) = 6 by decide) (Or.inl (show ¬ (0 + 1 : Nat) = 6 by decide)) (xk_k (show ¬ (1 : Nat) = 6 by decide) (Or.inl (show ¬ (1 + 1 : Nat) = 6 by decide)) (xk_k (show ¬ (2 : Nat) = 6 by decide) (Or.inl (show ¬ (2 + 1 : Nat) = 6 by decide)) (xk_k (show ¬ (3 : Nat) = 6 by decide) (Or.inl (show ¬ (3 + 1 : Nat) = 6 by decide)) (xk_k (show ¬ (4 : Nat) = 6 by decide) (Or.inl (show ¬ (4 + 1 : Nat) = 6 by decide)) (xk_k (show ¬ (5 : Nat) = 6 by decide) (Or.inr (xI_cat _)) xk_n)))))) rfl ?_
            refine xe_alr (ins := .aload_n 0) (len := 1) (i := 0) (by decide +kernel) rfl rfl rfl rfl rfl ?_
            obtain ⟨v122, e123, h⟩ := xbnd h
            refine xs_gr (i := 244) (c := 11) (k := 13) (by decide +kernel) (by decide) (by decide +kernel) e123 rfl ?_
            obtain ⟨v124, e125, h⟩ := xbnd h
            refine xs_gr (i := 279) (c := 2) (k := 1) (by decide +kernel) (by decide) (by decide +kernel) e125 rfl ?_
            refine xe_ldn (ins := .iload 4) (len := 2) (by decide +kernel) rfl rfl rfl rfl ?_
            obtain ⟨v126, e127, h⟩ := xbnd h
            refine xs_aald (by decide +kernel) hx4 e127 rfl ?_
            refine xe_asr (ins := .astore 7) (len := 2) (i := 7) (by decide +kernel) rfl rfl rfl (by decide) (xk_k (show ¬ (6 : Nat) = 7 by decide) (Or.inr (xR_cat _)) (xk_k (show ¬ (0 : Nat) = 7 by decide) (Or.inl (show ¬ (0 + 1 : Nat) = 7 by decide)) (xk_k (show ¬ (1 : Nat) = 7 by decide) (Or.inl (show ¬ (1 + 1 : Nat) = 7 by decide)) (xk_k (show ¬ (2 : Nat) = 7 by decide) (Or.inl (show ¬ (2 + 1 : Nat) = 7 by decide)) (xk_k (show ¬ (3 : Nat) = 7 by decide) (Or.inl (show ¬ (3 + 1 : Nat) = 7 by decide)) (xk_k (show ¬ (4 : Nat) = 7 by decide) (Or.inl (show ¬ (4 + 1 : Nat) = 7 by decide)) (xk_k (show ¬ (5 : Nat) = 7 by decide) (Or.inl (show ¬ (5 + 1 : Nat) = 7 by decide)) xk_n))))))) rfl ?_
            refine xe_alr (ins := .aload 7) (len := 2) (i := 7) (by decide +kernel) rfl rfl rfl rfl rfl ?_
            refine xe_alr (ins := .aload 6) (len := 2) (i := 6) (by decide +kernel) rfl rfl rfl rfl rfl ?_
            refine xe_ldn (ins := .iload_n 3) (len := 1) (by decide +kernel) rfl rfl rfl rfl ?_
            obtain ⟨_, e129, h⟩ := xbnd h
            obtain ⟨R130, e128, h⟩ := xbnd h
            refine xs_cv (i := 300) (j := 84) (ar := [xI (x3), xR_ (R120.1)]) (rest := []) (r2 := xr_84) (by decide +kernel) (by decide +kernel) (by decide +kernel) xr_84_e rfl (by decide) (by decide) e129 ?_
            refine xc_i (k84 (d := d + 3)  hx3 e128) rfl (fun hi131 => ?_)
            refine xe_isr (ins := .istore 8) (len := 2) (i := 8) (by decide +kernel) rfl rfl rfl (by decide) (xk_k (show ¬ (7 : Nat) = 8 by decide) (Or.inr (xR_cat _)) (xk_k (show ¬ (6 : Nat) = 8 by decide) (Or.inl (show ¬ (6 + 1 : Nat) = 8 by decide)) (xk_k (show ¬ (0 : Nat) = 8 by decide) (Or.inl (show ¬ (0 + 1 : Nat) = 8 by decide)) (xk_k (show ¬ (1 : Nat) = 8 by decide) (Or.inl (show ¬ (1 + 1 : Nat) = 8 by decide)) (xk_k (show ¬ (2 : Nat) = 8 by decide) (Or.inl (show ¬ (2 + 1 : Nat) = 8 by decide)) (xk_k (show ¬ (3 : Nat) = 8 by decide) (Or.inl (show ¬ (3 + 1 : Nat) = 8 by decide)) (xk_k (show ¬ (4 : Nat) = 8 by decide) (Or.inl (show ¬ (4 + 1 : Nat) = 8 by decide)) (xk_k (show ¬ (5 : Nat) = 8 by decide) (Or.inl (show ¬ (5 + 1 : Nat) = 8 by decide)) xk_n)))))))) rfl ?_
            refine xe_ldn (ins := .iload 8) (len := 2) (by decide +kernel) rfl rfl rfl rfl ?_
            refine xe_iconst (n := -1) (by decide +kernel) rfl ?_
            refine xe_icmpne (off := 11) (t := 191) (by decide +kernel) (by decide) rfl hi131 (show xin (-1) by decide) (fun c132 => ?_) (fun c132 => ?_)
            · rw [if_pos c132] at h
              refine xe_ldn (ins := .iload_n 2) (len := 1) (by decide +kernel) rfl rfl rfl rfl ?_
              refine xe_iconst (n := 1) (by decide +kernel) rfl ?_
              refine xe_icmpne (off := 9) (t := 202) (by decide +kernel) (by decide) rfl hx2 (show xin (1) by decide) (fun c133 => ?_) (fun c133 => ?_)
              · rw [if_pos c133] at h
                refine xe_ldn (ins := .iload 8) (len := 2) (by decide +kernel) rfl rfl rfl rfl ?_
                refine xe_iconst (n := 1) (by decide +kernel) rfl ?_
                refine xe_iand (by decide +kernel) rfl ?_
                refine xe_iconst (n := 1) (by decide +kernel) rfl ?_
                refine xe_icmpne (off := 18) (t := 225) (by decide +kernel) (by decide) rfl (xin_of _) (show xin (1) by decide) (fun c134 => ?_) (fun c134 => ?_)
                · rw [if_pos c134] at h
                  refine xe_alr (ins := .aload 6) (len := 2) (i := 6) (by decide +kernel) rfl rfl rfl rfl rfl ?_
                  refine xe_ldn (ins := .iload 8) (len := 2) (by decide +kernel) rfl rfl rfl rfl ?_
                  refine xe_iconst (n := 1) (by decide +kernel) rfl ?_
                  refine xe_ishr (by decide +kernel) rfl ?_
                  refine xe_ldn (ins := .iload_n 2) (len := 1) (by decide +kernel) rfl rfl rfl rfl ?_
                  refine xe_iconst (n := 2) (by decide +kernel) rfl ?_
                  refine xe_isub (by decide +kernel) rfl ?_
                  obtain ⟨_, e136, h⟩ := xbnd h
                  obtain ⟨R137, e135, h⟩ := xbnd h
                  refine xs_cv (i := 292) (j := 70) (ar := [xI (xwr ((x2) - (2))), xI (xshr (R130.1) (1))]) (rest := []) (r2 := xr_70) (by decide +kernel) (by decide +kernel) (by decide +kernel) xr_70_e rfl (by decide) (by decide) e136 ?_
                  refine xc_l (k70 (d := d + 4)  (xin_of _) (xin_wr _) e135) rfl (fun hi138 => ?_)
                  refine xW_lv rfl (l := []) (xsb_of trivial (show [8, 7, 6, 0, 1, 2, 3, 4, 5].Nodup by decide)) ?_
                  exact k178_237   hi138 h
                · rw [if_neg c134] at h
                  refine xe_alr (ins := .aload 7) (len := 2) (i := 7) (by decide +kernel) rfl rfl rfl rfl rfl ?_
                  refine xe_ldn (ins := .iload 8) (len := 2) (by decide +kernel) rfl rfl rfl rfl ?_
                  refine xe_iconst (n := 1) (by decide +kernel) rfl ?_
                  refine xe_ishr (by decide +kernel) rfl ?_
                  refine xe_ldn (ins := .iload_n 2) (len := 1) (by decide +kernel) rfl rfl rfl rfl ?_
                  refine xe_iconst (n := 2) (by decide +kernel) rfl ?_
                  refine xe_isub (by decide +kernel) rfl ?_
                  obtain ⟨_, e140, h⟩ := xbnd h
                  obtain ⟨R141, e139, h⟩ := xbnd h
                  refine xs_cv (i := 292) (j := 70) (ar := [xI (xwr ((x2) - (2))), xI (xshr (R130.1) (1))]) (rest := []) (r2 := xr_70) (by decide +kernel) (by decide +kernel) (by decide +kernel) xr_70_e rfl (by decide) (by decide) e140 ?_
                  refine xc_l (k70 (d := d + 4)  (xin_of _) (xin_wr _) e139) rfl (fun hi142 => ?_)
                  refine xe_goto (off := 15) (nx := 237) (by decide +kernel) (by decide) ?_
                  refine xW_lv rfl (l := []) (xsb_of trivial (show [8, 7, 6, 0, 1, 2, 3, 4, 5].Nodup by decide)) ?_
                  exact k178_237   hi142 h
              · rw [if_neg c133] at h
                refine xe_ldn (ins := .iload 8) (len := 2) (by decide +kernel) rfl rfl rfl rfl ?_
                refine xe_iconst (n := 1) (by decide +kernel) rfl ?_
                refine xe_iand (by decide +kernel) rfl ?_
                refine xe_i2l (by decide +kernel) rfl (xin_of _) ?_
                cases h
                exact xe_ret_l (by decide +kernel) rfl ⟨rfl, rfl, fun v hv => by cases hv; exact (xin_N (xin_of _))⟩
            · rw [if_neg c132] at h
              cases h
              exact xe_throw (i := 261) rfl (show 5 ≤ d + 5 by omega) (by decide +kernel) (by decide +kernel) (by decide +kernel) ⟨rfl, rfl, fun v hv => by cases hv⟩
          · rw [if_neg c113] at h
            refine xe_ldn (ins := .iload 4) (len := 2) (by decide +kernel) rfl rfl rfl rfl ?_
            refine xe_i2l (by decide +kernel) rfl hx4 ?_
            cases h
            exact xe_ret_l (by decide +kernel) rfl ⟨rfl, rfl, fun v hv => by cases hv; exact (xin_N hx4)⟩
        · rw [if_neg c112] at h
          refine xW_lv rfl (l := []) (xsb_of trivial (show [0, 1, 2, 3, 4, 5].Nodup by decide)) ?_
          exact k178_124    h
def f178_68  (r28 : Nat → Int → Int → Int → Int → Int → xj_M → Option ((Nat ⊕ Int) × xj_M)) (f : Nat) (x0 : Nat) (x1 : Int) (x2 : Int) (x3 : Int) (x4 : Int) (x5 : Int) (y0 : Int) (M : xj_M) : Option ((Nat ⊕ Int) × xj_M) := (if (y0) ≤ (x3) then r28 (x0) (x1) (x2) (xwr ((x3) - (y0))) (xwr ((x4) + (1))) (x5) M else f178_90   f (x0) (x1) (x2) (x3) (x4) (x5) M)
theorem k178_68 {d f : Nat}  {r28 : Nat → Int → Int → Int → Int → Int → xj_M → Option ((Nat ⊕ Int) × xj_M)}  (hr28 : ∀ {x0 : Nat} {x1 : Int} {x2 : Int} {x3 : Int} {x4 : Int} {x5 : Int} {M : xj_M} {R : (Nat ⊕ Int) × xj_M}, xin x1 → xin x2 → xin x3 → xin x4 → xin x5 → r28 x0 x1 x2 x3 x4 x5 M = some R → xW (d + 5) (none, d + 5, none) xr_178 (28, [(0, xR_ x0), (1, xI x1), (2, xI x2), (3, xI x3), (4, xI x4), (5, xI x5)], [], M) (xQtl R)) {x0 : Nat} {x1 : Int} {x2 : Int} {x3 : Int} {x4 : Int} {x5 : Int} {y0 : Int} {M : xj_M} {R : (Nat ⊕ Int) × xj_M} (hx1 : xin x1) (hx2 : xin x2) (hx3 : xin x3) (hx4 : xin x4) (hx5 : xin x5) (hy0 : xin y0) (h : f178_68  r28 f x0 x1 x2 x3 x4 x5 y0 M = some R) : xW (d + 5) (none, d + 5, none) xr_178 (68, [(0, xR_ x0), (1, xI x1), (2, xI x2), (3, xI x3), (4, xI x4), (5, xI x5)], [xI y0], M) (xQtl R) := by
  unfold f178_68 at h
  refine xe_isr (ins := .istore 6) (len := 2) (i := 6) (by decide +kernel) rfl rfl rfl (by decide) (xk_k (show ¬ (0 : Nat) = 6 by decide) (Or.inl (show ¬ (0 + 1 : Nat) = 6 by decide)) (xk_k (show ¬ (1 : Nat) = 6 by decide) (Or.inl (show ¬ (1 + 1 : Nat) = 6 by decide)) (xk_k (show ¬ (2 : Nat) = 6 by decide) (Or.inl (show ¬ (2 + 1 : Nat) = 6 by decide)) (xk_k (show ¬ (3 : Nat) = 6 by decide) (Or.inl (show ¬ (3 + 1 : Nat) = 6 by decide)) (xk_k (show ¬ (4 : Nat) = 6 by decide) (Or.inl (show ¬ (4 + 1 : Nat) = 6 by decide)) (xk_k (show ¬ (5 : Nat) = 6 by decide) (Or.inr (xI_cat _)) xk_n)))))) rfl ?_
  refine xe_ldn (ins := .iload_n 3) (len := 1) (by decide +kernel) rfl rfl rfl rfl ?_
  refine xe_ldn (ins := .iload 6) (len := 2) (by decide +kernel) rfl rfl rfl rfl ?_
  refine xe_icmpge (off := 6) (t := 79) (by decide +kernel) (by decide) rfl hx3 hy0 (fun c143 => ?_) (fun c143 => ?_)
  · rw [if_pos c143] at h
    refine xe_ldn (ins := .iload_n 3) (len := 1) (by decide +kernel) rfl rfl rfl rfl ?_
    refine xe_ldn (ins := .iload 6) (len := 2) (by decide +kernel) rfl rfl rfl rfl ?_
    refine xe_isub (by decide +kernel) rfl ?_
    refine xe_isr (ins := .istore_n 3) (len := 1) (i := 3) (by decide +kernel) rfl rfl rfl (by decide) (xk_k (show ¬ (6 : Nat) = 3 by decide) (Or.inl (show ¬ (6 + 1 : Nat) = 3 by decide)) (xk_k (show ¬ (0 : Nat) = 3 by decide) (Or.inl (show ¬ (0 + 1 : Nat) = 3 by decide)) (xk_k (show ¬ (1 : Nat) = 3 by decide) (Or.inl (show ¬ (1 + 1 : Nat) = 3 by decide)) (xk_k (show ¬ (2 : Nat) = 3 by decide) (Or.inr (xI_cat _)) (xk_d rfl (xk_k (show ¬ (4 : Nat) = 3 by decide) (Or.inl (show ¬ (4 + 1 : Nat) = 3 by decide)) (xk_k (show ¬ (5 : Nat) = 3 by decide) (Or.inl (show ¬ (5 + 1 : Nat) = 3 by decide)) xk_n))))))) rfl ?_
    refine xe_iincr (i := 4) (n := 1) (by decide +kernel) (by decide) rfl (xk_k (show ¬ (3 : Nat) = 4 by decide) (Or.inr (xI_cat _)) (xk_k (show ¬ (6 : Nat) = 4 by decide) (Or.inl (show ¬ (6 + 1 : Nat) = 4 by decide)) (xk_k (show ¬ (0 : Nat) = 4 by decide) (Or.inl (show ¬ (0 + 1 : Nat) = 4 by decide)) (xk_k (show ¬ (1 : Nat) = 4 by decide) (Or.inl (show ¬ (1 + 1 : Nat) = 4 by decide)) (xk_k (show ¬ (2 : Nat) = 4 by decide) (Or.inl (show ¬ (2 + 1 : Nat) = 4 by decide)) (xk_d rfl (xk_k (show ¬ (5 : Nat) = 4 by decide) (Or.inl (show ¬ (5 + 1 : Nat) = 4 by decide)) xk_n))))))) rfl ?_
    refine xe_goto (off := -59) (nx := 28) (by decide +kernel) (by decide) ?_
    refine xW_lv rfl (l := [(0, xR_ (x0)), (1, xI (x1)), (2, xI (x2)), (3, xI (xwr ((x3) - (y0)))), (4, xI (xwr ((x4) + (1)))), (5, xI (x5))]) (xsb_of ⟨rfl, rfl, rfl, rfl, rfl, rfl, trivial⟩ (show [4, 3, 6, 0, 1, 2, 5].Nodup by decide)) ?_
    exact hr28 hx1 hx2 (xin_wr _) (xin_wr _) hx5 h
  · rw [if_neg c143] at h
    refine xe_goto (off := 14) (nx := 90) (by decide +kernel) (by decide) ?_
    refine xW_lv rfl (l := [(0, xR_ (x0)), (1, xI (x1)), (2, xI (x2)), (3, xI (x3)), (4, xI (x4)), (5, xI (x5))]) (xsb_of ⟨rfl, rfl, rfl, rfl, rfl, rfl, trivial⟩ (show [6, 0, 1, 2, 3, 4, 5].Nodup by decide)) ?_
    exact k178_90   hx1 hx2 hx3 hx4 hx5 h
def f178_28b  (r28 : Nat → Int → Int → Int → Int → Int → xj_M → Option ((Nat ⊕ Int) × xj_M)) (f : Nat) (x0 : Nat) (x1 : Int) (x2 : Int) (x3 : Int) (x4 : Int) (x5 : Int) (M : xj_M) : Option ((Nat ⊕ Int) × xj_M) := (if (x5) ≤ (x4) then f178_90   f (x0) (x1) (x2) (x3) (x4) (x5) M else ((xq_gr 11 13 (x0) M).bind fun v145 => ((xq_gr 2 0 (v145) M).bind fun v147 => ((xq_gr 3 6 (v147) M).bind fun v149 => ((xq_ab (v149) (x4) M).bind fun v151 => (if (v151) = 0 then f178_68  r28 f (x0) (x1) (x2) (x3) (x4) (x5) (0) M else ((xq_gr 11 13 (x0) M).bind fun v154 => ((xq_gr 11 12 (x0) M).bind fun v156 => ((xq_is 2 (v154) M).bind fun _ => ((f18  f (v154) (v156) (x4) M).bind fun R160 => f178_68  r28 f (x0) (x1) (x2) (x3) (x4) (x5) (R160.1) R160.2))))))))))
theorem k178_28b {d f : Nat}  {r28 : Nat → Int → Int → Int → Int → Int → xj_M → Option ((Nat ⊕ Int) × xj_M)}  (hr28 : ∀ {x0 : Nat} {x1 : Int} {x2 : Int} {x3 : Int} {x4 : Int} {x5 : Int} {M : xj_M} {R : (Nat ⊕ Int) × xj_M}, xin x1 → xin x2 → xin x3 → xin x4 → xin x5 → r28 x0 x1 x2 x3 x4 x5 M = some R → xW (d + 5) (none, d + 5, none) xr_178 (28, [(0, xR_ x0), (1, xI x1), (2, xI x2), (3, xI x3), (4, xI x4), (5, xI x5)], [], M) (xQtl R)) {x0 : Nat} {x1 : Int} {x2 : Int} {x3 : Int} {x4 : Int} {x5 : Int} {M : xj_M} {R : (Nat ⊕ Int) × xj_M} (hx1 : xin x1) (hx2 : xin x2) (hx3 : xin x3) (hx4 : xin x4) (hx5 : xin x5) (h : f178_28b  r28 f x0 x1 x2 x3 x4 x5 M = some R) : xW (d + 5) (none, d + 5, none) xr_178 (28, [(0, xR_ x0), (1, xI x1), (2, xI x2), (3, xI x3), (4, xI x4), (5, xI x5)], [], M) (xQtl R) := by
  unfold f178_28b at h
  refine xe_ldn (ins := .iload 4) (len := 2) (by decide +kernel) rfl rfl rfl rfl ?_
  refine xe_ldn (ins := .iload 5) (len := 2) (by decide +kernel) rfl rfl rfl rfl ?_
  refine xe_icmpge (off := 58) (t := 90) (by decide +kernel) (by decide) rfl hx4 hx5 (fun c144 => ?_) (fun c144 => ?_)
  · rw [if_pos c144] at h
    refine xW_lv rfl (l := [(0, xR_ (x0)), (1, xI (x1)), (2, xI (x2)), (3, xI (x3)), (4, xI (x4)), (5, xI (x5))]) (xsb_of ⟨rfl, rfl, rfl, rfl, rfl, rfl, trivial⟩ (show [0, 1, 2, 3, 4, 5].Nodup by decide)) ?_
    exact k178_90   hx1 hx2 hx3 hx4 hx5 h
  · rw [if_neg c144] at h
    refine xe_alr (ins := .aload_n 0) (len := 1) (i := 0) (by decide +kernel) rfl rfl rfl rfl rfl ?_
    obtain ⟨v145, e146, h⟩ := xbnd h
    refine xs_gr (i := 244) (c := 11) (k := 13) (by decide +kernel) (by decide) (by decide +kernel) e146 rfl ?_
    obtain ⟨v147, e148, h⟩ := xbnd h
    refine xs_gr (i := 149) (c := 2) (k := 0) (by decide +kernel) (by decide) (by decide +kernel) e148 rfl ?_
    obtain ⟨v149, e150, h⟩ := xbnd h
    refine xs_gr (i := 271) (c := 3) (k := 6) (by decide +kernel) (by decide) (by decide +kernel) e150 rfl ?_
    refine xe_ldn (ins := .iload 4) (len := 2) (by decide +kernel) rfl rfl rfl rfl ?_
    obtain ⟨v151, e152, h⟩ := xbnd h
    refine xs_bald (by decide +kernel) hx4 e152 rfl ?_
    refine xe_ifeq (off := 19) (t := 67) (by decide +kernel) (by decide) rfl (xq_ab_in e152) (fun c153 => ?_) (fun c153 => ?_)
    · rw [if_pos c153] at h
      refine xe_iconst (n := 0) (by decide +kernel) rfl ?_
      refine xW_lv rfl (l := [(0, xR_ (x0)), (1, xI (x1)), (2, xI (x2)), (3, xI (x3)), (4, xI (x4)), (5, xI (x5))]) (xsb_of ⟨rfl, rfl, rfl, rfl, rfl, rfl, trivial⟩ (show [0, 1, 2, 3, 4, 5].Nodup by decide)) ?_
      exact k178_68  hr28 hx1 hx2 hx3 hx4 hx5 (show xin (0) by decide) h
    · rw [if_neg c153] at h
      refine xe_alr (ins := .aload_n 0) (len := 1) (i := 0) (by decide +kernel) rfl rfl rfl rfl rfl ?_
      obtain ⟨v154, e155, h⟩ := xbnd h
      refine xs_gr (i := 244) (c := 11) (k := 13) (by decide +kernel) (by decide) (by decide +kernel) e155 rfl ?_
      refine xe_alr (ins := .aload_n 0) (len := 1) (i := 0) (by decide +kernel) rfl rfl rfl rfl rfl ?_
      obtain ⟨v156, e157, h⟩ := xbnd h
      refine xs_gr (i := 240) (c := 11) (k := 12) (by decide +kernel) (by decide) (by decide +kernel) e157 rfl ?_
      refine xe_ldn (ins := .iload 4) (len := 2) (by decide +kernel) rfl rfl rfl rfl ?_
      obtain ⟨_, e159, h⟩ := xbnd h
      obtain ⟨R160, e158, h⟩ := xbnd h
      refine xs_cv (i := 284) (j := 18) (ar := [xI (x4), xR_ (v156)]) (rest := []) (r2 := xr_18) (by decide +kernel) (by decide +kernel) (by decide +kernel) xr_18_e rfl (by decide) (by decide) e159 ?_
      refine xc_i (k18 (d := d + 2)  hx4 e158) rfl (fun hi161 => ?_)
      refine xe_goto (off := 4) (nx := 68) (by decide +kernel) (by decide) ?_
      refine xW_lv rfl (l := [(0, xR_ (x0)), (1, xI (x1)), (2, xI (x2)), (3, xI (x3)), (4, xI (x4)), (5, xI (x5))]) (xsb_of ⟨rfl, rfl, rfl, rfl, rfl, rfl, trivial⟩ (show [0, 1, 2, 3, 4, 5].Nodup by decide)) ?_
      exact k178_68  hr28 hx1 hx2 hx3 hx4 hx5 hi161 h
def f178_28   (f : Nat) : Nat → Nat → Int → Int → Int → Int → Int → xj_M → Option ((Nat ⊕ Int) × xj_M)
  | 0, _, _, _, _, _, _, _ => none
  | n + 1, x0, x1, x2, x3, x4, x5, M => f178_28b   (f178_28   f n) f x0 x1 x2 x3 x4 x5 M
theorem k178_28 {d f : Nat}     : ∀ {n : Nat} {x0 : Nat} {x1 : Int} {x2 : Int} {x3 : Int} {x4 : Int} {x5 : Int} {M : xj_M} {R : (Nat ⊕ Int) × xj_M}, xin x1 → xin x2 → xin x3 → xin x4 → xin x5 → f178_28   f n x0 x1 x2 x3 x4 x5 M = some R → xW (d + 5) (none, d + 5, none) xr_178 (28, [(0, xR_ x0), (1, xI x1), (2, xI x2), (3, xI x3), (4, xI x4), (5, xI x5)], [], M) (xQtl R) := by
  intro n
  induction n with
  | zero => intros; rename_i h; cases h
  | succ n ih => intros; rename_i h; exact k178_28b   ih (by assumption) (by assumption) (by assumption) (by assumption) (by assumption) h
def f178_26   (f : Nat) (x0 : Nat) (x1 : Int) (x2 : Int) (x3 : Int) (x4 : Int) (y0 : Int) (M : xj_M) : Option ((Nat ⊕ Int) × xj_M) := f178_28   f f (x0) (x1) (x2) (x3) (x4) (y0) M
theorem k178_26 {d f : Nat}     {x0 : Nat} {x1 : Int} {x2 : Int} {x3 : Int} {x4 : Int} {y0 : Int} {M : xj_M} {R : (Nat ⊕ Int) × xj_M} (hx1 : xin x1) (hx2 : xin x2) (hx3 : xin x3) (hx4 : xin x4) (hy0 : xin y0) (h : f178_26   f x0 x1 x2 x3 x4 y0 M = some R) : xW (d + 5) (none, d + 5, none) xr_178 (26, [(0, xR_ x0), (1, xI x1), (2, xI x2), (3, xI x3), (4, xI x4)], [xI y0], M) (xQtl R) := by
  unfold f178_26 at h
  refine xe_isr (ins := .istore 5) (len := 2) (i := 5) (by decide +kernel) rfl rfl rfl (by decide) (xk_k (show ¬ (0 : Nat) = 5 by decide) (Or.inl (show ¬ (0 + 1 : Nat) = 5 by decide)) (xk_k (show ¬ (1 : Nat) = 5 by decide) (Or.inl (show ¬ (1 + 1 : Nat) = 5 by decide)) (xk_k (show ¬ (2 : Nat) = 5 by decide) (Or.inl (show ¬ (2 + 1 : Nat) = 5 by decide)) (xk_k (show ¬ (3 : Nat) = 5 by decide) (Or.inl (show ¬ (3 + 1 : Nat) = 5 by decide)) (xk_k (show ¬ (4 : Nat) = 5 by decide) (Or.inr (xI_cat _)) xk_n))))) rfl ?_
  refine xW_lv rfl (l := [(0, xR_ (x0)), (1, xI (x1)), (2, xI (x2)), (3, xI (x3)), (4, xI (x4)), (5, xI (y0))]) (xsb_of ⟨rfl, rfl, rfl, rfl, rfl, rfl, trivial⟩ (show [5, 0, 1, 2, 3, 4].Nodup by decide)) ?_
  exact k178_28   hx1 hx2 hx3 hx4 hy0 h
def f178  (f : Nat) (a0 : Nat) (a1 : Int) (a2 : Int) (M : xj_M) : Option ((Nat ⊕ Int) × xj_M) := ((xq_gr 11 13 (a0) M).bind fun v162 => (if (v162) = 0 then f178_26   f (a0) (a1) (a2) (a1) (0) (0) M else ((xq_gr 11 13 (a0) M).bind fun v165 => ((xq_gr 2 0 (v165) M).bind fun v167 => ((xq_gi 3 1 (v167) M).bind fun v169 => f178_26   f (a0) (a1) (a2) (a1) (0) (v169) M)))))
theorem k178 {d f : Nat}   {a0 : Nat} {a1 : Int} {a2 : Int} {M : xj_M} {R : (Nat ⊕ Int) × xj_M} (ha1 : xin a1) (ha2 : xin a2) (h : f178  f a0 a1 a2 M = some R) : xT (d + 6) 178 [xR_ a0, xI a1, xI a2] M (xQtl R) := by
  refine xT_m xr_178_e (X := (none, d + 5, none)) rfl (xa_1 (xR_cat _) (xa_1 (xI_cat _) (xa_1 (xI_cat _) xa_n))) (by decide) ?_
  unfold f178 at h
  refine xe_ldn (ins := .iload_n 1) (len := 1) (by decide +kernel) rfl rfl rfl rfl ?_
  refine xe_isr (ins := .istore_n 3) (len := 1) (i := 3) (by decide +kernel) rfl rfl rfl (by decide) (xk_k (show ¬ (0 : Nat) = 3 by decide) (Or.inl (show ¬ (0 + 1 : Nat) = 3 by decide)) (xk_k (show ¬ (1 : Nat) = 3 by decide) (Or.inl (show ¬ (1 + 1 : Nat) = 3 by decide)) (xk_k (show ¬ (2 : Nat) = 3 by decide) (Or.inr (xI_cat _)) xk_n))) rfl ?_
  refine xe_iconst (n := 0) (by decide +kernel) rfl ?_
  refine xe_isr (ins := .istore 4) (len := 2) (i := 4) (by decide +kernel) rfl rfl rfl (by decide) (xk_k (show ¬ (3 : Nat) = 4 by decide) (Or.inr (xI_cat _)) (xk_k (show ¬ (0 : Nat) = 4 by decide) (Or.inl (show ¬ (0 + 1 : Nat) = 4 by decide)) (xk_k (show ¬ (1 : Nat) = 4 by decide) (Or.inl (show ¬ (1 + 1 : Nat) = 4 by decide)) (xk_k (show ¬ (2 : Nat) = 4 by decide) (Or.inl (show ¬ (2 + 1 : Nat) = 4 by decide)) xk_n)))) rfl ?_
  refine xe_alr (ins := .aload_n 0) (len := 1) (i := 0) (by decide +kernel) rfl rfl rfl rfl rfl ?_
  obtain ⟨v162, e163, h⟩ := xbnd h
  refine xs_gr (i := 244) (c := 11) (k := 13) (by decide +kernel) (by decide) (by decide +kernel) e163 rfl ?_
  refine xe_ifnonnull (off := 7) (t := 16) (by decide +kernel) (by decide) rfl (fun c164 => ?_) (fun c164 => ?_)
  · rw [if_neg c164] at h
    refine xe_alr (ins := .aload_n 0) (len := 1) (i := 0) (by decide +kernel) rfl rfl rfl rfl rfl ?_
    obtain ⟨v165, e166, h⟩ := xbnd h
    refine xs_gr (i := 244) (c := 11) (k := 13) (by decide +kernel) (by decide) (by decide +kernel) e166 rfl ?_
    obtain ⟨v167, e168, h⟩ := xbnd h
    refine xs_gr (i := 149) (c := 2) (k := 0) (by decide +kernel) (by decide) (by decide +kernel) e168 rfl ?_
    obtain ⟨v169, e170, h⟩ := xbnd h
    refine xs_gi (i := 253) (c := 3) (k := 1) (by decide +kernel) (by decide) (by decide +kernel) e170 rfl ?_
    refine xW_lv rfl (l := [(0, xR_ (a0)), (1, xI (a1)), (2, xI (a2)), (3, xI (a1)), (4, xI (0))]) (xsb_of ⟨rfl, rfl, rfl, rfl, rfl, trivial⟩ (show [4, 3, 0, 1, 2].Nodup by decide)) ?_
    exact k178_26   ha1 ha2 ha1 (show xin (0) by decide) (xq_gi_in e170) h
  · rw [if_pos c164] at h
    refine xe_iconst (n := 0) (by decide +kernel) rfl ?_
    refine xe_goto (off := 13) (nx := 26) (by decide +kernel) (by decide) ?_
    refine xW_lv rfl (l := [(0, xR_ (a0)), (1, xI (a1)), (2, xI (a2)), (3, xI (a1)), (4, xI (0))]) (xsb_of ⟨rfl, rfl, rfl, rfl, rfl, trivial⟩ (show [4, 3, 0, 1, 2].Nodup by decide)) ?_
    exact k178_26   ha1 ha2 ha1 (show xin (0) by decide) (show xin (0) by decide) h
-- ChangeHouse.back
def xr_186 : xj_mR := (11, yX11_back, cX11_back, 5, (Option.some Jvm.ClassFile.FieldType.int), 1, false, (7, 178), (1, 1))
set_option maxRecDepth 20000 in
theorem xr_186_e : xj_row 186 = some xr_186 := rfl
def f186_83  (r35 : Nat → Int → Int → Int → xj_M → Option (Int × xj_M)) (f : Nat) (x0 : Nat) (x1 : Int) (x3 : Int) (x4 : Int) (M : xj_M) : Option (Int × xj_M) := r35 (x0) (x1) (x3) (xwr ((x4) + (1))) M
theorem k186_83 {d f : Nat}  {r35 : Nat → Int → Int → Int → xj_M → Option (Int × xj_M)}  (hr35 : ∀ {x0 : Nat} {x1 : Int} {x3 : Int} {x4 : Int} {M : xj_M} {R : Int × xj_M}, xin x1 → xin x3 → xin x4 → r35 x0 x1 x3 x4 M = some R → xW (d + 2) (none, d + 2, none) xr_186 (35, [(0, xR_ x0), (1, xI x1), (3, xI x3), (4, xI x4)], [], M) (xQi R)) {x0 : Nat} {x1 : Int} {x3 : Int} {x4 : Int} {M : xj_M} {R : Int × xj_M} (hx1 : xin x1) (hx3 : xin x3) (hx4 : xin x4) (h : f186_83  r35 f x0 x1 x3 x4 M = some R) : xW (d + 2) (none, d + 2, none) xr_186 (83, [(0, xR_ x0), (1, xI x1), (3, xI x3), (4, xI x4)], [], M) (xQi R) := by
  unfold f186_83 at h
  refine xe_iincr (i := 4) (n := 1) (by decide +kernel) (by decide) rfl (xk_k (show ¬ (0 : Nat) = 4 by decide) (Or.inl (show ¬ (0 + 1 : Nat) = 4 by decide)) (xk_k (show ¬ (1 : Nat) = 4 by decide) (Or.inl (show ¬ (1 + 1 : Nat) = 4 by decide)) (xk_k (show ¬ (3 : Nat) = 4 by decide) (Or.inr (xI_cat _)) (xk_d rfl xk_n)))) rfl ?_
  refine xe_goto (off := -51) (nx := 35) (by decide +kernel) (by decide) ?_
  refine xW_lv rfl (l := [(0, xR_ (x0)), (1, xI (x1)), (3, xI (x3)), (4, xI (xwr ((x4) + (1))))]) (xsb_of ⟨rfl, rfl, rfl, rfl, trivial⟩ (show [4, 0, 1, 3].Nodup by decide)) ?_
  exact hr35 hx1 hx3 (xin_wr _) h
def f186_35b  (r35 : Nat → Int → Int → Int → xj_M → Option (Int × xj_M)) (f : Nat) (x0 : Nat) (x1 : Int) (x3 : Int) (x4 : Int) (M : xj_M) : Option (Int × xj_M) := (if (4) ≤ (x4) then ((xq_pr 11 13 (x0) (0) M).bind fun M102 => (some (x3, M102))) else ((xq_gr 11 5 (x0) M).bind fun v104 => ((xq_ar (v104) (x4) M).bind fun v106 => ((xq_gi 1 3 (v106) M).bind fun v108 => ((xq_gi 11 6 (x0) M).bind fun v110 => (if ¬ (v108) = (v110) then f186_83  r35 f (x0) (x1) (x3) (x4) M else ((xq_gr 11 5 (x0) M).bind fun v113 => ((xq_ar (v113) (x4) M).bind fun v115 => ((xq_gi 1 4 (v115) M).bind fun v117 => (if (v117) ≤ (x1) then f186_83  r35 f (x0) (x1) (x3) (x4) M else ((xq_gr 11 5 (x0) M).bind fun v120 => ((xq_ar (v120) (x4) M).bind fun v122 => ((xq_pi 1 3 (v122) (-1) M).bind fun M124 => f186_83  r35 f (x0) (x1) (x3) (x4) M124)))))))))))))
theorem k186_35b {d f : Nat}  {r35 : Nat → Int → Int → Int → xj_M → Option (Int × xj_M)}  (hr35 : ∀ {x0 : Nat} {x1 : Int} {x3 : Int} {x4 : Int} {M : xj_M} {R : Int × xj_M}, xin x1 → xin x3 → xin x4 → r35 x0 x1 x3 x4 M = some R → xW (d + 2) (none, d + 2, none) xr_186 (35, [(0, xR_ x0), (1, xI x1), (3, xI x3), (4, xI x4)], [], M) (xQi R)) {x0 : Nat} {x1 : Int} {x3 : Int} {x4 : Int} {M : xj_M} {R : Int × xj_M} (hx1 : xin x1) (hx3 : xin x3) (hx4 : xin x4) (h : f186_35b  r35 f x0 x1 x3 x4 M = some R) : xW (d + 2) (none, d + 2, none) xr_186 (35, [(0, xR_ x0), (1, xI x1), (3, xI x3), (4, xI x4)], [], M) (xQi R) := by
  unfold f186_35b at h
  refine xe_ldn (ins := .iload 4) (len := 2) (by decide +kernel) rfl rfl rfl rfl ?_
  refine xe_iconst (n := 4) (by decide +kernel) rfl ?_
  refine xe_icmpge (off := 51) (t := 89) (by decide +kernel) (by decide) rfl hx4 (show xin (4) by decide) (fun c101 => ?_) (fun c101 => ?_)
  · rw [if_pos c101] at h
    refine xe_alr (ins := .aload_n 0) (len := 1) (i := 0) (by decide +kernel) rfl rfl rfl rfl rfl ?_
    refine xe_pure (ins := .aconst_null) (len := 1) (by decide +kernel) rfl rfl rfl ?_
    obtain ⟨M102, e103, h⟩ := xbnd h
    refine xs_p (i := 244) (c := 11) (k := 13) (by decide +kernel) (by decide +kernel) (by decide +kernel) e103 rfl ?_
    refine xe_ldn (ins := .iload_n 3) (len := 1) (by decide +kernel) rfl rfl rfl rfl ?_
    cases h
    exact xe_ret_i (ty := .int) (by decide +kernel) rfl rfl ⟨rfl, rfl, hx3⟩
  · rw [if_neg c101] at h
    refine xe_alr (ins := .aload_n 0) (len := 1) (i := 0) (by decide +kernel) rfl rfl rfl rfl rfl ?_
    obtain ⟨v104, e105, h⟩ := xbnd h
    refine xs_gr (i := 50) (c := 11) (k := 5) (by decide +kernel) (by decide) (by decide +kernel) e105 rfl ?_
    refine xe_ldn (ins := .iload 4) (len := 2) (by decide +kernel) rfl rfl rfl rfl ?_
    obtain ⟨v106, e107, h⟩ := xbnd h
    refine xs_aald (by decide +kernel) hx4 e107 rfl ?_
    obtain ⟨v108, e109, h⟩ := xbnd h
    refine xs_gi (i := 382) (c := 1) (k := 3) (by decide +kernel) (by decide) (by decide +kernel) e109 rfl ?_
    refine xe_alr (ins := .aload_n 0) (len := 1) (i := 0) (by decide +kernel) rfl rfl rfl rfl rfl ?_
    obtain ⟨v110, e111, h⟩ := xbnd h
    refine xs_gi (i := 132) (c := 11) (k := 6) (by decide +kernel) (by decide) (by decide +kernel) e111 rfl ?_
    refine xe_icmpne (off := 28) (t := 83) (by decide +kernel) (by decide) rfl (xq_gi_in e109) (xq_gi_in e111) (fun c112 => ?_) (fun c112 => ?_)
    · rw [if_pos c112] at h
      refine xW_lv rfl (l := [(0, xR_ (x0)), (1, xI (x1)), (3, xI (x3)), (4, xI (x4))]) (xsb_of ⟨rfl, rfl, rfl, rfl, trivial⟩ (show [0, 1, 3, 4].Nodup by decide)) ?_
      exact k186_83  hr35 hx1 hx3 hx4 h
    · rw [if_neg c112] at h
      refine xe_alr (ins := .aload_n 0) (len := 1) (i := 0) (by decide +kernel) rfl rfl rfl rfl rfl ?_
      obtain ⟨v113, e114, h⟩ := xbnd h
      refine xs_gr (i := 50) (c := 11) (k := 5) (by decide +kernel) (by decide) (by decide +kernel) e114 rfl ?_
      refine xe_ldn (ins := .iload 4) (len := 2) (by decide +kernel) rfl rfl rfl rfl ?_
      obtain ⟨v115, e116, h⟩ := xbnd h
      refine xs_aald (by decide +kernel) hx4 e116 rfl ?_
      obtain ⟨v117, e118, h⟩ := xbnd h
      refine xs_gi (i := 385) (c := 1) (k := 4) (by decide +kernel) (by decide) (by decide +kernel) e118 rfl ?_
      refine xe_ldn (ins := .iload_n 1) (len := 1) (by decide +kernel) rfl rfl rfl rfl ?_
      refine xe_icmple (off := 14) (t := 83) (by decide +kernel) (by decide) rfl (xq_gi_in e118) hx1 (fun c119 => ?_) (fun c119 => ?_)
      · rw [if_pos c119] at h
        refine xW_lv rfl (l := [(0, xR_ (x0)), (1, xI (x1)), (3, xI (x3)), (4, xI (x4))]) (xsb_of ⟨rfl, rfl, rfl, rfl, trivial⟩ (show [0, 1, 3, 4].Nodup by decide)) ?_
        exact k186_83  hr35 hx1 hx3 hx4 h
      · rw [if_neg c119] at h
        refine xe_alr (ins := .aload_n 0) (len := 1) (i := 0) (by decide +kernel) rfl rfl rfl rfl rfl ?_
        obtain ⟨v120, e121, h⟩ := xbnd h
        refine xs_gr (i := 50) (c := 11) (k := 5) (by decide +kernel) (by decide) (by decide +kernel) e121 rfl ?_
        refine xe_ldn (ins := .iload 4) (len := 2) (by decide +kernel) rfl rfl rfl rfl ?_
        obtain ⟨v122, e123, h⟩ := xbnd h
        refine xs_aald (by decide +kernel) hx4 e123 rfl ?_
        refine xe_iconst (n := -1) (by decide +kernel) rfl ?_
        obtain ⟨M124, e125, h⟩ := xbnd h
        refine xs_p (i := 382) (c := 1) (k := 3) (by decide +kernel) (by decide +kernel) (by decide +kernel) e125 rfl ?_
        refine xW_lv rfl (l := [(0, xR_ (x0)), (1, xI (x1)), (3, xI (x3)), (4, xI (x4))]) (xsb_of ⟨rfl, rfl, rfl, rfl, trivial⟩ (show [0, 1, 3, 4].Nodup by decide)) ?_
        exact k186_83  hr35 hx1 hx3 hx4 h
def f186_35   (f : Nat) : Nat → Nat → Int → Int → Int → xj_M → Option (Int × xj_M)
  | 0, _, _, _, _, _ => none
  | n + 1, x0, x1, x3, x4, M => f186_35b   (f186_35   f n) f x0 x1 x3 x4 M
theorem k186_35 {d f : Nat}     : ∀ {n : Nat} {x0 : Nat} {x1 : Int} {x3 : Int} {x4 : Int} {M : xj_M} {R : Int × xj_M}, xin x1 → xin x3 → xin x4 → f186_35   f n x0 x1 x3 x4 M = some R → xW (d + 2) (none, d + 2, none) xr_186 (35, [(0, xR_ x0), (1, xI x1), (3, xI x3), (4, xI x4)], [], M) (xQi R) := by
  intro n
  induction n with
  | zero => intros; rename_i h; cases h
  | succ n ih => intros; rename_i h; exact k186_35b   ih (by assumption) (by assumption) (by assumption) h
def f186  (f : Nat) (a0 : Nat) (a1 : Int) (M : xj_M) : Option (Int × xj_M) := ((xq_gr 11 5 (a0) M).bind fun v126 => ((xq_gi 11 6 (a0) M).bind fun v128 => ((xq_ar (v126) (v128) M).bind fun v130 => ((xq_is 1 (v130) M).bind fun _ => ((f6  f (v130) (a1) M).bind fun R134 => (if ¬ (R134.1) = 0 then ((xq_gi 1 1 (v130) R134.2).bind fun v137 => ((xq_is 1 (v130) R134.2).bind fun _ => ((f12  f (v130) (a1) R134.2).bind fun M141 => f186_35   f f (a0) (a1) (xwr ((v137) - (a1))) (0) M141))) else (some (-1, R134.2))))))))
theorem k186 {d f : Nat}   {a0 : Nat} {a1 : Int} {M : xj_M} {R : Int × xj_M} (ha1 : xin a1) (h : f186  f a0 a1 M = some R) : xT (d + 3) 186 [xR_ a0, xI a1] M (xQi R) := by
  refine xT_m xr_186_e (X := (none, d + 2, none)) rfl (xa_1 (xR_cat _) (xa_1 (xI_cat _) xa_n)) (by decide) ?_
  unfold f186 at h
  refine xe_alr (ins := .aload_n 0) (len := 1) (i := 0) (by decide +kernel) rfl rfl rfl rfl rfl ?_
  obtain ⟨v126, e127, h⟩ := xbnd h
  refine xs_gr (i := 50) (c := 11) (k := 5) (by decide +kernel) (by decide) (by decide +kernel) e127 rfl ?_
  refine xe_alr (ins := .aload_n 0) (len := 1) (i := 0) (by decide +kernel) rfl rfl rfl rfl rfl ?_
  obtain ⟨v128, e129, h⟩ := xbnd h
  refine xs_gi (i := 132) (c := 11) (k := 6) (by decide +kernel) (by decide) (by decide +kernel) e129 rfl ?_
  obtain ⟨v130, e131, h⟩ := xbnd h
  refine xs_aald (by decide +kernel) (xq_gi_in e129) e131 rfl ?_
  refine xe_asr (ins := .astore_n 2) (len := 1) (i := 2) (by decide +kernel) rfl rfl rfl (by decide) (xk_k (show ¬ (0 : Nat) = 2 by decide) (Or.inl (show ¬ (0 + 1 : Nat) = 2 by decide)) (xk_k (show ¬ (1 : Nat) = 2 by decide) (Or.inr (xI_cat _)) xk_n)) rfl ?_
  refine xe_alr (ins := .aload_n 2) (len := 1) (i := 2) (by decide +kernel) rfl rfl rfl rfl rfl ?_
  refine xe_ldn (ins := .iload_n 1) (len := 1) (by decide +kernel) rfl rfl rfl rfl ?_
  obtain ⟨_, e133, h⟩ := xbnd h
  obtain ⟨R134, e132, h⟩ := xbnd h
  refine xs_cv (i := 371) (j := 6) (ar := [xI (a1)]) (rest := []) (r2 := xr_6) (by decide +kernel) (by decide +kernel) (by decide +kernel) xr_6_e rfl (by decide) (by decide) e133 ?_
  refine xc_i (k6 (d := d + 1)  ha1 e132) rfl (fun hi135 => ?_)
  refine xe_ifne (off := 5) (t := 20) (by decide +kernel) (by decide) rfl hi135 (fun c136 => ?_) (fun c136 => ?_)
  · rw [if_pos c136] at h
    refine xe_alr (ins := .aload_n 2) (len := 1) (i := 2) (by decide +kernel) rfl rfl rfl rfl rfl ?_
    obtain ⟨v137, e138, h⟩ := xbnd h
    refine xs_gi (i := 199) (c := 1) (k := 1) (by decide +kernel) (by decide) (by decide +kernel) e138 rfl ?_
    refine xe_ldn (ins := .iload_n 1) (len := 1) (by decide +kernel) rfl rfl rfl rfl ?_
    refine xe_isub (by decide +kernel) rfl ?_
    refine xe_isr (ins := .istore_n 3) (len := 1) (i := 3) (by decide +kernel) rfl rfl rfl (by decide) (xk_k (show ¬ (2 : Nat) = 3 by decide) (Or.inr (xR_cat _)) (xk_k (show ¬ (0 : Nat) = 3 by decide) (Or.inl (show ¬ (0 + 1 : Nat) = 3 by decide)) (xk_k (show ¬ (1 : Nat) = 3 by decide) (Or.inl (show ¬ (1 + 1 : Nat) = 3 by decide)) xk_n))) rfl ?_
    refine xe_alr (ins := .aload_n 2) (len := 1) (i := 2) (by decide +kernel) rfl rfl rfl rfl rfl ?_
    refine xe_ldn (ins := .iload_n 1) (len := 1) (by decide +kernel) rfl rfl rfl rfl ?_
    obtain ⟨_, e140, h⟩ := xbnd h
    obtain ⟨M141, e139, h⟩ := xbnd h
    refine xs_cv (i := 379) (j := 12) (ar := [xI (a1)]) (rest := []) (r2 := xr_12) (by decide +kernel) (by decide +kernel) (by decide +kernel) xr_12_e rfl (by decide) (by decide) e140 ?_
    refine xc_v (k12 (d := d + 0)  ha1 e139) rfl ?_
    refine xe_iconst (n := 0) (by decide +kernel) rfl ?_
    refine xe_isr (ins := .istore 4) (len := 2) (i := 4) (by decide +kernel) rfl rfl rfl (by decide) (xk_k (show ¬ (3 : Nat) = 4 by decide) (Or.inr (xI_cat _)) (xk_k (show ¬ (2 : Nat) = 4 by decide) (Or.inl (show ¬ (2 + 1 : Nat) = 4 by decide)) (xk_k (show ¬ (0 : Nat) = 4 by decide) (Or.inl (show ¬ (0 + 1 : Nat) = 4 by decide)) (xk_k (show ¬ (1 : Nat) = 4 by decide) (Or.inl (show ¬ (1 + 1 : Nat) = 4 by decide)) xk_n)))) rfl ?_
    refine xW_lv rfl (l := [(0, xR_ (a0)), (1, xI (a1)), (3, xI (xwr ((v137) - (a1)))), (4, xI (0))]) (xsb_of ⟨rfl, rfl, rfl, rfl, trivial⟩ (show [4, 3, 2, 0, 1].Nodup by decide)) ?_
    exact k186_35   ha1 (xin_wr _) (show xin (0) by decide) h
  · rw [if_neg c136] at h
    refine xe_iconst (n := -1) (by decide +kernel) rfl ?_
    cases h
    exact xe_ret_i (ty := .int) (by decide +kernel) rfl rfl ⟨rfl, rfl, (show xin (-1) by decide)⟩
-- ChangeHouse.branch
def xr_187 : xj_mR := (11, yX11_branch, cX11_branch, 5, (Option.some Jvm.ClassFile.FieldType.int), 2, false, (7, 189), (1, 1))
set_option maxRecDepth 20000 in
theorem xr_187_e : xj_row 187 = some xr_187 := rfl
def f187_35   (f : Nat)  (M : xj_M) : Option (Int × xj_M) := (some (-1, M))
theorem k187_35 {d f : Nat}      {M : xj_M} {R : Int × xj_M}  (h : f187_35   f  M = some R) : xW (d + 2) (none, d + 2, none) xr_187 (35, [], [], M) (xQi R) := by
  unfold f187_35 at h
  refine xe_iconst (n := -1) (by decide +kernel) rfl ?_
  cases h
  exact xe_ret_i (ty := .int) (by decide +kernel) rfl rfl ⟨rfl, rfl, (show xin (-1) by decide)⟩
def f187_82  (r51 : Nat → Int → Int → Int → xj_M → Option (Int × xj_M)) (f : Nat) (x0 : Nat) (x1 : Int) (x2 : Int) (x4 : Int) (M : xj_M) : Option (Int × xj_M) := r51 (x0) (x1) (x2) (xwr ((x4) + (1))) M
theorem k187_82 {d f : Nat}  {r51 : Nat → Int → Int → Int → xj_M → Option (Int × xj_M)}  (hr51 : ∀ {x0 : Nat} {x1 : Int} {x2 : Int} {x4 : Int} {M : xj_M} {R : Int × xj_M}, xin x1 → xin x2 → xin x4 → r51 x0 x1 x2 x4 M = some R → xW (d + 2) (none, d + 2, none) xr_187 (51, [(0, xR_ x0), (1, xI x1), (2, xI x2), (4, xI x4)], [], M) (xQi R)) {x0 : Nat} {x1 : Int} {x2 : Int} {x4 : Int} {M : xj_M} {R : Int × xj_M} (hx1 : xin x1) (hx2 : xin x2) (hx4 : xin x4) (h : f187_82  r51 f x0 x1 x2 x4 M = some R) : xW (d + 2) (none, d + 2, none) xr_187 (82, [(0, xR_ x0), (1, xI x1), (2, xI x2), (4, xI x4)], [], M) (xQi R) := by
  unfold f187_82 at h
  refine xe_iincr (i := 4) (n := 1) (by decide +kernel) (by decide) rfl (xk_k (show ¬ (0 : Nat) = 4 by decide) (Or.inl (show ¬ (0 + 1 : Nat) = 4 by decide)) (xk_k (show ¬ (1 : Nat) = 4 by decide) (Or.inl (show ¬ (1 + 1 : Nat) = 4 by decide)) (xk_k (show ¬ (2 : Nat) = 4 by decide) (Or.inl (show ¬ (2 + 1 : Nat) = 4 by decide)) (xk_d rfl xk_n)))) rfl ?_
  refine xe_goto (off := -34) (nx := 51) (by decide +kernel) (by decide) ?_
  refine xW_lv rfl (l := [(0, xR_ (x0)), (1, xI (x1)), (2, xI (x2)), (4, xI (xwr ((x4) + (1))))]) (xsb_of ⟨rfl, rfl, rfl, rfl, trivial⟩ (show [4, 0, 1, 2].Nodup by decide)) ?_
  exact hr51 hx1 hx2 (xin_wr _) h
def f187_51b  (r51 : Nat → Int → Int → Int → xj_M → Option (Int × xj_M)) (f : Nat) (x0 : Nat) (x1 : Int) (x2 : Int) (x4 : Int) (M : xj_M) : Option (Int × xj_M) := (if (4) ≤ (x4) then ((xq_gr 11 5 (x0) M).bind fun v102 => ((xq_ar (v102) (x1) M).bind fun v104 => ((xq_gi 11 6 (x0) M).bind fun v106 => ((xq_pi 1 3 (v104) (v106) M).bind fun M108 => ((xq_gr 11 5 (x0) M108).bind fun v110 => ((xq_ar (v110) (x1) M108).bind fun v112 => ((xq_pi 1 4 (v112) (x2) M108).bind fun M114 => (some (x2, M114))))))))) else ((xq_gr 11 5 (x0) M).bind fun v116 => ((xq_ar (v116) (x4) M).bind fun v118 => ((xq_gi 1 3 (v118) M).bind fun v120 => (if ¬ (v120) = (x1) then f187_82  r51 f (x0) (x1) (x2) (x4) M else ((xq_gr 11 5 (x0) M).bind fun v123 => ((xq_ar (v123) (x4) M).bind fun v125 => ((xq_pi 1 3 (v125) (-1) M).bind fun M127 => f187_82  r51 f (x0) (x1) (x2) (x4) M127))))))))
theorem k187_51b {d f : Nat}  {r51 : Nat → Int → Int → Int → xj_M → Option (Int × xj_M)}  (hr51 : ∀ {x0 : Nat} {x1 : Int} {x2 : Int} {x4 : Int} {M : xj_M} {R : Int × xj_M}, xin x1 → xin x2 → xin x4 → r51 x0 x1 x2 x4 M = some R → xW (d + 2) (none, d + 2, none) xr_187 (51, [(0, xR_ x0), (1, xI x1), (2, xI x2), (4, xI x4)], [], M) (xQi R)) {x0 : Nat} {x1 : Int} {x2 : Int} {x4 : Int} {M : xj_M} {R : Int × xj_M} (hx1 : xin x1) (hx2 : xin x2) (hx4 : xin x4) (h : f187_51b  r51 f x0 x1 x2 x4 M = some R) : xW (d + 2) (none, d + 2, none) xr_187 (51, [(0, xR_ x0), (1, xI x1), (2, xI x2), (4, xI x4)], [], M) (xQi R) := by
  unfold f187_51b at h
  refine xe_ldn (ins := .iload 4) (len := 2) (by decide +kernel) rfl rfl rfl rfl ?_
  refine xe_iconst (n := 4) (by decide +kernel) rfl ?_
  refine xe_icmpge (off := 34) (t := 88) (by decide +kernel) (by decide) rfl hx4 (show xin (4) by decide) (fun c101 => ?_) (fun c101 => ?_)
  · rw [if_pos c101] at h
    refine xe_alr (ins := .aload_n 0) (len := 1) (i := 0) (by decide +kernel) rfl rfl rfl rfl rfl ?_
    obtain ⟨v102, e103, h⟩ := xbnd h
    refine xs_gr (i := 50) (c := 11) (k := 5) (by decide +kernel) (by decide) (by decide +kernel) e103 rfl ?_
    refine xe_ldn (ins := .iload_n 1) (len := 1) (by decide +kernel) rfl rfl rfl rfl ?_
    obtain ⟨v104, e105, h⟩ := xbnd h
    refine xs_aald (by decide +kernel) hx1 e105 rfl ?_
    refine xe_alr (ins := .aload_n 0) (len := 1) (i := 0) (by decide +kernel) rfl rfl rfl rfl rfl ?_
    obtain ⟨v106, e107, h⟩ := xbnd h
    refine xs_gi (i := 132) (c := 11) (k := 6) (by decide +kernel) (by decide) (by decide +kernel) e107 rfl ?_
    obtain ⟨M108, e109, h⟩ := xbnd h
    refine xs_p (i := 382) (c := 1) (k := 3) (by decide +kernel) (by decide +kernel) (by decide +kernel) e109 rfl ?_
    refine xe_alr (ins := .aload_n 0) (len := 1) (i := 0) (by decide +kernel) rfl rfl rfl rfl rfl ?_
    obtain ⟨v110, e111, h⟩ := xbnd h
    refine xs_gr (i := 50) (c := 11) (k := 5) (by decide +kernel) (by decide) (by decide +kernel) e111 rfl ?_
    refine xe_ldn (ins := .iload_n 1) (len := 1) (by decide +kernel) rfl rfl rfl rfl ?_
    obtain ⟨v112, e113, h⟩ := xbnd h
    refine xs_aald (by decide +kernel) hx1 e113 rfl ?_
    refine xe_ldn (ins := .iload_n 2) (len := 1) (by decide +kernel) rfl rfl rfl rfl ?_
    obtain ⟨M114, e115, h⟩ := xbnd h
    refine xs_p (i := 385) (c := 1) (k := 4) (by decide +kernel) (by decide +kernel) (by decide +kernel) e115 rfl ?_
    refine xe_ldn (ins := .iload_n 2) (len := 1) (by decide +kernel) rfl rfl rfl rfl ?_
    cases h
    exact xe_ret_i (ty := .int) (by decide +kernel) rfl rfl ⟨rfl, rfl, hx2⟩
  · rw [if_neg c101] at h
    refine xe_alr (ins := .aload_n 0) (len := 1) (i := 0) (by decide +kernel) rfl rfl rfl rfl rfl ?_
    obtain ⟨v116, e117, h⟩ := xbnd h
    refine xs_gr (i := 50) (c := 11) (k := 5) (by decide +kernel) (by decide) (by decide +kernel) e117 rfl ?_
    refine xe_ldn (ins := .iload 4) (len := 2) (by decide +kernel) rfl rfl rfl rfl ?_
    obtain ⟨v118, e119, h⟩ := xbnd h
    refine xs_aald (by decide +kernel) hx4 e119 rfl ?_
    obtain ⟨v120, e121, h⟩ := xbnd h
    refine xs_gi (i := 382) (c := 1) (k := 3) (by decide +kernel) (by decide) (by decide +kernel) e121 rfl ?_
    refine xe_ldn (ins := .iload_n 1) (len := 1) (by decide +kernel) rfl rfl rfl rfl ?_
    refine xe_icmpne (off := 14) (t := 82) (by decide +kernel) (by decide) rfl (xq_gi_in e121) hx1 (fun c122 => ?_) (fun c122 => ?_)
    · rw [if_pos c122] at h
      refine xW_lv rfl (l := [(0, xR_ (x0)), (1, xI (x1)), (2, xI (x2)), (4, xI (x4))]) (xsb_of ⟨rfl, rfl, rfl, rfl, trivial⟩ (show [0, 1, 2, 4].Nodup by decide)) ?_
      exact k187_82  hr51 hx1 hx2 hx4 h
    · rw [if_neg c122] at h
      refine xe_alr (ins := .aload_n 0) (len := 1) (i := 0) (by decide +kernel) rfl rfl rfl rfl rfl ?_
      obtain ⟨v123, e124, h⟩ := xbnd h
      refine xs_gr (i := 50) (c := 11) (k := 5) (by decide +kernel) (by decide) (by decide +kernel) e124 rfl ?_
      refine xe_ldn (ins := .iload 4) (len := 2) (by decide +kernel) rfl rfl rfl rfl ?_
      obtain ⟨v125, e126, h⟩ := xbnd h
      refine xs_aald (by decide +kernel) hx4 e126 rfl ?_
      refine xe_iconst (n := -1) (by decide +kernel) rfl ?_
      obtain ⟨M127, e128, h⟩ := xbnd h
      refine xs_p (i := 382) (c := 1) (k := 3) (by decide +kernel) (by decide +kernel) (by decide +kernel) e128 rfl ?_
      refine xW_lv rfl (l := [(0, xR_ (x0)), (1, xI (x1)), (2, xI (x2)), (4, xI (x4))]) (xsb_of ⟨rfl, rfl, rfl, rfl, trivial⟩ (show [0, 1, 2, 4].Nodup by decide)) ?_
      exact k187_82  hr51 hx1 hx2 hx4 h
def f187_51   (f : Nat) : Nat → Nat → Int → Int → Int → xj_M → Option (Int × xj_M)
  | 0, _, _, _, _, _ => none
  | n + 1, x0, x1, x2, x4, M => f187_51b   (f187_51   f n) f x0 x1 x2 x4 M
theorem k187_51 {d f : Nat}     : ∀ {n : Nat} {x0 : Nat} {x1 : Int} {x2 : Int} {x4 : Int} {M : xj_M} {R : Int × xj_M}, xin x1 → xin x2 → xin x4 → f187_51   f n x0 x1 x2 x4 M = some R → xW (d + 2) (none, d + 2, none) xr_187 (51, [(0, xR_ x0), (1, xI x1), (2, xI x2), (4, xI x4)], [], M) (xQi R) := by
  intro n
  induction n with
  | zero => intros; rename_i h; cases h
  | succ n ih => intros; rename_i h; exact k187_51b   ih (by assumption) (by assumption) (by assumption) h
def f187  (f : Nat) (a0 : Nat) (a1 : Int) (a2 : Int) (M : xj_M) : Option (Int × xj_M) := ((xq_gr 11 5 (a0) M).bind fun v129 => ((xq_gi 11 6 (a0) M).bind fun v131 => ((xq_ar (v129) (v131) M).bind fun v133 => (if (a1) < 0 then f187_35   f  M else (if (4) ≤ (a1) then f187_35   f  M else ((xq_gi 11 6 (a0) M).bind fun v137 => (if (a1) = (v137) then f187_35   f  M else ((xq_is 1 (v133) M).bind fun _ => ((f6  f (v133) (a2) M).bind fun R142 => (if ¬ (R142.1) = 0 then ((xq_gr 11 5 (a0) R142.2).bind fun v145 => ((xq_ar (v145) (a1) R142.2).bind fun v147 => ((xq_is 1 (v147) R142.2).bind fun _ => ((f13  f (v147) (v133) (a2) R142.2).bind fun M151 => f187_51   f f (a0) (a1) (a2) (0) M151)))) else f187_35   f  R142.2))))))))))
theorem k187 {d f : Nat}   {a0 : Nat} {a1 : Int} {a2 : Int} {M : xj_M} {R : Int × xj_M} (ha1 : xin a1) (ha2 : xin a2) (h : f187  f a0 a1 a2 M = some R) : xT (d + 3) 187 [xR_ a0, xI a1, xI a2] M (xQi R) := by
  refine xT_m xr_187_e (X := (none, d + 2, none)) rfl (xa_1 (xR_cat _) (xa_1 (xI_cat _) (xa_1 (xI_cat _) xa_n))) (by decide) ?_
  unfold f187 at h
  refine xe_alr (ins := .aload_n 0) (len := 1) (i := 0) (by decide +kernel) rfl rfl rfl rfl rfl ?_
  obtain ⟨v129, e130, h⟩ := xbnd h
  refine xs_gr (i := 50) (c := 11) (k := 5) (by decide +kernel) (by decide) (by decide +kernel) e130 rfl ?_
  refine xe_alr (ins := .aload_n 0) (len := 1) (i := 0) (by decide +kernel) rfl rfl rfl rfl rfl ?_
  obtain ⟨v131, e132, h⟩ := xbnd h
  refine xs_gi (i := 132) (c := 11) (k := 6) (by decide +kernel) (by decide) (by decide +kernel) e132 rfl ?_
  obtain ⟨v133, e134, h⟩ := xbnd h
  refine xs_aald (by decide +kernel) (xq_gi_in e132) e134 rfl ?_
  refine xe_asr (ins := .astore_n 3) (len := 1) (i := 3) (by decide +kernel) rfl rfl rfl (by decide) (xk_k (show ¬ (0 : Nat) = 3 by decide) (Or.inl (show ¬ (0 + 1 : Nat) = 3 by decide)) (xk_k (show ¬ (1 : Nat) = 3 by decide) (Or.inl (show ¬ (1 + 1 : Nat) = 3 by decide)) (xk_k (show ¬ (2 : Nat) = 3 by decide) (Or.inr (xI_cat _)) xk_n))) rfl ?_
  refine xe_ldn (ins := .iload_n 1) (len := 1) (by decide +kernel) rfl rfl rfl rfl ?_
  refine xe_iflt (off := 24) (t := 35) (by decide +kernel) (by decide) rfl ha1 (fun c135 => ?_) (fun c135 => ?_)
  · rw [if_pos c135] at h
    refine xW_lv rfl (l := []) (xsb_of trivial (show [3, 0, 1, 2].Nodup by decide)) ?_
    exact k187_35    h
  · rw [if_neg c135] at h
    refine xe_ldn (ins := .iload_n 1) (len := 1) (by decide +kernel) rfl rfl rfl rfl ?_
    refine xe_iconst (n := 4) (by decide +kernel) rfl ?_
    refine xe_icmpge (off := 19) (t := 35) (by decide +kernel) (by decide) rfl ha1 (show xin (4) by decide) (fun c136 => ?_) (fun c136 => ?_)
    · rw [if_pos c136] at h
      refine xW_lv rfl (l := []) (xsb_of trivial (show [3, 0, 1, 2].Nodup by decide)) ?_
      exact k187_35    h
    · rw [if_neg c136] at h
      refine xe_ldn (ins := .iload_n 1) (len := 1) (by decide +kernel) rfl rfl rfl rfl ?_
      refine xe_alr (ins := .aload_n 0) (len := 1) (i := 0) (by decide +kernel) rfl rfl rfl rfl rfl ?_
      obtain ⟨v137, e138, h⟩ := xbnd h
      refine xs_gi (i := 132) (c := 11) (k := 6) (by decide +kernel) (by decide) (by decide +kernel) e138 rfl ?_
      refine xe_icmpeq (off := 11) (t := 35) (by decide +kernel) (by decide) rfl ha1 (xq_gi_in e138) (fun c139 => ?_) (fun c139 => ?_)
      · rw [if_pos c139] at h
        refine xW_lv rfl (l := []) (xsb_of trivial (show [3, 0, 1, 2].Nodup by decide)) ?_
        exact k187_35    h
      · rw [if_neg c139] at h
        refine xe_alr (ins := .aload_n 3) (len := 1) (i := 3) (by decide +kernel) rfl rfl rfl rfl rfl ?_
        refine xe_ldn (ins := .iload_n 2) (len := 1) (by decide +kernel) rfl rfl rfl rfl ?_
        obtain ⟨_, e141, h⟩ := xbnd h
        obtain ⟨R142, e140, h⟩ := xbnd h
        refine xs_cv (i := 371) (j := 6) (ar := [xI (a2)]) (rest := []) (r2 := xr_6) (by decide +kernel) (by decide +kernel) (by decide +kernel) xr_6_e rfl (by decide) (by decide) e141 ?_
        refine xc_i (k6 (d := d + 1)  ha2 e140) rfl (fun hi143 => ?_)
        refine xe_ifne (off := 5) (t := 37) (by decide +kernel) (by decide) rfl hi143 (fun c144 => ?_) (fun c144 => ?_)
        · rw [if_pos c144] at h
          refine xe_alr (ins := .aload_n 0) (len := 1) (i := 0) (by decide +kernel) rfl rfl rfl rfl rfl ?_
          obtain ⟨v145, e146, h⟩ := xbnd h
          refine xs_gr (i := 50) (c := 11) (k := 5) (by decide +kernel) (by decide) (by decide +kernel) e146 rfl ?_
          refine xe_ldn (ins := .iload_n 1) (len := 1) (by decide +kernel) rfl rfl rfl rfl ?_
          obtain ⟨v147, e148, h⟩ := xbnd h
          refine xs_aald (by decide +kernel) ha1 e148 rfl ?_
          refine xe_alr (ins := .aload_n 3) (len := 1) (i := 3) (by decide +kernel) rfl rfl rfl rfl rfl ?_
          refine xe_ldn (ins := .iload_n 2) (len := 1) (by decide +kernel) rfl rfl rfl rfl ?_
          obtain ⟨_, e150, h⟩ := xbnd h
          obtain ⟨M151, e149, h⟩ := xbnd h
          refine xs_cv (i := 388) (j := 13) (ar := [xI (a2), xR_ (v133)]) (rest := []) (r2 := xr_13) (by decide +kernel) (by decide +kernel) (by decide +kernel) xr_13_e rfl (by decide) (by decide) e150 ?_
          refine xc_v (k13 (d := d + 0)  ha2 e149) rfl ?_
          refine xe_iconst (n := 0) (by decide +kernel) rfl ?_
          refine xe_isr (ins := .istore 4) (len := 2) (i := 4) (by decide +kernel) rfl rfl rfl (by decide) (xk_k (show ¬ (3 : Nat) = 4 by decide) (Or.inr (xR_cat _)) (xk_k (show ¬ (0 : Nat) = 4 by decide) (Or.inl (show ¬ (0 + 1 : Nat) = 4 by decide)) (xk_k (show ¬ (1 : Nat) = 4 by decide) (Or.inl (show ¬ (1 + 1 : Nat) = 4 by decide)) (xk_k (show ¬ (2 : Nat) = 4 by decide) (Or.inl (show ¬ (2 + 1 : Nat) = 4 by decide)) xk_n)))) rfl ?_
          refine xW_lv rfl (l := [(0, xR_ (a0)), (1, xI (a1)), (2, xI (a2)), (4, xI (0))]) (xsb_of ⟨rfl, rfl, rfl, rfl, trivial⟩ (show [4, 3, 0, 1, 2].Nodup by decide)) ?_
          exact k187_51   ha1 ha2 (show xin (0) by decide) h
        · rw [if_neg c144] at h
          refine xW_lv rfl (l := []) (xsb_of trivial (show [3, 0, 1, 2].Nodup by decide)) ?_
          exact k187_35    h
-- ChangeHouse.meet
def xr_190 : xj_mR := (11, yX11_meet, cX11_meet, 9, (Option.some Jvm.ClassFile.FieldType.boolean), 3, false, (7, 205), (1, 1))
set_option maxRecDepth 20000 in
theorem xr_190_e : xj_row 190 = some xr_190 := rfl
def f190_97   (f : Nat) (x0 : Nat) (x5 : Int) (x6 : Int) (x7 : Int) (y0 : Nat) (M : xj_M) : Option (Int × xj_M) := ((xq_gr 11 14 (x0) M).bind fun v101 => ((xq_is 5 (y0) M).bind fun _ => ((f78  f (y0) (xshr (x7) (1)) (v101) M).bind fun M105 => ((xq_pi 11 15 (x0) (x5) M105).bind fun M107 => ((xq_pi 11 16 (x0) (x6) M107).bind fun M109 => (some (1, M109)))))))
theorem k190_97 {d f : Nat}     {x0 : Nat} {x5 : Int} {x6 : Int} {x7 : Int} {y0 : Nat} {M : xj_M} {R : Int × xj_M} (hx5 : xin x5) (hx6 : xin x6) (hx7 : xin x7) (h : f190_97   f x0 x5 x6 x7 y0 M = some R) : xW (d + 4) (none, d + 4, none) xr_190 (97, [(0, xR_ x0), (5, xI x5), (6, xI x6), (7, xI x7)], [xR_ y0], M) (xQi R) := by
  unfold f190_97 at h
  refine xe_asr (ins := .astore 8) (len := 2) (i := 8) (by decide +kernel) rfl rfl rfl (by decide) (xk_k (show ¬ (0 : Nat) = 8 by decide) (Or.inl (show ¬ (0 + 1 : Nat) = 8 by decide)) (xk_k (show ¬ (5 : Nat) = 8 by decide) (Or.inl (show ¬ (5 + 1 : Nat) = 8 by decide)) (xk_k (show ¬ (6 : Nat) = 8 by decide) (Or.inl (show ¬ (6 + 1 : Nat) = 8 by decide)) (xk_k (show ¬ (7 : Nat) = 8 by decide) (Or.inr (xI_cat _)) xk_n)))) rfl ?_
  refine xe_alr (ins := .aload 8) (len := 2) (i := 8) (by decide +kernel) rfl rfl rfl rfl rfl ?_
  refine xe_ldn (ins := .iload 7) (len := 2) (by decide +kernel) rfl rfl rfl rfl ?_
  refine xe_iconst (n := 1) (by decide +kernel) rfl ?_
  refine xe_ishr (by decide +kernel) rfl ?_
  refine xe_alr (ins := .aload_n 0) (len := 1) (i := 0) (by decide +kernel) rfl rfl rfl rfl rfl ?_
  obtain ⟨v101, e102, h⟩ := xbnd h
  refine xs_gr (i := 70) (c := 11) (k := 14) (by decide +kernel) (by decide) (by decide +kernel) e102 rfl ?_
  obtain ⟨_, e104, h⟩ := xbnd h
  obtain ⟨M105, e103, h⟩ := xbnd h
  refine xs_cv (i := 411) (j := 78) (ar := [xR_ (v101), xI (xshr (x7) (1))]) (rest := []) (r2 := xr_78) (by decide +kernel) (by decide +kernel) (by decide +kernel) xr_78_e rfl (by decide) (by decide) e104 ?_
  refine xc_v (k78 (d := d + 3)  (xin_of _) e103) rfl ?_
  refine xe_alr (ins := .aload_n 0) (len := 1) (i := 0) (by decide +kernel) rfl rfl rfl rfl rfl ?_
  refine xe_ldn (ins := .iload 5) (len := 2) (by decide +kernel) rfl rfl rfl rfl ?_
  obtain ⟨M107, e108, h⟩ := xbnd h
  refine xs_p (i := 74) (c := 11) (k := 15) (by decide +kernel) (by decide +kernel) (by decide +kernel) e108 rfl ?_
  refine xe_alr (ins := .aload_n 0) (len := 1) (i := 0) (by decide +kernel) rfl rfl rfl rfl rfl ?_
  refine xe_ldn (ins := .iload 6) (len := 2) (by decide +kernel) rfl rfl rfl rfl ?_
  obtain ⟨M109, e110, h⟩ := xbnd h
  refine xs_p (i := 415) (c := 11) (k := 16) (by decide +kernel) (by decide +kernel) (by decide +kernel) e110 rfl ?_
  refine xe_iconst (n := 1) (by decide +kernel) rfl ?_
  cases h
  exact xe_ret_i (ty := .boolean) (by decide +kernel) rfl (by decide) ⟨rfl, rfl, (show xin (1) by decide)⟩
def f190_64  (r9 : Nat → Nat → Nat → Nat → Nat → Int → xj_M → Option (Int × xj_M)) (f : Nat) (x0 : Nat) (x1 : Nat) (x2 : Nat) (x3 : Nat) (x4 : Nat) (x5 : Int) (x6 : Int) (y0 : Int) (M : xj_M) : Option (Int × xj_M) := (if (y0) = (-1) then r9 (x0) (x1) (x2) (x3) (x4) (xwr ((x5) + (1))) M else (if ¬ (xand (y0) (1)) = (1) then ((xq_gr 2 1 (x3) M).bind fun v113 => ((xq_ar (v113) (x5) M).bind fun v115 => f190_97   f (x0) (x5) (x6) (y0) (v115) M)) else ((xq_gr 2 1 (x2) M).bind fun v117 => ((xq_ar (v117) (x5) M).bind fun v119 => f190_97   f (x0) (x5) (x6) (y0) (v119) M))))
theorem k190_64 {d f : Nat}  {r9 : Nat → Nat → Nat → Nat → Nat → Int → xj_M → Option (Int × xj_M)}  (hr9 : ∀ {x0 : Nat} {x1 : Nat} {x2 : Nat} {x3 : Nat} {x4 : Nat} {x5 : Int} {M : xj_M} {R : Int × xj_M}, xin x5 → r9 x0 x1 x2 x3 x4 x5 M = some R → xW (d + 4) (none, d + 4, none) xr_190 (9, [(0, xR_ x0), (1, xR_ x1), (2, xR_ x2), (3, xR_ x3), (4, xR_ x4), (5, xI x5)], [], M) (xQi R)) {x0 : Nat} {x1 : Nat} {x2 : Nat} {x3 : Nat} {x4 : Nat} {x5 : Int} {x6 : Int} {y0 : Int} {M : xj_M} {R : Int × xj_M} (hx5 : xin x5) (hx6 : xin x6) (hy0 : xin y0) (h : f190_64  r9 f x0 x1 x2 x3 x4 x5 x6 y0 M = some R) : xW (d + 4) (none, d + 4, none) xr_190 (64, [(0, xR_ x0), (1, xR_ x1), (2, xR_ x2), (3, xR_ x3), (4, xR_ x4), (5, xI x5), (6, xI x6)], [xI y0], M) (xQi R) := by
  unfold f190_64 at h
  refine xe_isr (ins := .istore 7) (len := 2) (i := 7) (by decide +kernel) rfl rfl rfl (by decide) (xk_k (show ¬ (0 : Nat) = 7 by decide) (Or.inl (show ¬ (0 + 1 : Nat) = 7 by decide)) (xk_k (show ¬ (1 : Nat) = 7 by decide) (Or.inl (show ¬ (1 + 1 : Nat) = 7 by decide)) (xk_k (show ¬ (2 : Nat) = 7 by decide) (Or.inl (show ¬ (2 + 1 : Nat) = 7 by decide)) (xk_k (show ¬ (3 : Nat) = 7 by decide) (Or.inl (show ¬ (3 + 1 : Nat) = 7 by decide)) (xk_k (show ¬ (4 : Nat) = 7 by decide) (Or.inl (show ¬ (4 + 1 : Nat) = 7 by decide)) (xk_k (show ¬ (5 : Nat) = 7 by decide) (Or.inl (show ¬ (5 + 1 : Nat) = 7 by decide)) (xk_k (show ¬ (6 : Nat) = 7 by decide) (Or.inr (xI_cat _)) xk_n))))))) rfl ?_
  refine xe_ldn (ins := .iload 7) (len := 2) (by decide +kernel) rfl rfl rfl rfl ?_
  refine xe_iconst (n := -1) (by decide +kernel) rfl ?_
  refine xe_icmpeq (off := 57) (t := 126) (by decide +kernel) (by decide) rfl hy0 (show xin (-1) by decide) (fun c111 => ?_) (fun c111 => ?_)
  · rw [if_pos c111] at h
    refine xe_iincr (i := 5) (n := 1) (by decide +kernel) (by decide) rfl (xk_k (show ¬ (7 : Nat) = 5 by decide) (Or.inl (show ¬ (7 + 1 : Nat) = 5 by decide)) (xk_k (show ¬ (0 : Nat) = 5 by decide) (Or.inl (show ¬ (0 + 1 : Nat) = 5 by decide)) (xk_k (show ¬ (1 : Nat) = 5 by decide) (Or.inl (show ¬ (1 + 1 : Nat) = 5 by decide)) (xk_k (show ¬ (2 : Nat) = 5 by decide) (Or.inl (show ¬ (2 + 1 : Nat) = 5 by decide)) (xk_k (show ¬ (3 : Nat) = 5 by decide) (Or.inl (show ¬ (3 + 1 : Nat) = 5 by decide)) (xk_k (show ¬ (4 : Nat) = 5 by decide) (Or.inr (xR_cat _)) (xk_d rfl (xk_k (show ¬ (6 : Nat) = 5 by decide) (Or.inl (show ¬ (6 + 1 : Nat) = 5 by decide)) xk_n)))))))) rfl ?_
    refine xe_goto (off := -120) (nx := 9) (by decide +kernel) (by decide) ?_
    refine xW_lv rfl (l := [(0, xR_ (x0)), (1, xR_ (x1)), (2, xR_ (x2)), (3, xR_ (x3)), (4, xR_ (x4)), (5, xI (xwr ((x5) + (1))))]) (xsb_of ⟨rfl, rfl, rfl, rfl, rfl, rfl, trivial⟩ (show [5, 7, 0, 1, 2, 3, 4, 6].Nodup by decide)) ?_
    exact hr9 (xin_wr _) h
  · rw [if_neg c111] at h
    refine xe_ldn (ins := .iload 7) (len := 2) (by decide +kernel) rfl rfl rfl rfl ?_
    refine xe_iconst (n := 1) (by decide +kernel) rfl ?_
    refine xe_iand (by decide +kernel) rfl ?_
    refine xe_iconst (n := 1) (by decide +kernel) rfl ?_
    refine xe_icmpne (off := 13) (t := 90) (by decide +kernel) (by decide) rfl (xin_of _) (show xin (1) by decide) (fun c112 => ?_) (fun c112 => ?_)
    · rw [if_pos c112] at h
      refine xe_alr (ins := .aload_n 3) (len := 1) (i := 3) (by decide +kernel) rfl rfl rfl rfl rfl ?_
      obtain ⟨v113, e114, h⟩ := xbnd h
      refine xs_gr (i := 279) (c := 2) (k := 1) (by decide +kernel) (by decide) (by decide +kernel) e114 rfl ?_
      refine xe_ldn (ins := .iload 5) (len := 2) (by decide +kernel) rfl rfl rfl rfl ?_
      obtain ⟨v115, e116, h⟩ := xbnd h
      refine xs_aald (by decide +kernel) hx5 e116 rfl ?_
      refine xW_lv rfl (l := [(0, xR_ (x0)), (5, xI (x5)), (6, xI (x6)), (7, xI (y0))]) (xsb_of ⟨rfl, rfl, rfl, rfl, trivial⟩ (show [7, 0, 1, 2, 3, 4, 5, 6].Nodup by decide)) ?_
      exact k190_97   hx5 hx6 hy0 h
    · rw [if_neg c112] at h
      refine xe_alr (ins := .aload_n 2) (len := 1) (i := 2) (by decide +kernel) rfl rfl rfl rfl rfl ?_
      obtain ⟨v117, e118, h⟩ := xbnd h
      refine xs_gr (i := 279) (c := 2) (k := 1) (by decide +kernel) (by decide) (by decide +kernel) e118 rfl ?_
      refine xe_ldn (ins := .iload 5) (len := 2) (by decide +kernel) rfl rfl rfl rfl ?_
      obtain ⟨v119, e120, h⟩ := xbnd h
      refine xs_aald (by decide +kernel) hx5 e120 rfl ?_
      refine xe_goto (off := 10) (nx := 97) (by decide +kernel) (by decide) ?_
      refine xW_lv rfl (l := [(0, xR_ (x0)), (5, xI (x5)), (6, xI (x6)), (7, xI (y0))]) (xsb_of ⟨rfl, rfl, rfl, rfl, trivial⟩ (show [7, 0, 1, 2, 3, 4, 5, 6].Nodup by decide)) ?_
      exact k190_97   hx5 hx6 hy0 h
def f190_9b  (r9 : Nat → Nat → Nat → Nat → Nat → Int → xj_M → Option (Int × xj_M)) (f : Nat) (x0 : Nat) (x1 : Nat) (x2 : Nat) (x3 : Nat) (x4 : Nat) (x5 : Int) (M : xj_M) : Option (Int × xj_M) := ((xq_gi 3 1 (x4) M).bind fun v121 => (if (v121) ≤ (x5) then (some (0, M)) else ((xq_gr 3 4 (x4) M).bind fun v124 => ((xq_ai 3 (v124) (x5) M).bind fun v126 => (if (v126) ≤ 0 then f190_64  r9 f (x0) (x1) (x2) (x3) (x4) (x5) (v126) (-1) M else ((xq_gr 2 1 (x2) M).bind fun v129 => ((xq_ar (v129) (x5) M).bind fun v131 => ((xq_gr 2 1 (x1) M).bind fun v133 => ((xq_ar (v133) (x5) M).bind fun v135 => ((xq_gr 2 1 (x3) M).bind fun v137 => ((xq_ar (v137) (x5) M).bind fun v139 => ((xq_is 5 (v131) M).bind fun _ => ((f85  f (v131) (v135) (v139) (v126) M).bind fun R143 => f190_64  r9 f (x0) (x1) (x2) (x3) (x4) (x5) (v126) (R143.1) R143.2)))))))))))))
theorem k190_9b {d f : Nat}  {r9 : Nat → Nat → Nat → Nat → Nat → Int → xj_M → Option (Int × xj_M)}  (hr9 : ∀ {x0 : Nat} {x1 : Nat} {x2 : Nat} {x3 : Nat} {x4 : Nat} {x5 : Int} {M : xj_M} {R : Int × xj_M}, xin x5 → r9 x0 x1 x2 x3 x4 x5 M = some R → xW (d + 4) (none, d + 4, none) xr_190 (9, [(0, xR_ x0), (1, xR_ x1), (2, xR_ x2), (3, xR_ x3), (4, xR_ x4), (5, xI x5)], [], M) (xQi R)) {x0 : Nat} {x1 : Nat} {x2 : Nat} {x3 : Nat} {x4 : Nat} {x5 : Int} {M : xj_M} {R : Int × xj_M} (hx5 : xin x5) (h : f190_9b  r9 f x0 x1 x2 x3 x4 x5 M = some R) : xW (d + 4) (none, d + 4, none) xr_190 (9, [(0, xR_ x0), (1, xR_ x1), (2, xR_ x2), (3, xR_ x3), (4, xR_ x4), (5, xI x5)], [], M) (xQi R) := by
  unfold f190_9b at h
  refine xe_ldn (ins := .iload 5) (len := 2) (by decide +kernel) rfl rfl rfl rfl ?_
  refine xe_alr (ins := .aload 4) (len := 2) (i := 4) (by decide +kernel) rfl rfl rfl rfl rfl ?_
  obtain ⟨v121, e122, h⟩ := xbnd h
  refine xs_gi (i := 253) (c := 3) (k := 1) (by decide +kernel) (by decide) (by decide +kernel) e122 rfl ?_
  refine xe_icmpge (off := 116) (t := 132) (by decide +kernel) (by decide) rfl hx5 (xq_gi_in e122) (fun c123 => ?_) (fun c123 => ?_)
  · rw [if_pos c123] at h
    refine xe_iconst (n := 0) (by decide +kernel) rfl ?_
    cases h
    exact xe_ret_i (ty := .boolean) (by decide +kernel) rfl (by decide) ⟨rfl, rfl, (show xin (0) by decide)⟩
  · rw [if_neg c123] at h
    refine xe_alr (ins := .aload 4) (len := 2) (i := 4) (by decide +kernel) rfl rfl rfl rfl rfl ?_
    obtain ⟨v124, e125, h⟩ := xbnd h
    refine xs_gr (i := 265) (c := 3) (k := 4) (by decide +kernel) (by decide) (by decide +kernel) e125 rfl ?_
    refine xe_ldn (ins := .iload 5) (len := 2) (by decide +kernel) rfl rfl rfl rfl ?_
    obtain ⟨v126, e127, h⟩ := xbnd h
    refine xs_iald rfl (by decide +kernel) hx5 e127 rfl ?_
    refine xe_isr (ins := .istore 6) (len := 2) (i := 6) (by decide +kernel) rfl rfl rfl (by decide) (xk_k (show ¬ (0 : Nat) = 6 by decide) (Or.inl (show ¬ (0 + 1 : Nat) = 6 by decide)) (xk_k (show ¬ (1 : Nat) = 6 by decide) (Or.inl (show ¬ (1 + 1 : Nat) = 6 by decide)) (xk_k (show ¬ (2 : Nat) = 6 by decide) (Or.inl (show ¬ (2 + 1 : Nat) = 6 by decide)) (xk_k (show ¬ (3 : Nat) = 6 by decide) (Or.inl (show ¬ (3 + 1 : Nat) = 6 by decide)) (xk_k (show ¬ (4 : Nat) = 6 by decide) (Or.inl (show ¬ (4 + 1 : Nat) = 6 by decide)) (xk_k (show ¬ (5 : Nat) = 6 by decide) (Or.inr (xI_cat _)) xk_n)))))) rfl ?_
    refine xe_ldn (ins := .iload 6) (len := 2) (by decide +kernel) rfl rfl rfl rfl ?_
    refine xe_ifle (off := 32) (t := 63) (by decide +kernel) (by decide) rfl (xq_ai_in e127) (fun c128 => ?_) (fun c128 => ?_)
    · rw [if_pos c128] at h
      refine xe_iconst (n := -1) (by decide +kernel) rfl ?_
      refine xW_lv rfl (l := [(0, xR_ (x0)), (1, xR_ (x1)), (2, xR_ (x2)), (3, xR_ (x3)), (4, xR_ (x4)), (5, xI (x5)), (6, xI (v126))]) (xsb_of ⟨rfl, rfl, rfl, rfl, rfl, rfl, rfl, trivial⟩ (show [6, 0, 1, 2, 3, 4, 5].Nodup by decide)) ?_
      exact k190_64  hr9 hx5 (xq_ai_in e127) (show xin (-1) by decide) h
    · rw [if_neg c128] at h
      refine xe_alr (ins := .aload_n 2) (len := 1) (i := 2) (by decide +kernel) rfl rfl rfl rfl rfl ?_
      obtain ⟨v129, e130, h⟩ := xbnd h
      refine xs_gr (i := 279) (c := 2) (k := 1) (by decide +kernel) (by decide) (by decide +kernel) e130 rfl ?_
      refine xe_ldn (ins := .iload 5) (len := 2) (by decide +kernel) rfl rfl rfl rfl ?_
      obtain ⟨v131, e132, h⟩ := xbnd h
      refine xs_aald (by decide +kernel) hx5 e132 rfl ?_
      refine xe_alr (ins := .aload_n 1) (len := 1) (i := 1) (by decide +kernel) rfl rfl rfl rfl rfl ?_
      obtain ⟨v133, e134, h⟩ := xbnd h
      refine xs_gr (i := 279) (c := 2) (k := 1) (by decide +kernel) (by decide) (by decide +kernel) e134 rfl ?_
      refine xe_ldn (ins := .iload 5) (len := 2) (by decide +kernel) rfl rfl rfl rfl ?_
      obtain ⟨v135, e136, h⟩ := xbnd h
      refine xs_aald (by decide +kernel) hx5 e136 rfl ?_
      refine xe_alr (ins := .aload_n 3) (len := 1) (i := 3) (by decide +kernel) rfl rfl rfl rfl rfl ?_
      obtain ⟨v137, e138, h⟩ := xbnd h
      refine xs_gr (i := 279) (c := 2) (k := 1) (by decide +kernel) (by decide) (by decide +kernel) e138 rfl ?_
      refine xe_ldn (ins := .iload 5) (len := 2) (by decide +kernel) rfl rfl rfl rfl ?_
      obtain ⟨v139, e140, h⟩ := xbnd h
      refine xs_aald (by decide +kernel) hx5 e140 rfl ?_
      refine xe_ldn (ins := .iload 6) (len := 2) (by decide +kernel) rfl rfl rfl rfl ?_
      obtain ⟨_, e142, h⟩ := xbnd h
      obtain ⟨R143, e141, h⟩ := xbnd h
      refine xs_cv (i := 407) (j := 85) (ar := [xI (v126), xR_ (v139), xR_ (v135)]) (rest := []) (r2 := xr_85) (by decide +kernel) (by decide +kernel) (by decide +kernel) xr_85_e rfl (by decide) (by decide) e142 ?_
      refine xc_i (k85 (d := d + 0)  (xq_ai_in e127) e141) rfl (fun hi144 => ?_)
      refine xe_goto (off := 4) (nx := 64) (by decide +kernel) (by decide) ?_
      refine xW_lv rfl (l := [(0, xR_ (x0)), (1, xR_ (x1)), (2, xR_ (x2)), (3, xR_ (x3)), (4, xR_ (x4)), (5, xI (x5)), (6, xI (v126))]) (xsb_of ⟨rfl, rfl, rfl, rfl, rfl, rfl, rfl, trivial⟩ (show [6, 0, 1, 2, 3, 4, 5].Nodup by decide)) ?_
      exact k190_64  hr9 hx5 (xq_ai_in e127) hi144 h
def f190_9   (f : Nat) : Nat → Nat → Nat → Nat → Nat → Nat → Int → xj_M → Option (Int × xj_M)
  | 0, _, _, _, _, _, _, _ => none
  | n + 1, x0, x1, x2, x3, x4, x5, M => f190_9b   (f190_9   f n) f x0 x1 x2 x3 x4 x5 M
theorem k190_9 {d f : Nat}     : ∀ {n : Nat} {x0 : Nat} {x1 : Nat} {x2 : Nat} {x3 : Nat} {x4 : Nat} {x5 : Int} {M : xj_M} {R : Int × xj_M}, xin x5 → f190_9   f n x0 x1 x2 x3 x4 x5 M = some R → xW (d + 4) (none, d + 4, none) xr_190 (9, [(0, xR_ x0), (1, xR_ x1), (2, xR_ x2), (3, xR_ x3), (4, xR_ x4), (5, xI x5)], [], M) (xQi R) := by
  intro n
  induction n with
  | zero => intros; rename_i h; cases h
  | succ n ih => intros; rename_i h; exact k190_9b   ih (by assumption) h
def f190  (f : Nat) (a0 : Nat) (a1 : Nat) (a2 : Nat) (a3 : Nat) (M : xj_M) : Option (Int × xj_M) := ((xq_gr 2 0 (a3) M).bind fun v145 => f190_9   f f (a0) (a1) (a2) (a3) (v145) (0) M)
theorem k190 {d f : Nat}   {a0 : Nat} {a1 : Nat} {a2 : Nat} {a3 : Nat} {M : xj_M} {R : Int × xj_M}  (h : f190  f a0 a1 a2 a3 M = some R) : xT (d + 5) 190 [xR_ a0, xR_ a1, xR_ a2, xR_ a3] M (xQi R) := by
  refine xT_m xr_190_e (X := (none, d + 4, none)) rfl (xa_1 (xR_cat _) (xa_1 (xR_cat _) (xa_1 (xR_cat _) (xa_1 (xR_cat _) xa_n)))) (by decide) ?_
  unfold f190 at h
  refine xe_alr (ins := .aload_n 3) (len := 1) (i := 3) (by decide +kernel) rfl rfl rfl rfl rfl ?_
  obtain ⟨v145, e146, h⟩ := xbnd h
  refine xs_gr (i := 149) (c := 2) (k := 0) (by decide +kernel) (by decide) (by decide +kernel) e146 rfl ?_
  refine xe_asr (ins := .astore 4) (len := 2) (i := 4) (by decide +kernel) rfl rfl rfl (by decide) (xk_k (show ¬ (0 : Nat) = 4 by decide) (Or.inl (show ¬ (0 + 1 : Nat) = 4 by decide)) (xk_k (show ¬ (1 : Nat) = 4 by decide) (Or.inl (show ¬ (1 + 1 : Nat) = 4 by decide)) (xk_k (show ¬ (2 : Nat) = 4 by decide) (Or.inl (show ¬ (2 + 1 : Nat) = 4 by decide)) (xk_k (show ¬ (3 : Nat) = 4 by decide) (Or.inr (xR_cat _)) xk_n)))) rfl ?_
  refine xe_iconst (n := 0) (by decide +kernel) rfl ?_
  refine xe_isr (ins := .istore 5) (len := 2) (i := 5) (by decide +kernel) rfl rfl rfl (by decide) (xk_k (show ¬ (4 : Nat) = 5 by decide) (Or.inr (xR_cat _)) (xk_k (show ¬ (0 : Nat) = 5 by decide) (Or.inl (show ¬ (0 + 1 : Nat) = 5 by decide)) (xk_k (show ¬ (1 : Nat) = 5 by decide) (Or.inl (show ¬ (1 + 1 : Nat) = 5 by decide)) (xk_k (show ¬ (2 : Nat) = 5 by decide) (Or.inl (show ¬ (2 + 1 : Nat) = 5 by decide)) (xk_k (show ¬ (3 : Nat) = 5 by decide) (Or.inl (show ¬ (3 + 1 : Nat) = 5 by decide)) xk_n))))) rfl ?_
  refine xW_lv rfl (l := [(0, xR_ (a0)), (1, xR_ (a1)), (2, xR_ (a2)), (3, xR_ (a3)), (4, xR_ (v145)), (5, xI (0))]) (xsb_of ⟨rfl, rfl, rfl, rfl, rfl, rfl, trivial⟩ (show [5, 4, 0, 1, 2, 3].Nodup by decide)) ?_
  exact k190_9   (show xin (0) by decide) h
-- ChangeHouseLaw.predicate
def xr_1004 : xj_mR := (16, yL_predicate, cL_predicate, 5, (Option.some Jvm.ClassFile.FieldType.int), 4, false, (7, 231), (1, 0))
set_option maxRecDepth 20000 in
theorem xr_1004_e : xj_row 1004 = some xr_1004 := rfl
def f1004  (f : Nat) (a0 : Nat) (a1 : Int) (a2 : Int) (a3 : Nat) (M : xj_M) : Option (Int × xj_M) := ((xq_is 11 (a0) M).bind fun _ => ((f175 f (a0) (a1) (a2) M).bind fun R103 => xhd R103 1 ((some (1, R103.2))) (fun v104 => ((xq_sl (a3) (0) (v104) R103.2).bind fun M107 => (some (0, M107))))))
theorem k1004 {d f : Nat}   {a0 : Nat} {a1 : Int} {a2 : Int} {a3 : Nat} {M : xj_M} {R : Int × xj_M} (ha1 : xin a1) (ha2 : xin a2) (h : f1004  f a0 a1 a2 a3 M = some R) : xT (d + 7) 1004 [xR_ a0, xI a1, xI a2, xR_ a3] M (xQi R) := by
  refine xT_m xr_1004_e (X := (some (0, 10, 13, 13, 1), d + 6, none)) rfl (xa_1 (xR_cat _) (xa_1 (xI_cat _) (xa_1 (xI_cat _) (xa_1 (xR_cat _) xa_n)))) (by decide) ?_
  unfold f1004 at h
  refine xe_alr (ins := .aload_n 3) (len := 1) (i := 3) (by decide +kernel) rfl rfl rfl rfl rfl ?_
  refine xe_iconst (n := 0) (by decide +kernel) rfl ?_
  refine xe_alr (ins := .aload_n 0) (len := 1) (i := 0) (by decide +kernel) rfl rfl rfl rfl rfl ?_
  refine xe_ldn (ins := .iload_n 1) (len := 1) (by decide +kernel) rfl rfl rfl rfl ?_
  refine xe_ldn (ins := .iload_n 2) (len := 1) (by decide +kernel) rfl rfl rfl rfl ?_
  obtain ⟨_, e102, h⟩ := xbnd h
  obtain ⟨R103, e101, h⟩ := xbnd h
  refine xs2_cv (kd := 0) (jj := 175) (by decide) (i := 7) (j := 175) (ar := [xI (a2), xI (a1)]) (rest := [xI (0), xR_ (a3)]) (r2 := xr_175) (by decide +kernel) (by decide +kernel) (by decide +kernel) xr_175_e rfl (by decide) (by simp only [List.map_cons, List.map_nil, List.sum_cons, List.sum_nil, xR_cat, xI_cat, xZ_cat]; decide) e102 ?_
  refine xct_i (k175 (d := d + 0) ha1 ha2 e101) rfl (fun e1 g105 => ?_) (fun v104 g105 hi106 => ?_)
  · obtain ⟨e2, h⟩ := xhd_l g105 h
    refine xK_han2 (t := (0, 10, 13, 13, 1)) (i := 4) rfl ⟨by decide, by decide, e2⟩ (by decide +kernel) (by decide) (xk_k (show ¬ (0 : Nat) = 4 by decide) (Or.inl (show ¬ (0 + 1 : Nat) = 4 by decide)) (xk_k (show ¬ (1 : Nat) = 4 by decide) (Or.inl (show ¬ (1 + 1 : Nat) = 4 by decide)) (xk_k (show ¬ (2 : Nat) = 4 by decide) (Or.inl (show ¬ (2 + 1 : Nat) = 4 by decide)) (xk_k (show ¬ (3 : Nat) = 4 by decide) (Or.inr (xR_cat _)) xk_n)))) ?_
    refine xe_iconst (n := 1) (by decide +kernel) rfl ?_
    cases h
    exact xe_ret_i (ty := .int) (by decide +kernel) rfl rfl ⟨rfl, rfl, (show xin (1) by decide)⟩
  · rw [xhd_r g105] at h
    refine xe_i2l (by decide +kernel) rfl hi106 ?_
    obtain ⟨M107, e108, h⟩ := xbnd h
    refine xs_last (by decide +kernel) (show xin (0) by decide) e108 rfl ?_
    refine xe_goto (off := 7) (nx := 17) (by decide +kernel) (by decide) ?_
    refine xe_iconst (n := 0) (by decide +kernel) rfl ?_
    cases h
    exact xe_ret_i (ty := .int) (by decide +kernel) rfl rfl ⟨rfl, rfl, (show xin (0) by decide)⟩
-- ChangeHouseLaw.edit
def xr_1006 : xj_mR := (16, yL_edit, cL_edit, 5, (Option.some Jvm.ClassFile.FieldType.int), 4, false, (8, 26), (1, 0))
set_option maxRecDepth 20000 in
theorem xr_1006_e : xj_row 1006 = some xr_1006 := rfl
def f1006  (f : Nat) (a0 : Nat) (a1 : Int) (a2 : Int) (a3 : Nat) (M : xj_M) : Option (Int × xj_M) := ((xq_is 11 (a0) M).bind fun _ => ((f178 f (a0) (a1) (a2) M).bind fun R103 => xhd R103 1 ((some (1, R103.2))) (fun v104 => ((xq_sl (a3) (0) (v104) R103.2).bind fun M107 => (some (0, M107))))))
theorem k1006 {d f : Nat}   {a0 : Nat} {a1 : Int} {a2 : Int} {a3 : Nat} {M : xj_M} {R : Int × xj_M} (ha1 : xin a1) (ha2 : xin a2) (h : f1006  f a0 a1 a2 a3 M = some R) : xT (d + 7) 1006 [xR_ a0, xI a1, xI a2, xR_ a3] M (xQi R) := by
  refine xT_m xr_1006_e (X := (some (0, 9, 12, 13, 1), d + 6, none)) rfl (xa_1 (xR_cat _) (xa_1 (xI_cat _) (xa_1 (xI_cat _) (xa_1 (xR_cat _) xa_n)))) (by decide) ?_
  unfold f1006 at h
  refine xe_alr (ins := .aload_n 3) (len := 1) (i := 3) (by decide +kernel) rfl rfl rfl rfl rfl ?_
  refine xe_iconst (n := 0) (by decide +kernel) rfl ?_
  refine xe_alr (ins := .aload_n 0) (len := 1) (i := 0) (by decide +kernel) rfl rfl rfl rfl rfl ?_
  refine xe_ldn (ins := .iload_n 1) (len := 1) (by decide +kernel) rfl rfl rfl rfl ?_
  refine xe_ldn (ins := .iload_n 2) (len := 1) (by decide +kernel) rfl rfl rfl rfl ?_
  obtain ⟨_, e102, h⟩ := xbnd h
  obtain ⟨R103, e101, h⟩ := xbnd h
  refine xs2_cv (kd := 0) (jj := 178) (by decide) (i := 19) (j := 178) (ar := [xI (a2), xI (a1)]) (rest := [xI (0), xR_ (a3)]) (r2 := xr_178) (by decide +kernel) (by decide +kernel) (by decide +kernel) xr_178_e rfl (by decide) (by simp only [List.map_cons, List.map_nil, List.sum_cons, List.sum_nil, xR_cat, xI_cat, xZ_cat]; decide) e102 ?_
  refine xct_l (k178 (d := d + 0) ha1 ha2 e101) rfl (fun e1 g105 => ?_) (fun v104 g105 hi106 => ?_)
  · obtain ⟨e2, h⟩ := xhd_l g105 h
    refine xK_han2 (t := (0, 9, 12, 13, 1)) (i := 4) rfl ⟨by decide, by decide, e2⟩ (by decide +kernel) (by decide) (xk_k (show ¬ (0 : Nat) = 4 by decide) (Or.inl (show ¬ (0 + 1 : Nat) = 4 by decide)) (xk_k (show ¬ (1 : Nat) = 4 by decide) (Or.inl (show ¬ (1 + 1 : Nat) = 4 by decide)) (xk_k (show ¬ (2 : Nat) = 4 by decide) (Or.inl (show ¬ (2 + 1 : Nat) = 4 by decide)) (xk_k (show ¬ (3 : Nat) = 4 by decide) (Or.inr (xR_cat _)) xk_n)))) ?_
    refine xe_iconst (n := 1) (by decide +kernel) rfl ?_
    cases h
    exact xe_ret_i (ty := .int) (by decide +kernel) rfl rfl ⟨rfl, rfl, (show xin (1) by decide)⟩
  · rw [xhd_r g105] at h
    obtain ⟨M107, e108, h⟩ := xbnd h
    refine xs_last (by decide +kernel) (show xin (0) by decide) e108 rfl ?_
    refine xe_goto (off := 7) (nx := 16) (by decide +kernel) (by decide) ?_
    refine xe_iconst (n := 0) (by decide +kernel) rfl ?_
    cases h
    exact xe_ret_i (ty := .int) (by decide +kernel) rfl rfl ⟨rfl, rfl, (show xin (0) by decide)⟩
-- ChangeHouse$Formula.<init>
def xr_0 : xj_mR := (0, yX0_init, cX0_init, 5, (Option.none : Option Jvm.ClassFile.FieldType), 2, true, (6, 31), (1, 28))
set_option maxRecDepth 20000 in
theorem xr_0_e : xj_row 0 = some xr_0 := rfl
def f0_100  (r16 : Nat → Nat → Nat → Int → xj_M → Option (xj_M)) (f : Nat) (x0 : Nat) (x1 : Nat) (x2 : Nat) (x3 : Int) (M : xj_M) : Option (xj_M) := r16 (x0) (x1) (x2) (xwr ((x3) + (1))) M
theorem k0_100 {d f : Nat}  {r16 : Nat → Nat → Nat → Int → xj_M → Option (xj_M)}  (hr16 : ∀ {x0 : Nat} {x1 : Nat} {x2 : Nat} {x3 : Int} {M : xj_M} {R : xj_M}, xin x3 → r16 x0 x1 x2 x3 M = some R → xW (d + 2) (none, d + 2, none) xr_0 (16, [(0, xR_ x0), (1, xR_ x1), (2, xR_ x2), (3, xI x3)], [], M) (xQv R)) {x0 : Nat} {x1 : Nat} {x2 : Nat} {x3 : Int} {M : xj_M} {R : xj_M} (hx3 : xin x3) (h : f0_100  r16 f x0 x1 x2 x3 M = some R) : xW (d + 2) (none, d + 2, none) xr_0 (100, [(0, xR_ x0), (1, xR_ x1), (2, xR_ x2), (3, xI x3)], [], M) (xQv R) := by
  unfold f0_100 at h
  refine xe_iincr (i := 3) (n := 1) (by decide +kernel) (by decide) rfl (xk_k (show ¬ (0 : Nat) = 3 by decide) (Or.inl (show ¬ (0 + 1 : Nat) = 3 by decide)) (xk_k (show ¬ (1 : Nat) = 3 by decide) (Or.inl (show ¬ (1 + 1 : Nat) = 3 by decide)) (xk_k (show ¬ (2 : Nat) = 3 by decide) (Or.inr (xR_cat _)) (xk_d rfl xk_n)))) rfl ?_
  refine xe_goto (off := -87) (nx := 16) (by decide +kernel) (by decide) ?_
  refine xW_lv rfl (l := [(0, xR_ (x0)), (1, xR_ (x1)), (2, xR_ (x2)), (3, xI (xwr ((x3) + (1))))]) (xsb_of ⟨rfl, rfl, rfl, rfl, trivial⟩ (show [3, 0, 1, 2].Nodup by decide)) ?_
  exact hr16 (xin_wr _) h
def f0_60  (r16 : Nat → Nat → Nat → Int → xj_M → Option (xj_M)) (f : Nat) (x0 : Nat) (x1 : Nat) (x2 : Nat) (x3 : Int) (M : xj_M) : Option (xj_M) := ((xq_al (x2) (x3) M).bind fun v101 => ((xq_al (x2) (x3) M).bind fun v104 => ((xq_is 0 (x0) M).bind fun _ => ((f1  f (x0) (xrem (xwr (v101)) (72)) (xdiv (xwr (v104)) (72)) M).bind fun M109 => f0_100  r16 f (x0) (x1) (x2) (x3) M109))))
theorem k0_60 {d f : Nat}  {r16 : Nat → Nat → Nat → Int → xj_M → Option (xj_M)}  (hr16 : ∀ {x0 : Nat} {x1 : Nat} {x2 : Nat} {x3 : Int} {M : xj_M} {R : xj_M}, xin x3 → r16 x0 x1 x2 x3 M = some R → xW (d + 2) (none, d + 2, none) xr_0 (16, [(0, xR_ x0), (1, xR_ x1), (2, xR_ x2), (3, xI x3)], [], M) (xQv R)) {x0 : Nat} {x1 : Nat} {x2 : Nat} {x3 : Int} {M : xj_M} {R : xj_M} (hx3 : xin x3) (h : f0_60  r16 f x0 x1 x2 x3 M = some R) : xW (d + 2) (none, d + 2, none) xr_0 (60, [(0, xR_ x0), (1, xR_ x1), (2, xR_ x2), (3, xI x3)], [], M) (xQv R) := by
  unfold f0_60 at h
  refine xe_alr (ins := .aload_n 0) (len := 1) (i := 0) (by decide +kernel) rfl rfl rfl rfl rfl ?_
  refine xe_alr (ins := .aload_n 2) (len := 1) (i := 2) (by decide +kernel) rfl rfl rfl rfl rfl ?_
  refine xe_ldn (ins := .iload_n 3) (len := 1) (by decide +kernel) rfl rfl rfl rfl ?_
  obtain ⟨v101, e102, h⟩ := xbnd h
  refine xs_lald (by decide +kernel) hx3 e102 rfl ?_
  refine xe_l2i (by decide +kernel) rfl ?_
  refine xe_bipush (n := 72) (by decide +kernel) (by decide) rfl ?_
  refine xe_irem (by decide +kernel) rfl (show xin (72) by decide) (by decide) ?_
  refine xe_alr (ins := .aload_n 2) (len := 1) (i := 2) (by decide +kernel) rfl rfl rfl rfl rfl ?_
  refine xe_ldn (ins := .iload_n 3) (len := 1) (by decide +kernel) rfl rfl rfl rfl ?_
  obtain ⟨v104, e105, h⟩ := xbnd h
  refine xs_lald (by decide +kernel) hx3 e105 rfl ?_
  refine xe_l2i (by decide +kernel) rfl ?_
  refine xe_bipush (n := 72) (by decide +kernel) (by decide) rfl ?_
  refine xe_idiv (by decide +kernel) rfl (show xin (72) by decide) (by decide) ?_
  obtain ⟨_, e108, h⟩ := xbnd h
  obtain ⟨M109, e107, h⟩ := xbnd h
  refine xs_cv (i := 23) (j := 1) (ar := [xI (xdiv (xwr (v104)) (72)), xI (xrem (xwr (v101)) (72))]) (rest := []) (r2 := xr_1) (by decide +kernel) (by decide +kernel) (by decide +kernel) xr_1_e rfl (by decide) (by decide) e108 ?_
  refine xc_v (k1 (d := d + 0)  (xin_of _) (xin_of _) e107) rfl ?_
  refine xe_goto (off := 22) (nx := 100) (by decide +kernel) (by decide) ?_
  refine xW_lv rfl (l := [(0, xR_ (x0)), (1, xR_ (x1)), (2, xR_ (x2)), (3, xI (x3))]) (xsb_of ⟨rfl, rfl, rfl, rfl, trivial⟩ (show [0, 1, 2, 3].Nodup by decide)) ?_
  exact k0_100  hr16 hx3 h
def f0_16b  (r16 : Nat → Nat → Nat → Int → xj_M → Option (xj_M)) (f : Nat) (x0 : Nat) (x1 : Nat) (x2 : Nat) (x3 : Int) (M : xj_M) : Option (xj_M) := ((xq_ln (x1) M).bind fun v111 => (if (v111) ≤ (x3) then (some M) else ((xq_ai 3 (x1) (x3) M).bind fun v114 => (if ¬ (xand (v114) (255)) = (2) then (if (xand (v114) (255)) = (3) then f0_60  r16 f (x0) (x1) (x2) (x3) M else (if ¬ (xand (v114) (255)) = (4) then (if (xand (v114) (255)) < (10) then f0_100  r16 f (x0) (x1) (x2) (x3) M else (if (13) < (xand (v114) (255)) then f0_100  r16 f (x0) (x1) (x2) (x3) M else ((xq_pi 0 4 (x0) (1) M).bind fun M121 => f0_100  r16 f (x0) (x1) (x2) (x3) M121))) else f0_60  r16 f (x0) (x1) (x2) (x3) M)) else ((xq_al (x2) (x3) M).bind fun v123 => ((xq_is 0 (x0) M).bind fun _ => ((f2  f (x0) (xwr (v123)) M).bind fun M127 => f0_100  r16 f (x0) (x1) (x2) (x3) M127)))))))
theorem k0_16b {d f : Nat}  {r16 : Nat → Nat → Nat → Int → xj_M → Option (xj_M)}  (hr16 : ∀ {x0 : Nat} {x1 : Nat} {x2 : Nat} {x3 : Int} {M : xj_M} {R : xj_M}, xin x3 → r16 x0 x1 x2 x3 M = some R → xW (d + 2) (none, d + 2, none) xr_0 (16, [(0, xR_ x0), (1, xR_ x1), (2, xR_ x2), (3, xI x3)], [], M) (xQv R)) {x0 : Nat} {x1 : Nat} {x2 : Nat} {x3 : Int} {M : xj_M} {R : xj_M} (hx3 : xin x3) (h : f0_16b  r16 f x0 x1 x2 x3 M = some R) : xW (d + 2) (none, d + 2, none) xr_0 (16, [(0, xR_ x0), (1, xR_ x1), (2, xR_ x2), (3, xI x3)], [], M) (xQv R) := by
  unfold f0_16b at h
  refine xe_ldn (ins := .iload_n 3) (len := 1) (by decide +kernel) rfl rfl rfl rfl ?_
  refine xe_alr (ins := .aload_n 1) (len := 1) (i := 1) (by decide +kernel) rfl rfl rfl rfl rfl ?_
  obtain ⟨v111, e112, h⟩ := xbnd h
  refine xs_alen rfl (by decide +kernel) e112 rfl ?_
  refine xe_icmpge (off := 87) (t := 106) (by decide +kernel) (by decide) rfl hx3 (xq_ln_in e112) (fun c113 => ?_) (fun c113 => ?_)
  · rw [if_pos c113] at h
    cases h
    exact xe_ret_v (by decide +kernel) rfl ⟨rfl, rfl⟩
  · rw [if_neg c113] at h
    refine xe_alr (ins := .aload_n 1) (len := 1) (i := 1) (by decide +kernel) rfl rfl rfl rfl rfl ?_
    refine xe_ldn (ins := .iload_n 3) (len := 1) (by decide +kernel) rfl rfl rfl rfl ?_
    obtain ⟨v114, e115, h⟩ := xbnd h
    refine xs_iald rfl (by decide +kernel) hx3 e115 rfl ?_
    refine xe_sipush (n := 255) (by decide +kernel) (by decide) rfl ?_
    refine xe_iand (by decide +kernel) rfl ?_
    refine xe_isr (ins := .istore 4) (len := 2) (i := 4) (by decide +kernel) rfl rfl rfl (by decide) (xk_k (show ¬ (0 : Nat) = 4 by decide) (Or.inl (show ¬ (0 + 1 : Nat) = 4 by decide)) (xk_k (show ¬ (1 : Nat) = 4 by decide) (Or.inl (show ¬ (1 + 1 : Nat) = 4 by decide)) (xk_k (show ¬ (2 : Nat) = 4 by decide) (Or.inl (show ¬ (2 + 1 : Nat) = 4 by decide)) (xk_k (show ¬ (3 : Nat) = 4 by decide) (Or.inr (xI_cat _)) xk_n)))) rfl ?_
    refine xe_ldn (ins := .iload 4) (len := 2) (by decide +kernel) rfl rfl rfl rfl ?_
    refine xe_iconst (n := 2) (by decide +kernel) rfl ?_
    refine xe_icmpne (off := 14) (t := 48) (by decide +kernel) (by decide) rfl (xin_of _) (show xin (2) by decide) (fun c116 => ?_) (fun c116 => ?_)
    · rw [if_pos c116] at h
      refine xe_ldn (ins := .iload 4) (len := 2) (by decide +kernel) rfl rfl rfl rfl ?_
      refine xe_iconst (n := 3) (by decide +kernel) rfl ?_
      refine xe_icmpeq (off := 9) (t := 60) (by decide +kernel) (by decide) rfl (xin_of _) (show xin (3) by decide) (fun c117 => ?_) (fun c117 => ?_)
      · rw [if_pos c117] at h
        refine xW_lv rfl (l := [(0, xR_ (x0)), (1, xR_ (x1)), (2, xR_ (x2)), (3, xI (x3))]) (xsb_of ⟨rfl, rfl, rfl, rfl, trivial⟩ (show [4, 0, 1, 2, 3].Nodup by decide)) ?_
        exact k0_60  hr16 hx3 h
      · rw [if_neg c117] at h
        refine xe_ldn (ins := .iload 4) (len := 2) (by decide +kernel) rfl rfl rfl rfl ?_
        refine xe_iconst (n := 4) (by decide +kernel) rfl ?_
        refine xe_icmpne (off := 24) (t := 81) (by decide +kernel) (by decide) rfl (xin_of _) (show xin (4) by decide) (fun c118 => ?_) (fun c118 => ?_)
        · rw [if_pos c118] at h
          refine xe_ldn (ins := .iload 4) (len := 2) (by decide +kernel) rfl rfl rfl rfl ?_
          refine xe_bipush (n := 10) (by decide +kernel) (by decide) rfl ?_
          refine xe_icmplt (off := 15) (t := 100) (by decide +kernel) (by decide) rfl (xin_of _) (show xin (10) by decide) (fun c119 => ?_) (fun c119 => ?_)
          · rw [if_pos c119] at h
            refine xW_lv rfl (l := [(0, xR_ (x0)), (1, xR_ (x1)), (2, xR_ (x2)), (3, xI (x3))]) (xsb_of ⟨rfl, rfl, rfl, rfl, trivial⟩ (show [4, 0, 1, 2, 3].Nodup by decide)) ?_
            exact k0_100  hr16 hx3 h
          · rw [if_neg c119] at h
            refine xe_ldn (ins := .iload 4) (len := 2) (by decide +kernel) rfl rfl rfl rfl ?_
            refine xe_bipush (n := 13) (by decide +kernel) (by decide) rfl ?_
            refine xe_icmpgt (off := 8) (t := 100) (by decide +kernel) (by decide) rfl (xin_of _) (show xin (13) by decide) (fun c120 => ?_) (fun c120 => ?_)
            · rw [if_pos c120] at h
              refine xW_lv rfl (l := [(0, xR_ (x0)), (1, xR_ (x1)), (2, xR_ (x2)), (3, xI (x3))]) (xsb_of ⟨rfl, rfl, rfl, rfl, trivial⟩ (show [4, 0, 1, 2, 3].Nodup by decide)) ?_
              exact k0_100  hr16 hx3 h
            · rw [if_neg c120] at h
              refine xe_alr (ins := .aload_n 0) (len := 1) (i := 0) (by decide +kernel) rfl rfl rfl rfl rfl ?_
              refine xe_iconst (n := 1) (by decide +kernel) rfl ?_
              obtain ⟨M121, e122, h⟩ := xbnd h
              refine xs_p (i := 27) (c := 0) (k := 4) (by decide +kernel) (by decide +kernel) (by decide +kernel) e122 rfl ?_
              refine xW_lv rfl (l := [(0, xR_ (x0)), (1, xR_ (x1)), (2, xR_ (x2)), (3, xI (x3))]) (xsb_of ⟨rfl, rfl, rfl, rfl, trivial⟩ (show [4, 0, 1, 2, 3].Nodup by decide)) ?_
              exact k0_100  hr16 hx3 h
        · rw [if_neg c118] at h
          refine xW_lv rfl (l := [(0, xR_ (x0)), (1, xR_ (x1)), (2, xR_ (x2)), (3, xI (x3))]) (xsb_of ⟨rfl, rfl, rfl, rfl, trivial⟩ (show [4, 0, 1, 2, 3].Nodup by decide)) ?_
          exact k0_60  hr16 hx3 h
    · rw [if_neg c116] at h
      refine xe_alr (ins := .aload_n 0) (len := 1) (i := 0) (by decide +kernel) rfl rfl rfl rfl rfl ?_
      refine xe_alr (ins := .aload_n 2) (len := 1) (i := 2) (by decide +kernel) rfl rfl rfl rfl rfl ?_
      refine xe_ldn (ins := .iload_n 3) (len := 1) (by decide +kernel) rfl rfl rfl rfl ?_
      obtain ⟨v123, e124, h⟩ := xbnd h
      refine xs_lald (by decide +kernel) hx3 e124 rfl ?_
      refine xe_l2i (by decide +kernel) rfl ?_
      obtain ⟨_, e126, h⟩ := xbnd h
      obtain ⟨M127, e125, h⟩ := xbnd h
      refine xs_cv (i := 19) (j := 2) (ar := [xI (xwr (v123))]) (rest := []) (r2 := xr_2) (by decide +kernel) (by decide +kernel) (by decide +kernel) xr_2_e rfl (by decide) (by decide) e126 ?_
      refine xc_v (k2 (d := d + 1)  (xin_wr _) e125) rfl ?_
      refine xe_goto (off := 55) (nx := 100) (by decide +kernel) (by decide) ?_
      refine xW_lv rfl (l := [(0, xR_ (x0)), (1, xR_ (x1)), (2, xR_ (x2)), (3, xI (x3))]) (xsb_of ⟨rfl, rfl, rfl, rfl, trivial⟩ (show [4, 0, 1, 2, 3].Nodup by decide)) ?_
      exact k0_100  hr16 hx3 h
def f0_16   (f : Nat) : Nat → Nat → Nat → Nat → Int → xj_M → Option (xj_M)
  | 0, _, _, _, _, _ => none
  | n + 1, x0, x1, x2, x3, M => f0_16b   (f0_16   f n) f x0 x1 x2 x3 M
theorem k0_16 {d f : Nat}     : ∀ {n : Nat} {x0 : Nat} {x1 : Nat} {x2 : Nat} {x3 : Int} {M : xj_M} {R : xj_M}, xin x3 → f0_16   f n x0 x1 x2 x3 M = some R → xW (d + 2) (none, d + 2, none) xr_0 (16, [(0, xR_ x0), (1, xR_ x1), (2, xR_ x2), (3, xI x3)], [], M) (xQv R) := by
  intro n
  induction n with
  | zero => intros; rename_i h; cases h
  | succ n ih => intros; rename_i h; exact k0_16b   ih (by assumption) h
def f0  (f : Nat) (a0 : Nat) (a1 : Nat) (a2 : Nat) (M : xj_M) : Option (xj_M) := ((xq_nz (a0)).bind fun _ => ((xq_pr 0 0 (a0) (a1) M).bind fun M130 => ((xq_pr 0 1 (a0) (a2) M130).bind fun M132 => f0_16   f f (a0) (a1) (a2) (0) M132)))
theorem k0 {d f : Nat}   {a0 : Nat} {a1 : Nat} {a2 : Nat} {M : xj_M} {R : xj_M}  (h : f0  f a0 a1 a2 M = some R) : xT (d + 3) 0 [xR_ a0, xR_ a1, xR_ a2] M (xQv R) := by
  refine xT_m xr_0_e (X := (none, d + 2, none)) rfl (xa_1 (xR_cat _) (xa_1 (xR_cat _) (xa_1 (xR_cat _) xa_n))) (by decide) ?_
  unfold f0 at h
  refine xe_alr (ins := .aload_n 0) (len := 1) (i := 0) (by decide +kernel) rfl rfl rfl rfl rfl ?_
  obtain ⟨_, e129, h⟩ := xbnd h
  refine xe_oi (i := 3) (j := 0) (by decide +kernel) (by decide +kernel) (by rfl) (xq_nz_ne e129) rfl ?_
  refine xe_alr (ins := .aload_n 0) (len := 1) (i := 0) (by decide +kernel) rfl rfl rfl rfl rfl ?_
  refine xe_alr (ins := .aload_n 1) (len := 1) (i := 1) (by decide +kernel) rfl rfl rfl rfl rfl ?_
  obtain ⟨M130, e131, h⟩ := xbnd h
  refine xs_p (i := 9) (c := 0) (k := 0) (by decide +kernel) (by decide +kernel) (by decide +kernel) e131 rfl ?_
  refine xe_alr (ins := .aload_n 0) (len := 1) (i := 0) (by decide +kernel) rfl rfl rfl rfl rfl ?_
  refine xe_alr (ins := .aload_n 2) (len := 1) (i := 2) (by decide +kernel) rfl rfl rfl rfl rfl ?_
  obtain ⟨M132, e133, h⟩ := xbnd h
  refine xs_p (i := 15) (c := 0) (k := 1) (by decide +kernel) (by decide +kernel) (by decide +kernel) e133 rfl ?_
  refine xe_iconst (n := 0) (by decide +kernel) rfl ?_
  refine xe_isr (ins := .istore_n 3) (len := 1) (i := 3) (by decide +kernel) rfl rfl rfl (by decide) (xk_k (show ¬ (0 : Nat) = 3 by decide) (Or.inl (show ¬ (0 + 1 : Nat) = 3 by decide)) (xk_k (show ¬ (1 : Nat) = 3 by decide) (Or.inl (show ¬ (1 + 1 : Nat) = 3 by decide)) (xk_k (show ¬ (2 : Nat) = 3 by decide) (Or.inr (xR_cat _)) xk_n))) rfl ?_
  refine xW_lv rfl (l := [(0, xR_ (a0)), (1, xR_ (a1)), (2, xR_ (a2)), (3, xI (0))]) (xsb_of ⟨rfl, rfl, rfl, rfl, trivial⟩ (show [3, 0, 1, 2].Nodup by decide)) ?_
  exact k0_16   (show xin (0) by decide) h
-- ChangeHouse$Program.arrange
def xr_24 : xj_mR := (3, yX3_arrange, cX3_arrange, 4, (Option.none : Option Jvm.ClassFile.FieldType), 0, false, (5, 212), (1, 9))
set_option maxRecDepth 20000 in
theorem xr_24_e : xj_row 24 = some xr_24 := rfl
def f24_55  (r2 : Nat → Int → xj_M → Option (xj_M)) (r19 : Nat → Int → Nat → Int → xj_M → Option (xj_M)) (f : Nat) (x0 : Nat) (x1 : Int) (x2 : Nat) (x3 : Int) (M : xj_M) : Option (xj_M) := r19 (x0) (x1) (x2) (xwr ((x3) + (1))) M
theorem k24_55 {d f : Nat}  {r2 : Nat → Int → xj_M → Option (xj_M)} {r19 : Nat → Int → Nat → Int → xj_M → Option (xj_M)}  (hr2 : ∀ {x0 : Nat} {x1 : Int} {M : xj_M} {R : xj_M}, xin x1 → r2 x0 x1 M = some R → xW (d + 3) (none, d + 3, none) xr_24 (2, [(0, xR_ x0), (1, xI x1)], [], M) (xQv R)) (hr19 : ∀ {x0 : Nat} {x1 : Int} {x2 : Nat} {x3 : Int} {M : xj_M} {R : xj_M}, xin x1 → xin x3 → r19 x0 x1 x2 x3 M = some R → xW (d + 3) (none, d + 3, none) xr_24 (19, [(0, xR_ x0), (1, xI x1), (2, xR_ x2), (3, xI x3)], [], M) (xQv R)) {x0 : Nat} {x1 : Int} {x2 : Nat} {x3 : Int} {M : xj_M} {R : xj_M} (hx1 : xin x1) (hx3 : xin x3) (h : f24_55  r2 r19 f x0 x1 x2 x3 M = some R) : xW (d + 3) (none, d + 3, none) xr_24 (55, [(0, xR_ x0), (1, xI x1), (2, xR_ x2), (3, xI x3)], [], M) (xQv R) := by
  unfold f24_55 at h
  refine xe_iincr (i := 3) (n := 1) (by decide +kernel) (by decide) rfl (xk_k (show ¬ (0 : Nat) = 3 by decide) (Or.inl (show ¬ (0 + 1 : Nat) = 3 by decide)) (xk_k (show ¬ (1 : Nat) = 3 by decide) (Or.inl (show ¬ (1 + 1 : Nat) = 3 by decide)) (xk_k (show ¬ (2 : Nat) = 3 by decide) (Or.inr (xR_cat _)) (xk_d rfl xk_n)))) rfl ?_
  refine xe_goto (off := -39) (nx := 19) (by decide +kernel) (by decide) ?_
  refine xW_lv rfl (l := [(0, xR_ (x0)), (1, xI (x1)), (2, xR_ (x2)), (3, xI (xwr ((x3) + (1))))]) (xsb_of ⟨rfl, rfl, rfl, rfl, trivial⟩ (show [3, 0, 1, 2].Nodup by decide)) ?_
  exact hr19 hx1 (xin_wr _) h
def f24_19b  (r2 : Nat → Int → xj_M → Option (xj_M)) (r19 : Nat → Int → Nat → Int → xj_M → Option (xj_M)) (f : Nat) (x0 : Nat) (x1 : Int) (x2 : Nat) (x3 : Int) (M : xj_M) : Option (xj_M) := ((xq_gi 6 8 (x2) M).bind fun v101 => (if (v101) ≤ (x3) then r2 (x0) (xwr ((x1) + (1))) M else ((xq_is 6 (x2) M).bind fun _ => ((f90  f (x2) (x3) M).bind fun R106 => (if (R106.1) = 0 then f24_55  r2 r19 f (x0) (x1) (x2) (x3) R106.2 else ((xq_gr 3 13 (x0) R106.2).bind fun v109 => ((xq_gi 6 0 (x2) R106.2).bind fun v111 => ((xq_ai 3 (v109) (v111) R106.2).bind fun v113 => ((xq_gr 6 10 (x2) R106.2).bind fun v115 => ((xq_ai 3 (v115) (x3) R106.2).bind fun v117 => ((xq_si (v109) (v111) (xor_ (v113) (xshl (1) (v117))) R106.2).bind fun M119 => f24_55  r2 r19 f (x0) (x1) (x2) (x3) M119)))))))))))
theorem k24_19b {d f : Nat}  {r2 : Nat → Int → xj_M → Option (xj_M)} {r19 : Nat → Int → Nat → Int → xj_M → Option (xj_M)}  (hr2 : ∀ {x0 : Nat} {x1 : Int} {M : xj_M} {R : xj_M}, xin x1 → r2 x0 x1 M = some R → xW (d + 3) (none, d + 3, none) xr_24 (2, [(0, xR_ x0), (1, xI x1)], [], M) (xQv R)) (hr19 : ∀ {x0 : Nat} {x1 : Int} {x2 : Nat} {x3 : Int} {M : xj_M} {R : xj_M}, xin x1 → xin x3 → r19 x0 x1 x2 x3 M = some R → xW (d + 3) (none, d + 3, none) xr_24 (19, [(0, xR_ x0), (1, xI x1), (2, xR_ x2), (3, xI x3)], [], M) (xQv R)) {x0 : Nat} {x1 : Int} {x2 : Nat} {x3 : Int} {M : xj_M} {R : xj_M} (hx1 : xin x1) (hx3 : xin x3) (h : f24_19b  r2 r19 f x0 x1 x2 x3 M = some R) : xW (d + 3) (none, d + 3, none) xr_24 (19, [(0, xR_ x0), (1, xI x1), (2, xR_ x2), (3, xI x3)], [], M) (xQv R) := by
  unfold f24_19b at h
  refine xe_ldn (ins := .iload_n 3) (len := 1) (by decide +kernel) rfl rfl rfl rfl ?_
  refine xe_alr (ins := .aload_n 2) (len := 1) (i := 2) (by decide +kernel) rfl rfl rfl rfl rfl ?_
  obtain ⟨v101, e102, h⟩ := xbnd h
  refine xs_gi (i := 65) (c := 6) (k := 8) (by decide +kernel) (by decide) (by decide +kernel) e102 rfl ?_
  refine xe_icmpge (off := 37) (t := 61) (by decide +kernel) (by decide) rfl hx3 (xq_gi_in e102) (fun c103 => ?_) (fun c103 => ?_)
  · rw [if_pos c103] at h
    refine xe_iincr (i := 1) (n := 1) (by decide +kernel) (by decide) rfl (xk_k (show ¬ (0 : Nat) = 1 by decide) (Or.inr (xR_cat _)) (xk_d rfl (xk_k (show ¬ (2 : Nat) = 1 by decide) (Or.inl (show ¬ (2 + 1 : Nat) = 1 by decide)) (xk_k (show ¬ (3 : Nat) = 1 by decide) (Or.inl (show ¬ (3 + 1 : Nat) = 1 by decide)) xk_n)))) rfl ?_
    refine xe_goto (off := -62) (nx := 2) (by decide +kernel) (by decide) ?_
    refine xW_lv rfl (l := [(0, xR_ (x0)), (1, xI (xwr ((x1) + (1))))]) (xsb_of ⟨rfl, rfl, trivial⟩ (show [1, 0, 2, 3].Nodup by decide)) ?_
    exact hr2 (xin_wr _) h
  · rw [if_neg c103] at h
    refine xe_alr (ins := .aload_n 2) (len := 1) (i := 2) (by decide +kernel) rfl rfl rfl rfl rfl ?_
    refine xe_ldn (ins := .iload_n 3) (len := 1) (by decide +kernel) rfl rfl rfl rfl ?_
    obtain ⟨_, e105, h⟩ := xbnd h
    obtain ⟨R106, e104, h⟩ := xbnd h
    refine xs_cv (i := 68) (j := 90) (ar := [xI (x3)]) (rest := []) (r2 := xr_90) (by decide +kernel) (by decide +kernel) (by decide +kernel) xr_90_e rfl (by decide) (by decide) e105 ?_
    refine xc_i (k90 (d := d + 2)  hx3 e104) rfl (fun hi107 => ?_)
    refine xe_ifeq (off := 23) (t := 55) (by decide +kernel) (by decide) rfl hi107 (fun c108 => ?_) (fun c108 => ?_)
    · rw [if_pos c108] at h
      refine xW_lv rfl (l := [(0, xR_ (x0)), (1, xI (x1)), (2, xR_ (x2)), (3, xI (x3))]) (xsb_of ⟨rfl, rfl, rfl, rfl, trivial⟩ (show [0, 1, 2, 3].Nodup by decide)) ?_
      exact k24_55  hr2 hr19 hx1 hx3 h
    · rw [if_neg c108] at h
      refine xe_alr (ins := .aload_n 0) (len := 1) (i := 0) (by decide +kernel) rfl rfl rfl rfl rfl ?_
      obtain ⟨v109, e110, h⟩ := xbnd h
      refine xs_gr (i := 44) (c := 3) (k := 13) (by decide +kernel) (by decide) (by decide +kernel) e110 rfl ?_
      refine xe_alr (ins := .aload_n 2) (len := 1) (i := 2) (by decide +kernel) rfl rfl rfl rfl rfl ?_
      obtain ⟨v111, e112, h⟩ := xbnd h
      refine xs_gi (i := 72) (c := 6) (k := 0) (by decide +kernel) (by decide) (by decide +kernel) e112 rfl ?_
      refine xe_dup2r (xI_cat _) (xR_cat _) (by decide +kernel) rfl ?_
      obtain ⟨v113, e114, h⟩ := xbnd h
      refine xs_iald rfl (by decide +kernel) (xq_gi_in e112) e114 rfl ?_
      refine xe_iconst (n := 1) (by decide +kernel) rfl ?_
      refine xe_alr (ins := .aload_n 2) (len := 1) (i := 2) (by decide +kernel) rfl rfl rfl rfl rfl ?_
      obtain ⟨v115, e116, h⟩ := xbnd h
      refine xs_gr (i := 75) (c := 6) (k := 10) (by decide +kernel) (by decide) (by decide +kernel) e116 rfl ?_
      refine xe_ldn (ins := .iload_n 3) (len := 1) (by decide +kernel) rfl rfl rfl rfl ?_
      obtain ⟨v117, e118, h⟩ := xbnd h
      refine xs_iald rfl (by decide +kernel) hx3 e118 rfl ?_
      refine xe_ishl (by decide +kernel) rfl ?_
      refine xe_ior (by decide +kernel) rfl ?_
      obtain ⟨M119, e120, h⟩ := xbnd h
      refine xs_iast (by decide +kernel) (xq_gi_in e112) e120 rfl ?_
      refine xW_lv rfl (l := [(0, xR_ (x0)), (1, xI (x1)), (2, xR_ (x2)), (3, xI (x3))]) (xsb_of ⟨rfl, rfl, rfl, rfl, trivial⟩ (show [0, 1, 2, 3].Nodup by decide)) ?_
      exact k24_55  hr2 hr19 hx1 hx3 h
def f24_19  (r2 : Nat → Int → xj_M → Option (xj_M)) (f : Nat) : Nat → Nat → Int → Nat → Int → xj_M → Option (xj_M)
  | 0, _, _, _, _, _ => none
  | n + 1, x0, x1, x2, x3, M => f24_19b  r2 (f24_19  r2 f n) f x0 x1 x2 x3 M
theorem k24_19 {d f : Nat}  {r2 : Nat → Int → xj_M → Option (xj_M)}  (hr2 : ∀ {x0 : Nat} {x1 : Int} {M : xj_M} {R : xj_M}, xin x1 → r2 x0 x1 M = some R → xW (d + 3) (none, d + 3, none) xr_24 (2, [(0, xR_ x0), (1, xI x1)], [], M) (xQv R)) : ∀ {n : Nat} {x0 : Nat} {x1 : Int} {x2 : Nat} {x3 : Int} {M : xj_M} {R : xj_M}, xin x1 → xin x3 → f24_19  r2 f n x0 x1 x2 x3 M = some R → xW (d + 3) (none, d + 3, none) xr_24 (19, [(0, xR_ x0), (1, xI x1), (2, xR_ x2), (3, xI x3)], [], M) (xQv R) := by
  intro n
  induction n with
  | zero => intros; rename_i h; cases h
  | succ n ih => intros; rename_i h; exact k24_19b  hr2 ih (by assumption) (by assumption) h
def f24_118  (r80 : Nat → Nat → Int → xj_M → Option (xj_M)) (r90 : Nat → Nat → Int → Int → xj_M → Option (xj_M)) (f : Nat) (x0 : Nat) (x1 : Nat) (x2 : Int) (x3 : Int) (M : xj_M) : Option (xj_M) := r90 (x0) (x1) (x2) (xwr ((x3) + (1))) M
theorem k24_118 {d f : Nat}  {r80 : Nat → Nat → Int → xj_M → Option (xj_M)} {r90 : Nat → Nat → Int → Int → xj_M → Option (xj_M)}  (hr80 : ∀ {x0 : Nat} {x1 : Nat} {x2 : Int} {M : xj_M} {R : xj_M}, xin x2 → r80 x0 x1 x2 M = some R → xW (d + 3) (none, d + 3, none) xr_24 (80, [(0, xR_ x0), (1, xR_ x1), (2, xI x2)], [], M) (xQv R)) (hr90 : ∀ {x0 : Nat} {x1 : Nat} {x2 : Int} {x3 : Int} {M : xj_M} {R : xj_M}, xin x2 → xin x3 → r90 x0 x1 x2 x3 M = some R → xW (d + 3) (none, d + 3, none) xr_24 (90, [(0, xR_ x0), (1, xR_ x1), (2, xI x2), (3, xI x3)], [], M) (xQv R)) {x0 : Nat} {x1 : Nat} {x2 : Int} {x3 : Int} {M : xj_M} {R : xj_M} (hx2 : xin x2) (hx3 : xin x3) (h : f24_118  r80 r90 f x0 x1 x2 x3 M = some R) : xW (d + 3) (none, d + 3, none) xr_24 (118, [(0, xR_ x0), (1, xR_ x1), (2, xI x2), (3, xI x3)], [], M) (xQv R) := by
  unfold f24_118 at h
  refine xe_iincr (i := 3) (n := 1) (by decide +kernel) (by decide) rfl (xk_k (show ¬ (0 : Nat) = 3 by decide) (Or.inl (show ¬ (0 + 1 : Nat) = 3 by decide)) (xk_k (show ¬ (1 : Nat) = 3 by decide) (Or.inl (show ¬ (1 + 1 : Nat) = 3 by decide)) (xk_k (show ¬ (2 : Nat) = 3 by decide) (Or.inr (xI_cat _)) (xk_d rfl xk_n)))) rfl ?_
  refine xe_goto (off := -31) (nx := 90) (by decide +kernel) (by decide) ?_
  refine xW_lv rfl (l := [(0, xR_ (x0)), (1, xR_ (x1)), (2, xI (x2)), (3, xI (xwr ((x3) + (1))))]) (xsb_of ⟨rfl, rfl, rfl, rfl, trivial⟩ (show [3, 0, 1, 2].Nodup by decide)) ?_
  exact hr90 hx2 (xin_wr _) h
def f24_90b  (r80 : Nat → Nat → Int → xj_M → Option (xj_M)) (r90 : Nat → Nat → Int → Int → xj_M → Option (xj_M)) (f : Nat) (x0 : Nat) (x1 : Nat) (x2 : Int) (x3 : Int) (M : xj_M) : Option (xj_M) := ((xq_gi 3 1 (x0) M).bind fun v121 => (if (v121) ≤ (x3) then r80 (x0) (x1) (xwr ((x2) + (1))) M else ((xq_ai 3 (x1) (x3) M).bind fun v124 => (if ¬ (xand (xshr (v124) (x2)) (1)) = (1) then f24_118  r80 r90 f (x0) (x1) (x2) (x3) M else ((xq_ai 3 (x1) (x3) M).bind fun v127 => ((xq_ai 3 (x1) (x2) M).bind fun v129 => ((xq_si (x1) (x3) (xor_ (v127) (v129)) M).bind fun M131 => f24_118  r80 r90 f (x0) (x1) (x2) (x3) M131)))))))
theorem k24_90b {d f : Nat}  {r80 : Nat → Nat → Int → xj_M → Option (xj_M)} {r90 : Nat → Nat → Int → Int → xj_M → Option (xj_M)}  (hr80 : ∀ {x0 : Nat} {x1 : Nat} {x2 : Int} {M : xj_M} {R : xj_M}, xin x2 → r80 x0 x1 x2 M = some R → xW (d + 3) (none, d + 3, none) xr_24 (80, [(0, xR_ x0), (1, xR_ x1), (2, xI x2)], [], M) (xQv R)) (hr90 : ∀ {x0 : Nat} {x1 : Nat} {x2 : Int} {x3 : Int} {M : xj_M} {R : xj_M}, xin x2 → xin x3 → r90 x0 x1 x2 x3 M = some R → xW (d + 3) (none, d + 3, none) xr_24 (90, [(0, xR_ x0), (1, xR_ x1), (2, xI x2), (3, xI x3)], [], M) (xQv R)) {x0 : Nat} {x1 : Nat} {x2 : Int} {x3 : Int} {M : xj_M} {R : xj_M} (hx2 : xin x2) (hx3 : xin x3) (h : f24_90b  r80 r90 f x0 x1 x2 x3 M = some R) : xW (d + 3) (none, d + 3, none) xr_24 (90, [(0, xR_ x0), (1, xR_ x1), (2, xI x2), (3, xI x3)], [], M) (xQv R) := by
  unfold f24_90b at h
  refine xe_ldn (ins := .iload_n 3) (len := 1) (by decide +kernel) rfl rfl rfl rfl ?_
  refine xe_alr (ins := .aload_n 0) (len := 1) (i := 0) (by decide +kernel) rfl rfl rfl rfl rfl ?_
  obtain ⟨v121, e122, h⟩ := xbnd h
  refine xs_gi (i := 51) (c := 3) (k := 1) (by decide +kernel) (by decide) (by decide +kernel) e122 rfl ?_
  refine xe_icmpge (off := 29) (t := 124) (by decide +kernel) (by decide) rfl hx3 (xq_gi_in e122) (fun c123 => ?_) (fun c123 => ?_)
  · rw [if_pos c123] at h
    refine xe_iincr (i := 2) (n := 1) (by decide +kernel) (by decide) rfl (xk_k (show ¬ (0 : Nat) = 2 by decide) (Or.inl (show ¬ (0 + 1 : Nat) = 2 by decide)) (xk_k (show ¬ (1 : Nat) = 2 by decide) (Or.inr (xR_cat _)) (xk_d rfl (xk_k (show ¬ (3 : Nat) = 2 by decide) (Or.inl (show ¬ (3 + 1 : Nat) = 2 by decide)) xk_n)))) rfl ?_
    refine xe_goto (off := -47) (nx := 80) (by decide +kernel) (by decide) ?_
    refine xW_lv rfl (l := [(0, xR_ (x0)), (1, xR_ (x1)), (2, xI (xwr ((x2) + (1))))]) (xsb_of ⟨rfl, rfl, rfl, trivial⟩ (show [2, 0, 1, 3].Nodup by decide)) ?_
    exact hr80 (xin_wr _) h
  · rw [if_neg c123] at h
    refine xe_alr (ins := .aload_n 1) (len := 1) (i := 1) (by decide +kernel) rfl rfl rfl rfl rfl ?_
    refine xe_ldn (ins := .iload_n 3) (len := 1) (by decide +kernel) rfl rfl rfl rfl ?_
    obtain ⟨v124, e125, h⟩ := xbnd h
    refine xs_iald rfl (by decide +kernel) hx3 e125 rfl ?_
    refine xe_ldn (ins := .iload_n 2) (len := 1) (by decide +kernel) rfl rfl rfl rfl ?_
    refine xe_ishr (by decide +kernel) rfl ?_
    refine xe_iconst (n := 1) (by decide +kernel) rfl ?_
    refine xe_iand (by decide +kernel) rfl ?_
    refine xe_iconst (n := 1) (by decide +kernel) rfl ?_
    refine xe_icmpne (off := 12) (t := 118) (by decide +kernel) (by decide) rfl (xin_of _) (show xin (1) by decide) (fun c126 => ?_) (fun c126 => ?_)
    · rw [if_pos c126] at h
      refine xW_lv rfl (l := [(0, xR_ (x0)), (1, xR_ (x1)), (2, xI (x2)), (3, xI (x3))]) (xsb_of ⟨rfl, rfl, rfl, rfl, trivial⟩ (show [0, 1, 2, 3].Nodup by decide)) ?_
      exact k24_118  hr80 hr90 hx2 hx3 h
    · rw [if_neg c126] at h
      refine xe_alr (ins := .aload_n 1) (len := 1) (i := 1) (by decide +kernel) rfl rfl rfl rfl rfl ?_
      refine xe_ldn (ins := .iload_n 3) (len := 1) (by decide +kernel) rfl rfl rfl rfl ?_
      refine xe_dup2r (xI_cat _) (xR_cat _) (by decide +kernel) rfl ?_
      obtain ⟨v127, e128, h⟩ := xbnd h
      refine xs_iald rfl (by decide +kernel) hx3 e128 rfl ?_
      refine xe_alr (ins := .aload_n 1) (len := 1) (i := 1) (by decide +kernel) rfl rfl rfl rfl rfl ?_
      refine xe_ldn (ins := .iload_n 2) (len := 1) (by decide +kernel) rfl rfl rfl rfl ?_
      obtain ⟨v129, e130, h⟩ := xbnd h
      refine xs_iald rfl (by decide +kernel) hx2 e130 rfl ?_
      refine xe_ior (by decide +kernel) rfl ?_
      obtain ⟨M131, e132, h⟩ := xbnd h
      refine xs_iast (by decide +kernel) hx3 e132 rfl ?_
      refine xW_lv rfl (l := [(0, xR_ (x0)), (1, xR_ (x1)), (2, xI (x2)), (3, xI (x3))]) (xsb_of ⟨rfl, rfl, rfl, rfl, trivial⟩ (show [0, 1, 2, 3].Nodup by decide)) ?_
      exact k24_118  hr80 hr90 hx2 hx3 h
def f24_90  (r80 : Nat → Nat → Int → xj_M → Option (xj_M)) (f : Nat) : Nat → Nat → Nat → Int → Int → xj_M → Option (xj_M)
  | 0, _, _, _, _, _ => none
  | n + 1, x0, x1, x2, x3, M => f24_90b  r80 (f24_90  r80 f n) f x0 x1 x2 x3 M
theorem k24_90 {d f : Nat}  {r80 : Nat → Nat → Int → xj_M → Option (xj_M)}  (hr80 : ∀ {x0 : Nat} {x1 : Nat} {x2 : Int} {M : xj_M} {R : xj_M}, xin x2 → r80 x0 x1 x2 M = some R → xW (d + 3) (none, d + 3, none) xr_24 (80, [(0, xR_ x0), (1, xR_ x1), (2, xI x2)], [], M) (xQv R)) : ∀ {n : Nat} {x0 : Nat} {x1 : Nat} {x2 : Int} {x3 : Int} {M : xj_M} {R : xj_M}, xin x2 → xin x3 → f24_90  r80 f n x0 x1 x2 x3 M = some R → xW (d + 3) (none, d + 3, none) xr_24 (90, [(0, xR_ x0), (1, xR_ x1), (2, xI x2), (3, xI x3)], [], M) (xQv R) := by
  intro n
  induction n with
  | zero => intros; rename_i h; cases h
  | succ n ih => intros; rename_i h; exact k24_90b  hr80 ih (by assumption) (by assumption) h
def f24_184  (r132 : Nat → Nat → Int → xj_M → Option (xj_M)) (r151 : Nat → Nat → Int → Int → xj_M → Option (xj_M)) (f : Nat) (x0 : Nat) (x1 : Nat) (x2 : Int) (x3 : Int) (M : xj_M) : Option (xj_M) := r151 (x0) (x1) (x2) (xwr ((x3) + (-1))) M
theorem k24_184 {d f : Nat}  {r132 : Nat → Nat → Int → xj_M → Option (xj_M)} {r151 : Nat → Nat → Int → Int → xj_M → Option (xj_M)}  (hr132 : ∀ {x0 : Nat} {x1 : Nat} {x2 : Int} {M : xj_M} {R : xj_M}, xin x2 → r132 x0 x1 x2 M = some R → xW (d + 3) (none, d + 3, none) xr_24 (132, [(0, xR_ x0), (1, xR_ x1), (2, xI x2)], [], M) (xQv R)) (hr151 : ∀ {x0 : Nat} {x1 : Nat} {x2 : Int} {x3 : Int} {M : xj_M} {R : xj_M}, xin x2 → xin x3 → r151 x0 x1 x2 x3 M = some R → xW (d + 3) (none, d + 3, none) xr_24 (151, [(0, xR_ x0), (1, xR_ x1), (2, xI x2), (3, xI x3)], [], M) (xQv R)) {x0 : Nat} {x1 : Nat} {x2 : Int} {x3 : Int} {M : xj_M} {R : xj_M} (hx2 : xin x2) (hx3 : xin x3) (h : f24_184  r132 r151 f x0 x1 x2 x3 M = some R) : xW (d + 3) (none, d + 3, none) xr_24 (184, [(0, xR_ x0), (1, xR_ x1), (2, xI x2), (3, xI x3)], [], M) (xQv R) := by
  unfold f24_184 at h
  refine xe_iincr (i := 3) (n := -1) (by decide +kernel) (by decide) rfl (xk_k (show ¬ (0 : Nat) = 3 by decide) (Or.inl (show ¬ (0 + 1 : Nat) = 3 by decide)) (xk_k (show ¬ (1 : Nat) = 3 by decide) (Or.inl (show ¬ (1 + 1 : Nat) = 3 by decide)) (xk_k (show ¬ (2 : Nat) = 3 by decide) (Or.inr (xI_cat _)) (xk_d rfl xk_n)))) rfl ?_
  refine xe_goto (off := -36) (nx := 151) (by decide +kernel) (by decide) ?_
  refine xW_lv rfl (l := [(0, xR_ (x0)), (1, xR_ (x1)), (2, xI (x2)), (3, xI (xwr ((x3) + (-1))))]) (xsb_of ⟨rfl, rfl, rfl, rfl, trivial⟩ (show [3, 0, 1, 2].Nodup by decide)) ?_
  exact hr151 hx2 (xin_wr _) h
def f24_151b  (r132 : Nat → Nat → Int → xj_M → Option (xj_M)) (r151 : Nat → Nat → Int → Int → xj_M → Option (xj_M)) (f : Nat) (x0 : Nat) (x1 : Nat) (x2 : Int) (x3 : Int) (M : xj_M) : Option (xj_M) := (if (x3) < 0 then r132 (x0) (x1) (xwr ((x2) + (1))) M else ((xq_ai 3 (x1) (x2) M).bind fun v134 => (if ¬ (xand (xshr (v134) (x3)) (1)) = (1) then f24_184  r132 r151 f (x0) (x1) (x2) (x3) M else ((xq_ai 3 (x1) (x3) M).bind fun v137 => (if ¬ (xand (xshr (v137) (x2)) (1)) = (1) then f24_184  r132 r151 f (x0) (x1) (x2) (x3) M else ((xq_gr 3 10 (x0) M).bind fun v140 => ((xq_si (v140) (x2) (x3) M).bind fun M142 => f24_184  r132 r151 f (x0) (x1) (x2) (x3) M142)))))))
theorem k24_151b {d f : Nat}  {r132 : Nat → Nat → Int → xj_M → Option (xj_M)} {r151 : Nat → Nat → Int → Int → xj_M → Option (xj_M)}  (hr132 : ∀ {x0 : Nat} {x1 : Nat} {x2 : Int} {M : xj_M} {R : xj_M}, xin x2 → r132 x0 x1 x2 M = some R → xW (d + 3) (none, d + 3, none) xr_24 (132, [(0, xR_ x0), (1, xR_ x1), (2, xI x2)], [], M) (xQv R)) (hr151 : ∀ {x0 : Nat} {x1 : Nat} {x2 : Int} {x3 : Int} {M : xj_M} {R : xj_M}, xin x2 → xin x3 → r151 x0 x1 x2 x3 M = some R → xW (d + 3) (none, d + 3, none) xr_24 (151, [(0, xR_ x0), (1, xR_ x1), (2, xI x2), (3, xI x3)], [], M) (xQv R)) {x0 : Nat} {x1 : Nat} {x2 : Int} {x3 : Int} {M : xj_M} {R : xj_M} (hx2 : xin x2) (hx3 : xin x3) (h : f24_151b  r132 r151 f x0 x1 x2 x3 M = some R) : xW (d + 3) (none, d + 3, none) xr_24 (151, [(0, xR_ x0), (1, xR_ x1), (2, xI x2), (3, xI x3)], [], M) (xQv R) := by
  unfold f24_151b at h
  refine xe_ldn (ins := .iload_n 3) (len := 1) (by decide +kernel) rfl rfl rfl rfl ?_
  refine xe_iflt (off := 38) (t := 190) (by decide +kernel) (by decide) rfl hx3 (fun c133 => ?_) (fun c133 => ?_)
  · rw [if_pos c133] at h
    refine xe_iincr (i := 2) (n := 1) (by decide +kernel) (by decide) rfl (xk_k (show ¬ (0 : Nat) = 2 by decide) (Or.inl (show ¬ (0 + 1 : Nat) = 2 by decide)) (xk_k (show ¬ (1 : Nat) = 2 by decide) (Or.inr (xR_cat _)) (xk_d rfl (xk_k (show ¬ (3 : Nat) = 2 by decide) (Or.inl (show ¬ (3 + 1 : Nat) = 2 by decide)) xk_n)))) rfl ?_
    refine xe_goto (off := -61) (nx := 132) (by decide +kernel) (by decide) ?_
    refine xW_lv rfl (l := [(0, xR_ (x0)), (1, xR_ (x1)), (2, xI (xwr ((x2) + (1))))]) (xsb_of ⟨rfl, rfl, rfl, trivial⟩ (show [2, 0, 1, 3].Nodup by decide)) ?_
    exact hr132 (xin_wr _) h
  · rw [if_neg c133] at h
    refine xe_alr (ins := .aload_n 1) (len := 1) (i := 1) (by decide +kernel) rfl rfl rfl rfl rfl ?_
    refine xe_ldn (ins := .iload_n 2) (len := 1) (by decide +kernel) rfl rfl rfl rfl ?_
    obtain ⟨v134, e135, h⟩ := xbnd h
    refine xs_iald rfl (by decide +kernel) hx2 e135 rfl ?_
    refine xe_ldn (ins := .iload_n 3) (len := 1) (by decide +kernel) rfl rfl rfl rfl ?_
    refine xe_ishr (by decide +kernel) rfl ?_
    refine xe_iconst (n := 1) (by decide +kernel) rfl ?_
    refine xe_iand (by decide +kernel) rfl ?_
    refine xe_iconst (n := 1) (by decide +kernel) rfl ?_
    refine xe_icmpne (off := 21) (t := 184) (by decide +kernel) (by decide) rfl (xin_of _) (show xin (1) by decide) (fun c136 => ?_) (fun c136 => ?_)
    · rw [if_pos c136] at h
      refine xW_lv rfl (l := [(0, xR_ (x0)), (1, xR_ (x1)), (2, xI (x2)), (3, xI (x3))]) (xsb_of ⟨rfl, rfl, rfl, rfl, trivial⟩ (show [0, 1, 2, 3].Nodup by decide)) ?_
      exact k24_184  hr132 hr151 hx2 hx3 h
    · rw [if_neg c136] at h
      refine xe_alr (ins := .aload_n 1) (len := 1) (i := 1) (by decide +kernel) rfl rfl rfl rfl rfl ?_
      refine xe_ldn (ins := .iload_n 3) (len := 1) (by decide +kernel) rfl rfl rfl rfl ?_
      obtain ⟨v137, e138, h⟩ := xbnd h
      refine xs_iald rfl (by decide +kernel) hx3 e138 rfl ?_
      refine xe_ldn (ins := .iload_n 2) (len := 1) (by decide +kernel) rfl rfl rfl rfl ?_
      refine xe_ishr (by decide +kernel) rfl ?_
      refine xe_iconst (n := 1) (by decide +kernel) rfl ?_
      refine xe_iand (by decide +kernel) rfl ?_
      refine xe_iconst (n := 1) (by decide +kernel) rfl ?_
      refine xe_icmpne (off := 10) (t := 184) (by decide +kernel) (by decide) rfl (xin_of _) (show xin (1) by decide) (fun c139 => ?_) (fun c139 => ?_)
      · rw [if_pos c139] at h
        refine xW_lv rfl (l := [(0, xR_ (x0)), (1, xR_ (x1)), (2, xI (x2)), (3, xI (x3))]) (xsb_of ⟨rfl, rfl, rfl, rfl, trivial⟩ (show [0, 1, 2, 3].Nodup by decide)) ?_
        exact k24_184  hr132 hr151 hx2 hx3 h
      · rw [if_neg c139] at h
        refine xe_alr (ins := .aload_n 0) (len := 1) (i := 0) (by decide +kernel) rfl rfl rfl rfl rfl ?_
        obtain ⟨v140, e141, h⟩ := xbnd h
        refine xs_gr (i := 38) (c := 3) (k := 10) (by decide +kernel) (by decide) (by decide +kernel) e141 rfl ?_
        refine xe_ldn (ins := .iload_n 2) (len := 1) (by decide +kernel) rfl rfl rfl rfl ?_
        refine xe_ldn (ins := .iload_n 3) (len := 1) (by decide +kernel) rfl rfl rfl rfl ?_
        obtain ⟨M142, e143, h⟩ := xbnd h
        refine xs_iast (by decide +kernel) hx2 e143 rfl ?_
        refine xW_lv rfl (l := [(0, xR_ (x0)), (1, xR_ (x1)), (2, xI (x2)), (3, xI (x3))]) (xsb_of ⟨rfl, rfl, rfl, rfl, trivial⟩ (show [0, 1, 2, 3].Nodup by decide)) ?_
        exact k24_184  hr132 hr151 hx2 hx3 h
def f24_151  (r132 : Nat → Nat → Int → xj_M → Option (xj_M)) (f : Nat) : Nat → Nat → Nat → Int → Int → xj_M → Option (xj_M)
  | 0, _, _, _, _, _ => none
  | n + 1, x0, x1, x2, x3, M => f24_151b  r132 (f24_151  r132 f n) f x0 x1 x2 x3 M
theorem k24_151 {d f : Nat}  {r132 : Nat → Nat → Int → xj_M → Option (xj_M)}  (hr132 : ∀ {x0 : Nat} {x1 : Nat} {x2 : Int} {M : xj_M} {R : xj_M}, xin x2 → r132 x0 x1 x2 M = some R → xW (d + 3) (none, d + 3, none) xr_24 (132, [(0, xR_ x0), (1, xR_ x1), (2, xI x2)], [], M) (xQv R)) : ∀ {n : Nat} {x0 : Nat} {x1 : Nat} {x2 : Int} {x3 : Int} {M : xj_M} {R : xj_M}, xin x2 → xin x3 → f24_151  r132 f n x0 x1 x2 x3 M = some R → xW (d + 3) (none, d + 3, none) xr_24 (151, [(0, xR_ x0), (1, xR_ x1), (2, xI x2), (3, xI x3)], [], M) (xQv R) := by
  intro n
  induction n with
  | zero => intros; rename_i h; cases h
  | succ n ih => intros; rename_i h; exact k24_151b  hr132 ih (by assumption) (by assumption) h
def f24_132b  (r132 : Nat → Nat → Int → xj_M → Option (xj_M)) (f : Nat) (x0 : Nat) (x1 : Nat) (x2 : Int) (M : xj_M) : Option (xj_M) := ((xq_gi 3 1 (x0) M).bind fun v144 => (if (v144) ≤ (x2) then ((xq_is 3 (x0) M).bind fun _ => ((f25  f (x0) M).bind fun M149 => (some M149))) else ((xq_gr 3 10 (x0) M).bind fun v151 => ((xq_si (v151) (x2) (x2) M).bind fun M153 => f24_151  r132 f f (x0) (x1) (x2) (xwr ((x2) - (1))) M153))))
theorem k24_132b {d f : Nat}  {r132 : Nat → Nat → Int → xj_M → Option (xj_M)}  (hr132 : ∀ {x0 : Nat} {x1 : Nat} {x2 : Int} {M : xj_M} {R : xj_M}, xin x2 → r132 x0 x1 x2 M = some R → xW (d + 3) (none, d + 3, none) xr_24 (132, [(0, xR_ x0), (1, xR_ x1), (2, xI x2)], [], M) (xQv R)) {x0 : Nat} {x1 : Nat} {x2 : Int} {M : xj_M} {R : xj_M} (hx2 : xin x2) (h : f24_132b  r132 f x0 x1 x2 M = some R) : xW (d + 3) (none, d + 3, none) xr_24 (132, [(0, xR_ x0), (1, xR_ x1), (2, xI x2)], [], M) (xQv R) := by
  unfold f24_132b at h
  refine xe_ldn (ins := .iload_n 2) (len := 1) (by decide +kernel) rfl rfl rfl rfl ?_
  refine xe_alr (ins := .aload_n 0) (len := 1) (i := 0) (by decide +kernel) rfl rfl rfl rfl rfl ?_
  obtain ⟨v144, e145, h⟩ := xbnd h
  refine xs_gi (i := 51) (c := 3) (k := 1) (by decide +kernel) (by decide) (by decide +kernel) e145 rfl ?_
  refine xe_icmpge (off := 59) (t := 196) (by decide +kernel) (by decide) rfl hx2 (xq_gi_in e145) (fun c146 => ?_) (fun c146 => ?_)
  · rw [if_pos c146] at h
    refine xe_alr (ins := .aload_n 0) (len := 1) (i := 0) (by decide +kernel) rfl rfl rfl rfl rfl ?_
    obtain ⟨_, e148, h⟩ := xbnd h
    obtain ⟨M149, e147, h⟩ := xbnd h
    refine xs_cv (i := 82) (j := 25) (ar := []) (rest := []) (r2 := xr_25) (by decide +kernel) (by decide +kernel) (by decide +kernel) xr_25_e rfl (by decide) (by decide) e148 ?_
    refine xc_v (k25 (d := d + 0)   e147) rfl ?_
    cases h
    exact xe_ret_v (by decide +kernel) rfl ⟨rfl, rfl⟩
  · rw [if_neg c146] at h
    refine xe_alr (ins := .aload_n 0) (len := 1) (i := 0) (by decide +kernel) rfl rfl rfl rfl rfl ?_
    obtain ⟨v151, e152, h⟩ := xbnd h
    refine xs_gr (i := 38) (c := 3) (k := 10) (by decide +kernel) (by decide) (by decide +kernel) e152 rfl ?_
    refine xe_ldn (ins := .iload_n 2) (len := 1) (by decide +kernel) rfl rfl rfl rfl ?_
    refine xe_ldn (ins := .iload_n 2) (len := 1) (by decide +kernel) rfl rfl rfl rfl ?_
    obtain ⟨M153, e154, h⟩ := xbnd h
    refine xs_iast (by decide +kernel) hx2 e154 rfl ?_
    refine xe_ldn (ins := .iload_n 2) (len := 1) (by decide +kernel) rfl rfl rfl rfl ?_
    refine xe_iconst (n := 1) (by decide +kernel) rfl ?_
    refine xe_isub (by decide +kernel) rfl ?_
    refine xe_isr (ins := .istore_n 3) (len := 1) (i := 3) (by decide +kernel) rfl rfl rfl (by decide) (xk_k (show ¬ (0 : Nat) = 3 by decide) (Or.inl (show ¬ (0 + 1 : Nat) = 3 by decide)) (xk_k (show ¬ (1 : Nat) = 3 by decide) (Or.inl (show ¬ (1 + 1 : Nat) = 3 by decide)) (xk_k (show ¬ (2 : Nat) = 3 by decide) (Or.inr (xI_cat _)) xk_n))) rfl ?_
    refine xW_lv rfl (l := [(0, xR_ (x0)), (1, xR_ (x1)), (2, xI (x2)), (3, xI (xwr ((x2) - (1))))]) (xsb_of ⟨rfl, rfl, rfl, rfl, trivial⟩ (show [3, 0, 1, 2].Nodup by decide)) ?_
    exact k24_151  hr132 hx2 (xin_wr _) h
def f24_132   (f : Nat) : Nat → Nat → Nat → Int → xj_M → Option (xj_M)
  | 0, _, _, _, _ => none
  | n + 1, x0, x1, x2, M => f24_132b   (f24_132   f n) f x0 x1 x2 M
theorem k24_132 {d f : Nat}     : ∀ {n : Nat} {x0 : Nat} {x1 : Nat} {x2 : Int} {M : xj_M} {R : xj_M}, xin x2 → f24_132   f n x0 x1 x2 M = some R → xW (d + 3) (none, d + 3, none) xr_24 (132, [(0, xR_ x0), (1, xR_ x1), (2, xI x2)], [], M) (xQv R) := by
  intro n
  induction n with
  | zero => intros; rename_i h; cases h
  | succ n ih => intros; rename_i h; exact k24_132b   ih (by assumption) h
def f24_80b  (r80 : Nat → Nat → Int → xj_M → Option (xj_M)) (f : Nat) (x0 : Nat) (x1 : Nat) (x2 : Int) (M : xj_M) : Option (xj_M) := ((xq_gi 3 1 (x0) M).bind fun v155 => (if (v155) ≤ (x2) then f24_132   f f (x0) (x1) (0) M else f24_90  r80 f f (x0) (x1) (x2) (0) M))
theorem k24_80b {d f : Nat}  {r80 : Nat → Nat → Int → xj_M → Option (xj_M)}  (hr80 : ∀ {x0 : Nat} {x1 : Nat} {x2 : Int} {M : xj_M} {R : xj_M}, xin x2 → r80 x0 x1 x2 M = some R → xW (d + 3) (none, d + 3, none) xr_24 (80, [(0, xR_ x0), (1, xR_ x1), (2, xI x2)], [], M) (xQv R)) {x0 : Nat} {x1 : Nat} {x2 : Int} {M : xj_M} {R : xj_M} (hx2 : xin x2) (h : f24_80b  r80 f x0 x1 x2 M = some R) : xW (d + 3) (none, d + 3, none) xr_24 (80, [(0, xR_ x0), (1, xR_ x1), (2, xI x2)], [], M) (xQv R) := by
  unfold f24_80b at h
  refine xe_ldn (ins := .iload_n 2) (len := 1) (by decide +kernel) rfl rfl rfl rfl ?_
  refine xe_alr (ins := .aload_n 0) (len := 1) (i := 0) (by decide +kernel) rfl rfl rfl rfl rfl ?_
  obtain ⟨v155, e156, h⟩ := xbnd h
  refine xs_gi (i := 51) (c := 3) (k := 1) (by decide +kernel) (by decide) (by decide +kernel) e156 rfl ?_
  refine xe_icmpge (off := 45) (t := 130) (by decide +kernel) (by decide) rfl hx2 (xq_gi_in e156) (fun c157 => ?_) (fun c157 => ?_)
  · rw [if_pos c157] at h
    refine xe_iconst (n := 0) (by decide +kernel) rfl ?_
    refine xe_isr (ins := .istore_n 2) (len := 1) (i := 2) (by decide +kernel) rfl rfl rfl (by decide) (xk_k (show ¬ (0 : Nat) = 2 by decide) (Or.inl (show ¬ (0 + 1 : Nat) = 2 by decide)) (xk_k (show ¬ (1 : Nat) = 2 by decide) (Or.inr (xR_cat _)) (xk_d rfl xk_n))) rfl ?_
    refine xW_lv rfl (l := [(0, xR_ (x0)), (1, xR_ (x1)), (2, xI (0))]) (xsb_of ⟨rfl, rfl, rfl, trivial⟩ (show [2, 0, 1].Nodup by decide)) ?_
    exact k24_132   (show xin (0) by decide) h
  · rw [if_neg c157] at h
    refine xe_iconst (n := 0) (by decide +kernel) rfl ?_
    refine xe_isr (ins := .istore_n 3) (len := 1) (i := 3) (by decide +kernel) rfl rfl rfl (by decide) (xk_k (show ¬ (0 : Nat) = 3 by decide) (Or.inl (show ¬ (0 + 1 : Nat) = 3 by decide)) (xk_k (show ¬ (1 : Nat) = 3 by decide) (Or.inl (show ¬ (1 + 1 : Nat) = 3 by decide)) (xk_k (show ¬ (2 : Nat) = 3 by decide) (Or.inr (xI_cat _)) xk_n))) rfl ?_
    refine xW_lv rfl (l := [(0, xR_ (x0)), (1, xR_ (x1)), (2, xI (x2)), (3, xI (0))]) (xsb_of ⟨rfl, rfl, rfl, rfl, trivial⟩ (show [3, 0, 1, 2].Nodup by decide)) ?_
    exact k24_90  hr80 hx2 (show xin (0) by decide) h
def f24_80   (f : Nat) : Nat → Nat → Nat → Int → xj_M → Option (xj_M)
  | 0, _, _, _, _ => none
  | n + 1, x0, x1, x2, M => f24_80b   (f24_80   f n) f x0 x1 x2 M
theorem k24_80 {d f : Nat}     : ∀ {n : Nat} {x0 : Nat} {x1 : Nat} {x2 : Int} {M : xj_M} {R : xj_M}, xin x2 → f24_80   f n x0 x1 x2 M = some R → xW (d + 3) (none, d + 3, none) xr_24 (80, [(0, xR_ x0), (1, xR_ x1), (2, xI x2)], [], M) (xQv R) := by
  intro n
  induction n with
  | zero => intros; rename_i h; cases h
  | succ n ih => intros; rename_i h; exact k24_80b   ih (by assumption) h
def f24_2b  (r2 : Nat → Int → xj_M → Option (xj_M)) (f : Nat) (x0 : Nat) (x1 : Int) (M : xj_M) : Option (xj_M) := ((xq_gi 3 8 (x0) M).bind fun v158 => (if (v158) ≤ (x1) then ((xq_gr 3 13 (x0) M).bind fun v161 => ((xq_cl 3 (v161) M).bind fun p163 => ((xq_ca 3 (p163.1) p163.2).bind fun _ => f24_80   f f (x0) (p163.1) (0) p163.2))) else ((xq_gr 3 9 (x0) M).bind fun v166 => ((xq_ar (v166) (x1) M).bind fun v168 => f24_19  r2 f f (x0) (x1) (v168) (0) M))))
theorem k24_2b {d f : Nat}  {r2 : Nat → Int → xj_M → Option (xj_M)}  (hr2 : ∀ {x0 : Nat} {x1 : Int} {M : xj_M} {R : xj_M}, xin x1 → r2 x0 x1 M = some R → xW (d + 3) (none, d + 3, none) xr_24 (2, [(0, xR_ x0), (1, xI x1)], [], M) (xQv R)) {x0 : Nat} {x1 : Int} {M : xj_M} {R : xj_M} (hx1 : xin x1) (h : f24_2b  r2 f x0 x1 M = some R) : xW (d + 3) (none, d + 3, none) xr_24 (2, [(0, xR_ x0), (1, xI x1)], [], M) (xQv R) := by
  unfold f24_2b at h
  refine xe_ldn (ins := .iload_n 1) (len := 1) (by decide +kernel) rfl rfl rfl rfl ?_
  refine xe_alr (ins := .aload_n 0) (len := 1) (i := 0) (by decide +kernel) rfl rfl rfl rfl rfl ?_
  obtain ⟨v158, e159, h⟩ := xbnd h
  refine xs_gi (i := 62) (c := 3) (k := 8) (by decide +kernel) (by decide) (by decide +kernel) e159 rfl ?_
  refine xe_icmpge (off := 60) (t := 67) (by decide +kernel) (by decide) rfl hx1 (xq_gi_in e159) (fun c160 => ?_) (fun c160 => ?_)
  · rw [if_pos c160] at h
    refine xe_alr (ins := .aload_n 0) (len := 1) (i := 0) (by decide +kernel) rfl rfl rfl rfl rfl ?_
    obtain ⟨v161, e162, h⟩ := xbnd h
    refine xs_gr (i := 44) (c := 3) (k := 13) (by decide +kernel) (by decide) (by decide +kernel) e162 rfl ?_
    obtain ⟨p163, e164, h⟩ := xbnd h
    refine xs_cl (i := 77) (kk := 3) (by decide +kernel) (by decide +kernel) (by rfl) e164 rfl ?_
    obtain ⟨_, e165, h⟩ := xbnd h
    refine xs_ca (i := 78) (kk := 3) (by decide +kernel) (by decide +kernel) e165 rfl ?_
    refine xe_asr (ins := .astore_n 1) (len := 1) (i := 1) (by decide +kernel) rfl rfl rfl (by decide) (xk_k (show ¬ (0 : Nat) = 1 by decide) (Or.inr (xR_cat _)) (xk_d rfl xk_n)) rfl ?_
    refine xe_iconst (n := 0) (by decide +kernel) rfl ?_
    refine xe_isr (ins := .istore_n 2) (len := 1) (i := 2) (by decide +kernel) rfl rfl rfl (by decide) (xk_k (show ¬ (1 : Nat) = 2 by decide) (Or.inr (xR_cat _)) (xk_k (show ¬ (0 : Nat) = 2 by decide) (Or.inl (show ¬ (0 + 1 : Nat) = 2 by decide)) xk_n)) rfl ?_
    refine xW_lv rfl (l := [(0, xR_ (x0)), (1, xR_ (p163.1)), (2, xI (0))]) (xsb_of ⟨rfl, rfl, rfl, trivial⟩ (show [2, 1, 0].Nodup by decide)) ?_
    exact k24_80   (show xin (0) by decide) h
  · rw [if_neg c160] at h
    refine xe_alr (ins := .aload_n 0) (len := 1) (i := 0) (by decide +kernel) rfl rfl rfl rfl rfl ?_
    obtain ⟨v166, e167, h⟩ := xbnd h
    refine xs_gr (i := 34) (c := 3) (k := 9) (by decide +kernel) (by decide) (by decide +kernel) e167 rfl ?_
    refine xe_ldn (ins := .iload_n 1) (len := 1) (by decide +kernel) rfl rfl rfl rfl ?_
    obtain ⟨v168, e169, h⟩ := xbnd h
    refine xs_aald (by decide +kernel) hx1 e169 rfl ?_
    refine xe_asr (ins := .astore_n 2) (len := 1) (i := 2) (by decide +kernel) rfl rfl rfl (by decide) (xk_k (show ¬ (0 : Nat) = 2 by decide) (Or.inl (show ¬ (0 + 1 : Nat) = 2 by decide)) (xk_k (show ¬ (1 : Nat) = 2 by decide) (Or.inr (xI_cat _)) xk_n)) rfl ?_
    refine xe_iconst (n := 0) (by decide +kernel) rfl ?_
    refine xe_isr (ins := .istore_n 3) (len := 1) (i := 3) (by decide +kernel) rfl rfl rfl (by decide) (xk_k (show ¬ (2 : Nat) = 3 by decide) (Or.inr (xR_cat _)) (xk_k (show ¬ (0 : Nat) = 3 by decide) (Or.inl (show ¬ (0 + 1 : Nat) = 3 by decide)) (xk_k (show ¬ (1 : Nat) = 3 by decide) (Or.inl (show ¬ (1 + 1 : Nat) = 3 by decide)) xk_n))) rfl ?_
    refine xW_lv rfl (l := [(0, xR_ (x0)), (1, xI (x1)), (2, xR_ (v168)), (3, xI (0))]) (xsb_of ⟨rfl, rfl, rfl, rfl, trivial⟩ (show [3, 2, 0, 1].Nodup by decide)) ?_
    exact k24_19  hr2 hx1 (show xin (0) by decide) h
def f24_2   (f : Nat) : Nat → Nat → Int → xj_M → Option (xj_M)
  | 0, _, _, _ => none
  | n + 1, x0, x1, M => f24_2b   (f24_2   f n) f x0 x1 M
theorem k24_2 {d f : Nat}     : ∀ {n : Nat} {x0 : Nat} {x1 : Int} {M : xj_M} {R : xj_M}, xin x1 → f24_2   f n x0 x1 M = some R → xW (d + 3) (none, d + 3, none) xr_24 (2, [(0, xR_ x0), (1, xI x1)], [], M) (xQv R) := by
  intro n
  induction n with
  | zero => intros; rename_i h; cases h
  | succ n ih => intros; rename_i h; exact k24_2b   ih (by assumption) h
def f24  (f : Nat) (a0 : Nat) (M : xj_M) : Option (xj_M) := f24_2   f f (a0) (0) M
theorem k24 {d f : Nat}   {a0 : Nat} {M : xj_M} {R : xj_M}  (h : f24  f a0 M = some R) : xT (d + 4) 24 [xR_ a0] M (xQv R) := by
  refine xT_m xr_24_e (X := (none, d + 3, none)) rfl (xa_1 (xR_cat _) xa_n) (by decide) ?_
  unfold f24 at h
  refine xe_iconst (n := 0) (by decide +kernel) rfl ?_
  refine xe_isr (ins := .istore_n 1) (len := 1) (i := 1) (by decide +kernel) rfl rfl rfl (by decide) (xk_k (show ¬ (0 : Nat) = 1 by decide) (Or.inr (xR_cat _)) xk_n) rfl ?_
  refine xW_lv rfl (l := [(0, xR_ (a0)), (1, xI (0))]) (xsb_of ⟨rfl, rfl, trivial⟩ (show [1, 0].Nodup by decide)) ?_
  exact k24_2   (show xin (0) by decide) h
