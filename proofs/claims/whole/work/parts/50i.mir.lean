/-! Mirrors (written by mk_mir.py) -/
-- ChangeHouseModel.readInput
def xr_234 : xj_mR := (15, yX15_readInput, cX15_readInput, 6, (Option.none : Option Jvm.ClassFile.FieldType), 0, false, (8, 201), (1, 12))
set_option maxRecDepth 20000 in
theorem xr_234_e : xj_row 234 = some xr_234 := rfl
def f234_118   (f : Nat) (x0 : Nat) (x1 : Int) (x2 : Int) (x3 : Int) (M : xj_M) : Option (xj_M) := ((xq_is 15 (x0) M).bind fun _ => ((f229  f (x0) (x2) (x1) (x3) (1) M).bind fun M103 => (some M103)))
theorem k234_118 {d f : Nat}     {x0 : Nat} {x1 : Int} {x2 : Int} {x3 : Int} {M : xj_M} {R : xj_M} (hx1 : xin x1) (hx2 : xin x2) (hx3 : xin x3) (h : f234_118   f x0 x1 x2 x3 M = some R) : xW (d + 8) (none, d + 8, none) xr_234 (118, [(0, xR_ x0), (1, xI x1), (2, xI x2), (3, xI x3)], [], M) (xQv R) := by
  unfold f234_118 at h
  refine xe_alr (ins := .aload_n 0) (len := 1) (i := 0) (by decide +kernel) rfl rfl rfl rfl rfl ?_
  refine xe_ldn (ins := .iload_n 2) (len := 1) (by decide +kernel) rfl rfl rfl rfl ?_
  refine xe_ldn (ins := .iload_n 1) (len := 1) (by decide +kernel) rfl rfl rfl rfl ?_
  refine xe_ldn (ins := .iload_n 3) (len := 1) (by decide +kernel) rfl rfl rfl rfl ?_
  refine xe_iconst (n := 1) (by decide +kernel) rfl ?_
  obtain ⟨_, e102, h⟩ := xbnd h
  obtain ⟨M103, e101, h⟩ := xbnd h
  refine xs_cv (i := 255) (j := 229) (ar := [xI (1), xI (x3), xI (x1), xI (x2)]) (rest := []) (r2 := xr_229) (by decide +kernel) (by decide +kernel) (by decide +kernel) xr_229_e rfl (by decide) (by decide) e102 ?_
  refine xc_v (k229 (d := d + 7)  hx2 hx1 hx3 (show xin (1) by decide) e101) rfl ?_
  cases h
  exact xe_ret_v (by decide +kernel) rfl ⟨rfl, rfl⟩
def f234_90   (f : Nat) (x0 : Nat) (x1 : Int) (x2 : Int) (x3 : Int) (x4 : Int) (y0 : Int) (M : xj_M) : Option (xj_M) := ((xq_gr 15 22 (x0) M).bind fun v105 => ((xq_gr 14 5 (v105) M).bind fun v107 => ((xq_sb (v107) (x2) (1) M).bind fun M109 => (if (y0) = 0 then f234_118   f (x0) (x1) (x2) (x3) M109 else ((xq_gr 15 22 (x0) M109).bind fun v112 => ((xq_gr 14 2 (v112) M109).bind fun v114 => ((xq_si (v114) (x2) (x4) M109).bind fun M116 => f234_118   f (x0) (x1) (x2) (x3) M116)))))))
theorem k234_90 {d f : Nat}     {x0 : Nat} {x1 : Int} {x2 : Int} {x3 : Int} {x4 : Int} {y0 : Int} {M : xj_M} {R : xj_M} (hx1 : xin x1) (hx2 : xin x2) (hx3 : xin x3) (hx4 : xin x4) (hy0 : xin y0) (h : f234_90   f x0 x1 x2 x3 x4 y0 M = some R) : xW (d + 8) (none, d + 8, none) xr_234 (90, [(0, xR_ x0), (1, xI x1), (2, xI x2), (3, xI x3), (4, xI x4)], [xI y0], M) (xQv R) := by
  unfold f234_90 at h
  refine xe_isr (ins := .istore 5) (len := 2) (i := 5) (by decide +kernel) rfl rfl rfl (by decide) (xk_k (show ¬ (0 : Nat) = 5 by decide) (Or.inl (show ¬ (0 + 1 : Nat) = 5 by decide)) (xk_k (show ¬ (1 : Nat) = 5 by decide) (Or.inl (show ¬ (1 + 1 : Nat) = 5 by decide)) (xk_k (show ¬ (2 : Nat) = 5 by decide) (Or.inl (show ¬ (2 + 1 : Nat) = 5 by decide)) (xk_k (show ¬ (3 : Nat) = 5 by decide) (Or.inl (show ¬ (3 + 1 : Nat) = 5 by decide)) (xk_k (show ¬ (4 : Nat) = 5 by decide) (Or.inr (xI_cat _)) xk_n))))) rfl ?_
  refine xe_alr (ins := .aload_n 0) (len := 1) (i := 0) (by decide +kernel) rfl rfl rfl rfl rfl ?_
  obtain ⟨v105, e106, h⟩ := xbnd h
  refine xs_gr (i := 197) (c := 15) (k := 22) (by decide +kernel) (by decide) (by decide +kernel) e106 rfl ?_
  obtain ⟨v107, e108, h⟩ := xbnd h
  refine xs_gr (i := 187) (c := 14) (k := 5) (by decide +kernel) (by decide) (by decide +kernel) e108 rfl ?_
  refine xe_ldn (ins := .iload_n 2) (len := 1) (by decide +kernel) rfl rfl rfl rfl ?_
  refine xe_iconst (n := 1) (by decide +kernel) rfl ?_
  obtain ⟨M109, e110, h⟩ := xbnd h
  refine xs_bast (by decide +kernel) hx2 e110 rfl ?_
  refine xe_ldn (ins := .iload 5) (len := 2) (by decide +kernel) rfl rfl rfl rfl ?_
  refine xe_ifeq (off := 14) (t := 118) (by decide +kernel) (by decide) rfl hy0 (fun c111 => ?_) (fun c111 => ?_)
  · rw [if_pos c111] at h
    refine xW_lv rfl (l := [(0, xR_ (x0)), (1, xI (x1)), (2, xI (x2)), (3, xI (x3))]) (xsb_of ⟨rfl, rfl, rfl, rfl, trivial⟩ (show [5, 0, 1, 2, 3, 4].Nodup by decide)) ?_
    exact k234_118   hx1 hx2 hx3 h
  · rw [if_neg c111] at h
    refine xe_alr (ins := .aload_n 0) (len := 1) (i := 0) (by decide +kernel) rfl rfl rfl rfl rfl ?_
    obtain ⟨v112, e113, h⟩ := xbnd h
    refine xs_gr (i := 197) (c := 15) (k := 22) (by decide +kernel) (by decide) (by decide +kernel) e113 rfl ?_
    obtain ⟨v114, e115, h⟩ := xbnd h
    refine xs_gr (i := 184) (c := 14) (k := 2) (by decide +kernel) (by decide) (by decide +kernel) e115 rfl ?_
    refine xe_ldn (ins := .iload_n 2) (len := 1) (by decide +kernel) rfl rfl rfl rfl ?_
    refine xe_ldn (ins := .iload 4) (len := 2) (by decide +kernel) rfl rfl rfl rfl ?_
    obtain ⟨M116, e117, h⟩ := xbnd h
    refine xs_iast (by decide +kernel) hx2 e117 rfl ?_
    refine xW_lv rfl (l := [(0, xR_ (x0)), (1, xI (x1)), (2, xI (x2)), (3, xI (x3))]) (xsb_of ⟨rfl, rfl, rfl, rfl, trivial⟩ (show [5, 0, 1, 2, 3, 4].Nodup by decide)) ?_
    exact k234_118   hx1 hx2 hx3 h
def f234_59   (f : Nat) (x0 : Nat) (x1 : Int) (x2 : Int) (x3 : Int) (x4 : Int) (M : xj_M) : Option (xj_M) := ((xq_is 15 (x0) M).bind fun _ => ((f222  f (x0) (46) M).bind fun M120 => ((xq_is 15 (x0) M120).bind fun _ => ((f211  f (x0) M120).bind fun R124 => (if (R124.1) = 0 then ((xq_gr 15 22 (x0) R124.2).bind fun v127 => ((xq_gr 14 5 (v127) R124.2).bind fun v129 => ((xq_ab (v129) (x2) R124.2).bind fun v131 => (if ¬ (v131) = 0 then f234_90   f (x0) (x1) (x2) (x3) (x4) (0) R124.2 else f234_90   f (x0) (x1) (x2) (x3) (x4) (1) R124.2)))) else (some R124.2))))))
theorem k234_59 {d f : Nat}     {x0 : Nat} {x1 : Int} {x2 : Int} {x3 : Int} {x4 : Int} {M : xj_M} {R : xj_M} (hx1 : xin x1) (hx2 : xin x2) (hx3 : xin x3) (hx4 : xin x4) (h : f234_59   f x0 x1 x2 x3 x4 M = some R) : xW (d + 8) (none, d + 8, none) xr_234 (59, [(0, xR_ x0), (1, xI x1), (2, xI x2), (3, xI x3), (4, xI x4)], [], M) (xQv R) := by
  unfold f234_59 at h
  refine xe_alr (ins := .aload_n 0) (len := 1) (i := 0) (by decide +kernel) rfl rfl rfl rfl rfl ?_
  refine xe_bipush (n := 46) (by decide +kernel) (by decide) rfl ?_
  obtain ⟨_, e119, h⟩ := xbnd h
  obtain ⟨M120, e118, h⟩ := xbnd h
  refine xs_cv (i := 248) (j := 222) (ar := [xI (46)]) (rest := []) (r2 := xr_222) (by decide +kernel) (by decide +kernel) (by decide +kernel) xr_222_e rfl (by decide) (by decide) e119 ?_
  refine xc_v (k222 (d := d + 0)  (show xin (46) by decide) e118) rfl ?_
  refine xe_alr (ins := .aload_n 0) (len := 1) (i := 0) (by decide +kernel) rfl rfl rfl rfl rfl ?_
  obtain ⟨_, e123, h⟩ := xbnd h
  obtain ⟨R124, e122, h⟩ := xbnd h
  refine xs_cv (i := 28) (j := 211) (ar := []) (rest := []) (r2 := xr_211) (by decide +kernel) (by decide +kernel) (by decide +kernel) xr_211_e rfl (by decide) (by decide) e123 ?_
  refine xc_i (k211 (d := d + 7)   e122) rfl (fun hi125 => ?_)
  refine xe_ifeq (off := 4) (t := 73) (by decide +kernel) (by decide) rfl hi125 (fun c126 => ?_) (fun c126 => ?_)
  · rw [if_pos c126] at h
    refine xe_alr (ins := .aload_n 0) (len := 1) (i := 0) (by decide +kernel) rfl rfl rfl rfl rfl ?_
    obtain ⟨v127, e128, h⟩ := xbnd h
    refine xs_gr (i := 197) (c := 15) (k := 22) (by decide +kernel) (by decide) (by decide +kernel) e128 rfl ?_
    obtain ⟨v129, e130, h⟩ := xbnd h
    refine xs_gr (i := 187) (c := 14) (k := 5) (by decide +kernel) (by decide) (by decide +kernel) e130 rfl ?_
    refine xe_ldn (ins := .iload_n 2) (len := 1) (by decide +kernel) rfl rfl rfl rfl ?_
    obtain ⟨v131, e132, h⟩ := xbnd h
    refine xs_bald (by decide +kernel) hx2 e132 rfl ?_
    refine xe_ifne (off := 7) (t := 89) (by decide +kernel) (by decide) rfl (xq_ab_in e132) (fun c133 => ?_) (fun c133 => ?_)
    · rw [if_pos c133] at h
      refine xe_iconst (n := 0) (by decide +kernel) rfl ?_
      refine xW_lv rfl (l := [(0, xR_ (x0)), (1, xI (x1)), (2, xI (x2)), (3, xI (x3)), (4, xI (x4))]) (xsb_of ⟨rfl, rfl, rfl, rfl, rfl, trivial⟩ (show [0, 1, 2, 3, 4].Nodup by decide)) ?_
      exact k234_90   hx1 hx2 hx3 hx4 (show xin (0) by decide) h
    · rw [if_neg c133] at h
      refine xe_iconst (n := 1) (by decide +kernel) rfl ?_
      refine xe_goto (off := 4) (nx := 90) (by decide +kernel) (by decide) ?_
      refine xW_lv rfl (l := [(0, xR_ (x0)), (1, xI (x1)), (2, xI (x2)), (3, xI (x3)), (4, xI (x4))]) (xsb_of ⟨rfl, rfl, rfl, rfl, rfl, trivial⟩ (show [0, 1, 2, 3, 4].Nodup by decide)) ?_
      exact k234_90   hx1 hx2 hx3 hx4 (show xin (1) by decide) h
  · rw [if_neg c126] at h
    cases h
    exact xe_ret_v (by decide +kernel) rfl ⟨rfl, rfl⟩
def f234  (f : Nat) (a0 : Nat) (M : xj_M) : Option (xj_M) := ((xq_is 15 (a0) M).bind fun _ => ((f213  f (a0) M).bind fun M136 => ((xq_gi 15 4 (a0) M136).bind fun v138 => ((xq_is 15 (a0) M136).bind fun _ => ((f232  f (a0) M136).bind fun R142 => ((xq_is 15 (a0) R142.2).bind fun _ => ((f213  f (a0) R142.2).bind fun M146 => ((xq_is 15 (a0) M146).bind fun _ => ((f222  f (a0) (47) M146).bind fun M150 => ((xq_is 15 (a0) M150).bind fun _ => ((f233  f (a0) (1) (4) M150).bind fun R154 => ((xq_gl 15 14 (a0) R154.2).bind fun v156 => ((xq_is 15 (a0) R154.2).bind fun _ => ((f225  f (a0) (v156) R154.2).bind fun R160 => (if (R160.1) = 0 then f234_59   f (a0) (v138) (R142.1) (R154.1) (0) R160.2 else ((xq_is 15 (a0) R160.2).bind fun _ => ((f213  f (a0) R160.2).bind fun M165 => ((xq_is 15 (a0) M165).bind fun _ => ((f233  f (a0) (1) (xwr ((R154.1) - (1))) M165).bind fun R169 => f234_59   f (a0) (v138) (R142.1) (R154.1) (R169.1) R169.2)))))))))))))))))))
theorem k234 {d f : Nat}   {a0 : Nat} {M : xj_M} {R : xj_M}  (h : f234  f a0 M = some R) : xT (d + 9) 234 [xR_ a0] M (xQv R) := by
  refine xT_m xr_234_e (X := (none, d + 8, none)) rfl (xa_1 (xR_cat _) xa_n) (by decide) ?_
  unfold f234 at h
  refine xe_alr (ins := .aload_n 0) (len := 1) (i := 0) (by decide +kernel) rfl rfl rfl rfl rfl ?_
  obtain ⟨_, e135, h⟩ := xbnd h
  obtain ⟨M136, e134, h⟩ := xbnd h
  refine xs_cv (i := 118) (j := 213) (ar := []) (rest := []) (r2 := xr_213) (by decide +kernel) (by decide +kernel) (by decide +kernel) xr_213_e rfl (by decide) (by decide) e135 ?_
  refine xc_v (k213 (d := d + 1)   e134) rfl ?_
  refine xe_alr (ins := .aload_n 0) (len := 1) (i := 0) (by decide +kernel) rfl rfl rfl rfl rfl ?_
  obtain ⟨v138, e139, h⟩ := xbnd h
  refine xs_gi (i := 43) (c := 15) (k := 4) (by decide +kernel) (by decide) (by decide +kernel) e139 rfl ?_
  refine xe_isr (ins := .istore_n 1) (len := 1) (i := 1) (by decide +kernel) rfl rfl rfl (by decide) (xk_k (show ¬ (0 : Nat) = 1 by decide) (Or.inr (xR_cat _)) xk_n) rfl ?_
  refine xe_alr (ins := .aload_n 0) (len := 1) (i := 0) (by decide +kernel) rfl rfl rfl rfl rfl ?_
  obtain ⟨_, e141, h⟩ := xbnd h
  obtain ⟨R142, e140, h⟩ := xbnd h
  refine xs_cv (i := 245) (j := 232) (ar := []) (rest := []) (r2 := xr_232) (by decide +kernel) (by decide +kernel) (by decide +kernel) xr_232_e rfl (by decide) (by decide) e141 ?_
  refine xc_i (k232 (d := d + 4)   e140) rfl (fun hi143 => ?_)
  refine xe_isr (ins := .istore_n 2) (len := 1) (i := 2) (by decide +kernel) rfl rfl rfl (by decide) (xk_k (show ¬ (1 : Nat) = 2 by decide) (Or.inr (xI_cat _)) (xk_k (show ¬ (0 : Nat) = 2 by decide) (Or.inl (show ¬ (0 + 1 : Nat) = 2 by decide)) xk_n)) rfl ?_
  refine xe_alr (ins := .aload_n 0) (len := 1) (i := 0) (by decide +kernel) rfl rfl rfl rfl rfl ?_
  obtain ⟨_, e145, h⟩ := xbnd h
  obtain ⟨M146, e144, h⟩ := xbnd h
  refine xs_cv (i := 118) (j := 213) (ar := []) (rest := []) (r2 := xr_213) (by decide +kernel) (by decide +kernel) (by decide +kernel) xr_213_e rfl (by decide) (by decide) e145 ?_
  refine xc_v (k213 (d := d + 1)   e144) rfl ?_
  refine xe_alr (ins := .aload_n 0) (len := 1) (i := 0) (by decide +kernel) rfl rfl rfl rfl rfl ?_
  refine xe_bipush (n := 47) (by decide +kernel) (by decide) rfl ?_
  obtain ⟨_, e149, h⟩ := xbnd h
  obtain ⟨M150, e148, h⟩ := xbnd h
  refine xs_cv (i := 248) (j := 222) (ar := [xI (47)]) (rest := []) (r2 := xr_222) (by decide +kernel) (by decide +kernel) (by decide +kernel) xr_222_e rfl (by decide) (by decide) e149 ?_
  refine xc_v (k222 (d := d + 0)  (show xin (47) by decide) e148) rfl ?_
  refine xe_alr (ins := .aload_n 0) (len := 1) (i := 0) (by decide +kernel) rfl rfl rfl rfl rfl ?_
  refine xe_iconst (n := 1) (by decide +kernel) rfl ?_
  refine xe_iconst (n := 4) (by decide +kernel) rfl ?_
  obtain ⟨_, e153, h⟩ := xbnd h
  obtain ⟨R154, e152, h⟩ := xbnd h
  refine xs_cv (i := 251) (j := 233) (ar := [xI (4), xI (1)]) (rest := []) (r2 := xr_233) (by decide +kernel) (by decide +kernel) (by decide +kernel) xr_233_e rfl (by decide) (by decide) e153 ?_
  refine xc_i (k233 (d := d + 0)  (show xin (1) by decide) (show xin (4) by decide) e152) rfl (fun hi155 => ?_)
  refine xe_isr (ins := .istore_n 3) (len := 1) (i := 3) (by decide +kernel) rfl rfl rfl (by decide) (xk_k (show ¬ (2 : Nat) = 3 by decide) (Or.inr (xI_cat _)) (xk_k (show ¬ (1 : Nat) = 3 by decide) (Or.inl (show ¬ (1 + 1 : Nat) = 3 by decide)) (xk_k (show ¬ (0 : Nat) = 3 by decide) (Or.inl (show ¬ (0 + 1 : Nat) = 3 by decide)) xk_n))) rfl ?_
  refine xe_iconst (n := 0) (by decide +kernel) rfl ?_
  refine xe_isr (ins := .istore 4) (len := 2) (i := 4) (by decide +kernel) rfl rfl rfl (by decide) (xk_k (show ¬ (3 : Nat) = 4 by decide) (Or.inr (xI_cat _)) (xk_k (show ¬ (2 : Nat) = 4 by decide) (Or.inl (show ¬ (2 + 1 : Nat) = 4 by decide)) (xk_k (show ¬ (1 : Nat) = 4 by decide) (Or.inl (show ¬ (1 + 1 : Nat) = 4 by decide)) (xk_k (show ¬ (0 : Nat) = 4 by decide) (Or.inl (show ¬ (0 + 1 : Nat) = 4 by decide)) xk_n)))) rfl ?_
  refine xe_alr (ins := .aload_n 0) (len := 1) (i := 0) (by decide +kernel) rfl rfl rfl rfl rfl ?_
  refine xe_alr (ins := .aload_n 0) (len := 1) (i := 0) (by decide +kernel) rfl rfl rfl rfl rfl ?_
  obtain ⟨v156, e157, h⟩ := xbnd h
  refine xs_gl (i := 135) (c := 15) (k := 14) (by decide +kernel) (by decide) (by decide +kernel) e157 rfl ?_
  obtain ⟨_, e159, h⟩ := xbnd h
  obtain ⟨R160, e158, h⟩ := xbnd h
  refine xs_cv (i := 229) (j := 225) (ar := [xZ (v156)]) (rest := []) (r2 := xr_225) (by decide +kernel) (by decide +kernel) (by decide +kernel) xr_225_e rfl (by decide) (by decide) e159 ?_
  refine xc_i (k225 (d := d + 5)  (xq_gl_in e157) e158) rfl (fun hi161 => ?_)
  refine xe_ifeq (off := 17) (t := 59) (by decide +kernel) (by decide) rfl hi161 (fun c162 => ?_) (fun c162 => ?_)
  · rw [if_pos c162] at h
    refine xW_lv rfl (l := [(0, xR_ (a0)), (1, xI (v138)), (2, xI (R142.1)), (3, xI (R154.1)), (4, xI (0))]) (xsb_of ⟨rfl, rfl, rfl, rfl, rfl, trivial⟩ (show [4, 3, 2, 1, 0].Nodup by decide)) ?_
    exact k234_59   (xq_gi_in e139) hi143 hi155 (show xin (0) by decide) h
  · rw [if_neg c162] at h
    refine xe_alr (ins := .aload_n 0) (len := 1) (i := 0) (by decide +kernel) rfl rfl rfl rfl rfl ?_
    obtain ⟨_, e164, h⟩ := xbnd h
    obtain ⟨M165, e163, h⟩ := xbnd h
    refine xs_cv (i := 118) (j := 213) (ar := []) (rest := []) (r2 := xr_213) (by decide +kernel) (by decide +kernel) (by decide +kernel) xr_213_e rfl (by decide) (by decide) e164 ?_
    refine xc_v (k213 (d := d + 1)   e163) rfl ?_
    refine xe_alr (ins := .aload_n 0) (len := 1) (i := 0) (by decide +kernel) rfl rfl rfl rfl rfl ?_
    refine xe_iconst (n := 1) (by decide +kernel) rfl ?_
    refine xe_ldn (ins := .iload_n 3) (len := 1) (by decide +kernel) rfl rfl rfl rfl ?_
    refine xe_iconst (n := 1) (by decide +kernel) rfl ?_
    refine xe_isub (by decide +kernel) rfl ?_
    obtain ⟨_, e168, h⟩ := xbnd h
    obtain ⟨R169, e167, h⟩ := xbnd h
    refine xs_cv (i := 251) (j := 233) (ar := [xI (xwr ((R154.1) - (1))), xI (1)]) (rest := []) (r2 := xr_233) (by decide +kernel) (by decide +kernel) (by decide +kernel) xr_233_e rfl (by decide) (by decide) e168 ?_
    refine xc_i (k233 (d := d + 0)  (show xin (1) by decide) (xin_wr _) e167) rfl (fun hi170 => ?_)
    refine xe_isr (ins := .istore 4) (len := 2) (i := 4) (by decide +kernel) rfl rfl rfl (by decide) (xk_d rfl (xk_k (show ¬ (3 : Nat) = 4 by decide) (Or.inr (xI_cat _)) (xk_k (show ¬ (2 : Nat) = 4 by decide) (Or.inl (show ¬ (2 + 1 : Nat) = 4 by decide)) (xk_k (show ¬ (1 : Nat) = 4 by decide) (Or.inl (show ¬ (1 + 1 : Nat) = 4 by decide)) (xk_k (show ¬ (0 : Nat) = 4 by decide) (Or.inl (show ¬ (0 + 1 : Nat) = 4 by decide)) xk_n))))) rfl ?_
    refine xW_lv rfl (l := [(0, xR_ (a0)), (1, xI (v138)), (2, xI (R142.1)), (3, xI (R154.1)), (4, xI (R169.1))]) (xsb_of ⟨rfl, rfl, rfl, rfl, rfl, trivial⟩ (show [4, 3, 2, 1, 0].Nodup by decide)) ?_
    exact k234_59   (xq_gi_in e139) hi143 hi155 hi170 h
-- ChangeHouseModel.readOutput
def xr_235 : xj_mR := (15, yX15_readOutput, cX15_readOutput, 3, (Option.none : Option Jvm.ClassFile.FieldType), 0, false, (9, 9), (1, 12))
set_option maxRecDepth 20000 in
theorem xr_235_e : xj_row 235 = some xr_235 := rfl
def f235  (f : Nat) (a0 : Nat) (M : xj_M) : Option (xj_M) := ((xq_is 15 (a0) M).bind fun _ => ((f213  f (a0) M).bind fun M103 => ((xq_gi 15 4 (a0) M103).bind fun v105 => ((xq_is 15 (a0) M103).bind fun _ => ((f232  f (a0) M103).bind fun R109 => ((xq_is 15 (a0) R109.2).bind fun _ => ((f213  f (a0) R109.2).bind fun M113 => ((xq_is 15 (a0) M113).bind fun _ => ((f222  f (a0) (46) M113).bind fun M117 => ((xq_is 15 (a0) M117).bind fun _ => ((f211  f (a0) M117).bind fun R121 => (if (R121.1) = 0 then ((xq_gr 15 22 (a0) R121.2).bind fun v124 => ((xq_gr 14 6 (v124) R121.2).bind fun v126 => ((xq_sb (v126) (R109.1) (1) R121.2).bind fun M128 => ((xq_is 15 (a0) M128).bind fun _ => ((f229  f (a0) (R109.1) (v105) (-1) (2) M128).bind fun M132 => (some M132)))))) else (some R121.2)))))))))))))
theorem k235 {d f : Nat}   {a0 : Nat} {M : xj_M} {R : xj_M}  (h : f235  f a0 M = some R) : xT (d + 9) 235 [xR_ a0] M (xQv R) := by
  refine xT_m xr_235_e (X := (none, d + 8, none)) rfl (xa_1 (xR_cat _) xa_n) (by decide) ?_
  unfold f235 at h
  refine xe_alr (ins := .aload_n 0) (len := 1) (i := 0) (by decide +kernel) rfl rfl rfl rfl rfl ?_
  obtain ⟨_, e102, h⟩ := xbnd h
  obtain ⟨M103, e101, h⟩ := xbnd h
  refine xs_cv (i := 118) (j := 213) (ar := []) (rest := []) (r2 := xr_213) (by decide +kernel) (by decide +kernel) (by decide +kernel) xr_213_e rfl (by decide) (by decide) e102 ?_
  refine xc_v (k213 (d := d + 1)   e101) rfl ?_
  refine xe_alr (ins := .aload_n 0) (len := 1) (i := 0) (by decide +kernel) rfl rfl rfl rfl rfl ?_
  obtain ⟨v105, e106, h⟩ := xbnd h
  refine xs_gi (i := 43) (c := 15) (k := 4) (by decide +kernel) (by decide) (by decide +kernel) e106 rfl ?_
  refine xe_isr (ins := .istore_n 1) (len := 1) (i := 1) (by decide +kernel) rfl rfl rfl (by decide) (xk_k (show ¬ (0 : Nat) = 1 by decide) (Or.inr (xR_cat _)) xk_n) rfl ?_
  refine xe_alr (ins := .aload_n 0) (len := 1) (i := 0) (by decide +kernel) rfl rfl rfl rfl rfl ?_
  obtain ⟨_, e108, h⟩ := xbnd h
  obtain ⟨R109, e107, h⟩ := xbnd h
  refine xs_cv (i := 245) (j := 232) (ar := []) (rest := []) (r2 := xr_232) (by decide +kernel) (by decide +kernel) (by decide +kernel) xr_232_e rfl (by decide) (by decide) e108 ?_
  refine xc_i (k232 (d := d + 4)   e107) rfl (fun hi110 => ?_)
  refine xe_isr (ins := .istore_n 2) (len := 1) (i := 2) (by decide +kernel) rfl rfl rfl (by decide) (xk_k (show ¬ (1 : Nat) = 2 by decide) (Or.inr (xI_cat _)) (xk_k (show ¬ (0 : Nat) = 2 by decide) (Or.inl (show ¬ (0 + 1 : Nat) = 2 by decide)) xk_n)) rfl ?_
  refine xe_alr (ins := .aload_n 0) (len := 1) (i := 0) (by decide +kernel) rfl rfl rfl rfl rfl ?_
  obtain ⟨_, e112, h⟩ := xbnd h
  obtain ⟨M113, e111, h⟩ := xbnd h
  refine xs_cv (i := 118) (j := 213) (ar := []) (rest := []) (r2 := xr_213) (by decide +kernel) (by decide +kernel) (by decide +kernel) xr_213_e rfl (by decide) (by decide) e112 ?_
  refine xc_v (k213 (d := d + 1)   e111) rfl ?_
  refine xe_alr (ins := .aload_n 0) (len := 1) (i := 0) (by decide +kernel) rfl rfl rfl rfl rfl ?_
  refine xe_bipush (n := 46) (by decide +kernel) (by decide) rfl ?_
  obtain ⟨_, e116, h⟩ := xbnd h
  obtain ⟨M117, e115, h⟩ := xbnd h
  refine xs_cv (i := 248) (j := 222) (ar := [xI (46)]) (rest := []) (r2 := xr_222) (by decide +kernel) (by decide +kernel) (by decide +kernel) xr_222_e rfl (by decide) (by decide) e116 ?_
  refine xc_v (k222 (d := d + 0)  (show xin (46) by decide) e115) rfl ?_
  refine xe_alr (ins := .aload_n 0) (len := 1) (i := 0) (by decide +kernel) rfl rfl rfl rfl rfl ?_
  obtain ⟨_, e120, h⟩ := xbnd h
  obtain ⟨R121, e119, h⟩ := xbnd h
  refine xs_cv (i := 28) (j := 211) (ar := []) (rest := []) (r2 := xr_211) (by decide +kernel) (by decide +kernel) (by decide +kernel) xr_211_e rfl (by decide) (by decide) e120 ?_
  refine xc_i (k211 (d := d + 7)   e119) rfl (fun hi122 => ?_)
  refine xe_ifeq (off := 4) (t := 32) (by decide +kernel) (by decide) rfl hi122 (fun c123 => ?_) (fun c123 => ?_)
  · rw [if_pos c123] at h
    refine xe_alr (ins := .aload_n 0) (len := 1) (i := 0) (by decide +kernel) rfl rfl rfl rfl rfl ?_
    obtain ⟨v124, e125, h⟩ := xbnd h
    refine xs_gr (i := 197) (c := 15) (k := 22) (by decide +kernel) (by decide) (by decide +kernel) e125 rfl ?_
    obtain ⟨v126, e127, h⟩ := xbnd h
    refine xs_gr (i := 191) (c := 14) (k := 6) (by decide +kernel) (by decide) (by decide +kernel) e127 rfl ?_
    refine xe_ldn (ins := .iload_n 2) (len := 1) (by decide +kernel) rfl rfl rfl rfl ?_
    refine xe_iconst (n := 1) (by decide +kernel) rfl ?_
    obtain ⟨M128, e129, h⟩ := xbnd h
    refine xs_bast (by decide +kernel) hi110 e129 rfl ?_
    refine xe_alr (ins := .aload_n 0) (len := 1) (i := 0) (by decide +kernel) rfl rfl rfl rfl rfl ?_
    refine xe_ldn (ins := .iload_n 2) (len := 1) (by decide +kernel) rfl rfl rfl rfl ?_
    refine xe_ldn (ins := .iload_n 1) (len := 1) (by decide +kernel) rfl rfl rfl rfl ?_
    refine xe_iconst (n := -1) (by decide +kernel) rfl ?_
    refine xe_iconst (n := 2) (by decide +kernel) rfl ?_
    obtain ⟨_, e131, h⟩ := xbnd h
    obtain ⟨M132, e130, h⟩ := xbnd h
    refine xs_cv (i := 255) (j := 229) (ar := [xI (2), xI (-1), xI (v105), xI (R109.1)]) (rest := []) (r2 := xr_229) (by decide +kernel) (by decide +kernel) (by decide +kernel) xr_229_e rfl (by decide) (by decide) e131 ?_
    refine xc_v (k229 (d := d + 7)  hi110 (xq_gi_in e106) (show xin (-1) by decide) (show xin (2) by decide) e130) rfl ?_
    cases h
    exact xe_ret_v (by decide +kernel) rfl ⟨rfl, rfl⟩
  · rw [if_neg c123] at h
    cases h
    exact xe_ret_v (by decide +kernel) rfl ⟨rfl, rfl⟩
-- ChangeHouseModel.variable
def xr_239 : xj_mR := (15, yX15_variable, cX15_variable, 3, (Option.some Jvm.ClassFile.FieldType.int), 0, false, (9, 33), (1, 12))
set_option maxRecDepth 20000 in
theorem xr_239_e : xj_row 239 = some xr_239 := rfl
def f239_147   (f : Nat) (x0 : Nat) (x2 : Int) (M : xj_M) : Option (Int × xj_M) := ((xq_is 15 (x0) M).bind fun _ => ((f213  f (x0) M).bind fun M103 => (some (x2, M103))))
theorem k239_147 {d f : Nat}     {x0 : Nat} {x2 : Int} {M : xj_M} {R : Int × xj_M} (hx2 : xin x2) (h : f239_147   f x0 x2 M = some R) : xW (d + 7) (none, d + 7, none) xr_239 (147, [(0, xR_ x0), (2, xI x2)], [], M) (xQi R) := by
  unfold f239_147 at h
  refine xe_alr (ins := .aload_n 0) (len := 1) (i := 0) (by decide +kernel) rfl rfl rfl rfl rfl ?_
  obtain ⟨_, e102, h⟩ := xbnd h
  obtain ⟨M103, e101, h⟩ := xbnd h
  refine xs_cv (i := 118) (j := 213) (ar := []) (rest := []) (r2 := xr_213) (by decide +kernel) (by decide +kernel) (by decide +kernel) xr_213_e rfl (by decide) (by decide) e102 ?_
  refine xc_v (k213 (d := d + 0)   e101) rfl ?_
  refine xe_ldn (ins := .iload_n 2) (len := 1) (by decide +kernel) rfl rfl rfl rfl ?_
  cases h
  exact xe_ret_i (ty := .int) (by decide +kernel) rfl rfl ⟨rfl, rfl, hx2⟩
def f239_69   (f : Nat) (x0 : Nat) (x1 : Int) (x2 : Int) (M : xj_M) : Option (Int × xj_M) := (if ¬ (x2) = (8) then ((xq_gr 15 22 (x0) M).bind fun v106 => ((xq_gr 14 22 (v106) M).bind fun v108 => ((xq_gi 15 23 (x0) M).bind fun v110 => ((xq_ai 3 (v108) (v110) M).bind fun v112 => (if ¬ (x2) = (v112) then f239_147   f (x0) (x2) M else ((xq_gr 15 22 (x0) M).bind fun v115 => ((xq_gr 14 25 (v115) M).bind fun v117 => ((xq_gl 15 9 (x0) M).bind fun v119 => ((xq_sl (v117) (xwr ((x1) + (x2))) (v119) M).bind fun M121 => ((xq_gr 15 22 (x0) M121).bind fun v123 => ((xq_gr 14 26 (v123) M121).bind fun v125 => ((xq_gi 15 4 (x0) M121).bind fun v127 => ((xq_si (v125) (xwr ((x1) + (x2))) (v127) M121).bind fun M129 => ((xq_gr 15 22 (x0) M129).bind fun v131 => ((xq_gr 14 22 (v131) M129).bind fun v133 => ((xq_gi 15 23 (x0) M129).bind fun v135 => ((xq_ai 3 (v133) (v135) M129).bind fun v137 => ((xq_si (v133) (v135) (xwr ((v137) + (1))) M129).bind fun M139 => f239_147   f (x0) (x2) M139)))))))))))))))))) else ((xq_gi 15 4 (x0) M).bind fun v141 => ((xq_is 15 (x0) M).bind fun _ => ((f210  f (x0) (v141) M).bind fun M145 => (some (0, M145))))))
theorem k239_69 {d f : Nat}     {x0 : Nat} {x1 : Int} {x2 : Int} {M : xj_M} {R : Int × xj_M} (hx1 : xin x1) (hx2 : xin x2) (h : f239_69   f x0 x1 x2 M = some R) : xW (d + 7) (none, d + 7, none) xr_239 (69, [(0, xR_ x0), (1, xI x1), (2, xI x2)], [], M) (xQi R) := by
  unfold f239_69 at h
  refine xe_ldn (ins := .iload_n 2) (len := 1) (by decide +kernel) rfl rfl rfl rfl ?_
  refine xe_bipush (n := 8) (by decide +kernel) (by decide) rfl ?_
  refine xe_icmpne (off := 13) (t := 85) (by decide +kernel) (by decide) rfl hx2 (show xin (8) by decide) (fun c105 => ?_) (fun c105 => ?_)
  · rw [if_pos c105] at h
    refine xe_ldn (ins := .iload_n 2) (len := 1) (by decide +kernel) rfl rfl rfl rfl ?_
    refine xe_alr (ins := .aload_n 0) (len := 1) (i := 0) (by decide +kernel) rfl rfl rfl rfl rfl ?_
    obtain ⟨v106, e107, h⟩ := xbnd h
    refine xs_gr (i := 197) (c := 15) (k := 22) (by decide +kernel) (by decide) (by decide +kernel) e107 rfl ?_
    obtain ⟨v108, e109, h⟩ := xbnd h
    refine xs_gr (i := 271) (c := 14) (k := 22) (by decide +kernel) (by decide) (by decide +kernel) e109 rfl ?_
    refine xe_alr (ins := .aload_n 0) (len := 1) (i := 0) (by decide +kernel) rfl rfl rfl rfl rfl ?_
    obtain ⟨v110, e111, h⟩ := xbnd h
    refine xs_gi (i := 259) (c := 15) (k := 23) (by decide +kernel) (by decide) (by decide +kernel) e111 rfl ?_
    obtain ⟨v112, e113, h⟩ := xbnd h
    refine xs_iald rfl (by decide +kernel) (xq_gi_in e111) e113 rfl ?_
    refine xe_icmpne (off := 49) (t := 147) (by decide +kernel) (by decide) rfl hx2 (xq_ai_in e113) (fun c114 => ?_) (fun c114 => ?_)
    · rw [if_pos c114] at h
      refine xW_lv rfl (l := [(0, xR_ (x0)), (2, xI (x2))]) (xsb_of ⟨rfl, rfl, trivial⟩ (show [0, 1, 2].Nodup by decide)) ?_
      exact k239_147   hx2 h
    · rw [if_neg c114] at h
      refine xe_alr (ins := .aload_n 0) (len := 1) (i := 0) (by decide +kernel) rfl rfl rfl rfl rfl ?_
      obtain ⟨v115, e116, h⟩ := xbnd h
      refine xs_gr (i := 197) (c := 15) (k := 22) (by decide +kernel) (by decide) (by decide +kernel) e116 rfl ?_
      obtain ⟨v117, e118, h⟩ := xbnd h
      refine xs_gr (i := 313) (c := 14) (k := 25) (by decide +kernel) (by decide) (by decide +kernel) e118 rfl ?_
      refine xe_ldn (ins := .iload_n 1) (len := 1) (by decide +kernel) rfl rfl rfl rfl ?_
      refine xe_ldn (ins := .iload_n 2) (len := 1) (by decide +kernel) rfl rfl rfl rfl ?_
      refine xe_iadd (by decide +kernel) rfl ?_
      refine xe_alr (ins := .aload_n 0) (len := 1) (i := 0) (by decide +kernel) rfl rfl rfl rfl rfl ?_
      obtain ⟨v119, e120, h⟩ := xbnd h
      refine xs_gl (i := 71) (c := 15) (k := 9) (by decide +kernel) (by decide) (by decide +kernel) e120 rfl ?_
      obtain ⟨M121, e122, h⟩ := xbnd h
      refine xs_last (by decide +kernel) (xin_wr _) e122 rfl ?_
      refine xe_alr (ins := .aload_n 0) (len := 1) (i := 0) (by decide +kernel) rfl rfl rfl rfl rfl ?_
      obtain ⟨v123, e124, h⟩ := xbnd h
      refine xs_gr (i := 197) (c := 15) (k := 22) (by decide +kernel) (by decide) (by decide +kernel) e124 rfl ?_
      obtain ⟨v125, e126, h⟩ := xbnd h
      refine xs_gr (i := 315) (c := 14) (k := 26) (by decide +kernel) (by decide) (by decide +kernel) e126 rfl ?_
      refine xe_ldn (ins := .iload_n 1) (len := 1) (by decide +kernel) rfl rfl rfl rfl ?_
      refine xe_ldn (ins := .iload_n 2) (len := 1) (by decide +kernel) rfl rfl rfl rfl ?_
      refine xe_iadd (by decide +kernel) rfl ?_
      refine xe_alr (ins := .aload_n 0) (len := 1) (i := 0) (by decide +kernel) rfl rfl rfl rfl rfl ?_
      obtain ⟨v127, e128, h⟩ := xbnd h
      refine xs_gi (i := 43) (c := 15) (k := 4) (by decide +kernel) (by decide) (by decide +kernel) e128 rfl ?_
      obtain ⟨M129, e130, h⟩ := xbnd h
      refine xs_iast (by decide +kernel) (xin_wr _) e130 rfl ?_
      refine xe_alr (ins := .aload_n 0) (len := 1) (i := 0) (by decide +kernel) rfl rfl rfl rfl rfl ?_
      obtain ⟨v131, e132, h⟩ := xbnd h
      refine xs_gr (i := 197) (c := 15) (k := 22) (by decide +kernel) (by decide) (by decide +kernel) e132 rfl ?_
      obtain ⟨v133, e134, h⟩ := xbnd h
      refine xs_gr (i := 271) (c := 14) (k := 22) (by decide +kernel) (by decide) (by decide +kernel) e134 rfl ?_
      refine xe_alr (ins := .aload_n 0) (len := 1) (i := 0) (by decide +kernel) rfl rfl rfl rfl rfl ?_
      obtain ⟨v135, e136, h⟩ := xbnd h
      refine xs_gi (i := 259) (c := 15) (k := 23) (by decide +kernel) (by decide) (by decide +kernel) e136 rfl ?_
      refine xe_dup2r (xI_cat _) (xR_cat _) (by decide +kernel) rfl ?_
      obtain ⟨v137, e138, h⟩ := xbnd h
      refine xs_iald rfl (by decide +kernel) (xq_gi_in e136) e138 rfl ?_
      refine xe_iconst (n := 1) (by decide +kernel) rfl ?_
      refine xe_iadd (by decide +kernel) rfl ?_
      obtain ⟨M139, e140, h⟩ := xbnd h
      refine xs_iast (by decide +kernel) (xq_gi_in e136) e140 rfl ?_
      refine xW_lv rfl (l := [(0, xR_ (x0)), (2, xI (x2))]) (xsb_of ⟨rfl, rfl, trivial⟩ (show [0, 1, 2].Nodup by decide)) ?_
      exact k239_147   hx2 h
  · rw [if_neg c105] at h
    refine xe_alr (ins := .aload_n 0) (len := 1) (i := 0) (by decide +kernel) rfl rfl rfl rfl rfl ?_
    refine xe_alr (ins := .aload_n 0) (len := 1) (i := 0) (by decide +kernel) rfl rfl rfl rfl rfl ?_
    obtain ⟨v141, e142, h⟩ := xbnd h
    refine xs_gi (i := 43) (c := 15) (k := 4) (by decide +kernel) (by decide) (by decide +kernel) e142 rfl ?_
    obtain ⟨_, e144, h⟩ := xbnd h
    obtain ⟨M145, e143, h⟩ := xbnd h
    refine xs_cv (i := 35) (j := 210) (ar := [xI (v141)]) (rest := []) (r2 := xr_210) (by decide +kernel) (by decide +kernel) (by decide +kernel) xr_210_e rfl (by decide) (by decide) e144 ?_
    refine xc_v (k210 (d := d + 6)  (xq_gi_in e142) e143) rfl ?_
    refine xe_iconst (n := 0) (by decide +kernel) rfl ?_
    cases h
    exact xe_ret_i (ty := .int) (by decide +kernel) rfl rfl ⟨rfl, rfl, (show xin (0) by decide)⟩
def f239_28b  (r28 : Nat → Int → Int → xj_M → Option (Int × xj_M)) (f : Nat) (x0 : Nat) (x1 : Int) (x2 : Int) (M : xj_M) : Option (Int × xj_M) := ((xq_gr 15 22 (x0) M).bind fun v147 => ((xq_gr 14 22 (v147) M).bind fun v149 => ((xq_gi 15 23 (x0) M).bind fun v151 => ((xq_ai 3 (v149) (v151) M).bind fun v153 => (if (v153) ≤ (x2) then f239_69   f (x0) (x1) (x2) M else ((xq_gr 15 22 (x0) M).bind fun v156 => ((xq_gr 14 25 (v156) M).bind fun v158 => ((xq_al (v158) (xwr ((x1) + (x2))) M).bind fun v160 => ((xq_gl 15 9 (x0) M).bind fun v162 => (if (v160) = (v162) then f239_69   f (x0) (x1) (x2) M else r28 (x0) (x1) (xwr ((x2) + (1))) M))))))))))
theorem k239_28b {d f : Nat}  {r28 : Nat → Int → Int → xj_M → Option (Int × xj_M)}  (hr28 : ∀ {x0 : Nat} {x1 : Int} {x2 : Int} {M : xj_M} {R : Int × xj_M}, xin x1 → xin x2 → r28 x0 x1 x2 M = some R → xW (d + 7) (none, d + 7, none) xr_239 (28, [(0, xR_ x0), (1, xI x1), (2, xI x2)], [], M) (xQi R)) {x0 : Nat} {x1 : Int} {x2 : Int} {M : xj_M} {R : Int × xj_M} (hx1 : xin x1) (hx2 : xin x2) (h : f239_28b  r28 f x0 x1 x2 M = some R) : xW (d + 7) (none, d + 7, none) xr_239 (28, [(0, xR_ x0), (1, xI x1), (2, xI x2)], [], M) (xQi R) := by
  unfold f239_28b at h
  refine xe_ldn (ins := .iload_n 2) (len := 1) (by decide +kernel) rfl rfl rfl rfl ?_
  refine xe_alr (ins := .aload_n 0) (len := 1) (i := 0) (by decide +kernel) rfl rfl rfl rfl rfl ?_
  obtain ⟨v147, e148, h⟩ := xbnd h
  refine xs_gr (i := 197) (c := 15) (k := 22) (by decide +kernel) (by decide) (by decide +kernel) e148 rfl ?_
  obtain ⟨v149, e150, h⟩ := xbnd h
  refine xs_gr (i := 271) (c := 14) (k := 22) (by decide +kernel) (by decide) (by decide +kernel) e150 rfl ?_
  refine xe_alr (ins := .aload_n 0) (len := 1) (i := 0) (by decide +kernel) rfl rfl rfl rfl rfl ?_
  obtain ⟨v151, e152, h⟩ := xbnd h
  refine xs_gi (i := 259) (c := 15) (k := 23) (by decide +kernel) (by decide) (by decide +kernel) e152 rfl ?_
  obtain ⟨v153, e154, h⟩ := xbnd h
  refine xs_iald rfl (by decide +kernel) (xq_gi_in e152) e154 rfl ?_
  refine xe_icmpge (off := 28) (t := 69) (by decide +kernel) (by decide) rfl hx2 (xq_ai_in e154) (fun c155 => ?_) (fun c155 => ?_)
  · rw [if_pos c155] at h
    refine xW_lv rfl (l := [(0, xR_ (x0)), (1, xI (x1)), (2, xI (x2))]) (xsb_of ⟨rfl, rfl, rfl, trivial⟩ (show [0, 1, 2].Nodup by decide)) ?_
    exact k239_69   hx1 hx2 h
  · rw [if_neg c155] at h
    refine xe_alr (ins := .aload_n 0) (len := 1) (i := 0) (by decide +kernel) rfl rfl rfl rfl rfl ?_
    obtain ⟨v156, e157, h⟩ := xbnd h
    refine xs_gr (i := 197) (c := 15) (k := 22) (by decide +kernel) (by decide) (by decide +kernel) e157 rfl ?_
    obtain ⟨v158, e159, h⟩ := xbnd h
    refine xs_gr (i := 313) (c := 14) (k := 25) (by decide +kernel) (by decide) (by decide +kernel) e159 rfl ?_
    refine xe_ldn (ins := .iload_n 1) (len := 1) (by decide +kernel) rfl rfl rfl rfl ?_
    refine xe_ldn (ins := .iload_n 2) (len := 1) (by decide +kernel) rfl rfl rfl rfl ?_
    refine xe_iadd (by decide +kernel) rfl ?_
    obtain ⟨v160, e161, h⟩ := xbnd h
    refine xs_lald (by decide +kernel) (xin_wr _) e161 rfl ?_
    refine xe_alr (ins := .aload_n 0) (len := 1) (i := 0) (by decide +kernel) rfl rfl rfl rfl rfl ?_
    obtain ⟨v162, e163, h⟩ := xbnd h
    refine xs_gl (i := 71) (c := 15) (k := 9) (by decide +kernel) (by decide) (by decide +kernel) e163 rfl ?_
    refine xe_lcmp (by decide +kernel) rfl (xq_al_in e161) (xq_gl_in e163) ?_
    refine xe_ifeq (off := 9) (t := 69) (by decide +kernel) (by decide) rfl (xin_cmp8 _ _) (fun c164 => ?_) (fun c164 => ?_)
    · have c164 := xcmp8_eq.mp c164; rw [if_pos c164] at h
      refine xW_lv rfl (l := [(0, xR_ (x0)), (1, xI (x1)), (2, xI (x2))]) (xsb_of ⟨rfl, rfl, rfl, trivial⟩ (show [0, 1, 2].Nodup by decide)) ?_
      exact k239_69   hx1 hx2 h
    · have c164 := (not_congr xcmp8_eq).mp c164; rw [if_neg c164] at h
      refine xe_iincr (i := 2) (n := 1) (by decide +kernel) (by decide) rfl (xk_k (show ¬ (0 : Nat) = 2 by decide) (Or.inl (show ¬ (0 + 1 : Nat) = 2 by decide)) (xk_k (show ¬ (1 : Nat) = 2 by decide) (Or.inr (xI_cat _)) (xk_d rfl xk_n))) rfl ?_
      refine xe_goto (off := -38) (nx := 28) (by decide +kernel) (by decide) ?_
      refine xW_lv rfl (l := [(0, xR_ (x0)), (1, xI (x1)), (2, xI (xwr ((x2) + (1))))]) (xsb_of ⟨rfl, rfl, rfl, trivial⟩ (show [2, 0, 1].Nodup by decide)) ?_
      exact hr28 hx1 (xin_wr _) h
def f239_28   (f : Nat) : Nat → Nat → Int → Int → xj_M → Option (Int × xj_M)
  | 0, _, _, _, _ => none
  | n + 1, x0, x1, x2, M => f239_28b   (f239_28   f n) f x0 x1 x2 M
theorem k239_28 {d f : Nat}     : ∀ {n : Nat} {x0 : Nat} {x1 : Int} {x2 : Int} {M : xj_M} {R : Int × xj_M}, xin x1 → xin x2 → f239_28   f n x0 x1 x2 M = some R → xW (d + 7) (none, d + 7, none) xr_239 (28, [(0, xR_ x0), (1, xI x1), (2, xI x2)], [], M) (xQi R) := by
  intro n
  induction n with
  | zero => intros; rename_i h; cases h
  | succ n ih => intros; rename_i h; exact k239_28b   ih (by assumption) (by assumption) h
def f239  (f : Nat) (a0 : Nat) (M : xj_M) : Option (Int × xj_M) := ((xq_gi 15 6 (a0) M).bind fun v165 => (if (v165) = (-1) then ((xq_gi 15 23 (a0) M).bind fun v168 => f239_28   f f (a0) (xwr ((v168) * (8))) (0) M) else ((xq_gi 15 6 (a0) M).bind fun v170 => ((xq_is 15 (a0) M).bind fun _ => ((f210  f (a0) (v170) M).bind fun M174 => (some (0, M174)))))))
theorem k239 {d f : Nat}   {a0 : Nat} {M : xj_M} {R : Int × xj_M}  (h : f239  f a0 M = some R) : xT (d + 8) 239 [xR_ a0] M (xQi R) := by
  refine xT_m xr_239_e (X := (none, d + 7, none)) rfl (xa_1 (xR_cat _) xa_n) (by decide) ?_
  unfold f239 at h
  refine xe_alr (ins := .aload_n 0) (len := 1) (i := 0) (by decide +kernel) rfl rfl rfl rfl rfl ?_
  obtain ⟨v165, e166, h⟩ := xbnd h
  refine xs_gi (i := 32) (c := 15) (k := 6) (by decide +kernel) (by decide) (by decide +kernel) e166 rfl ?_
  refine xe_iconst (n := -1) (by decide +kernel) rfl ?_
  refine xe_icmpeq (off := 13) (t := 18) (by decide +kernel) (by decide) rfl (xq_gi_in e166) (show xin (-1) by decide) (fun c167 => ?_) (fun c167 => ?_)
  · rw [if_pos c167] at h
    refine xe_alr (ins := .aload_n 0) (len := 1) (i := 0) (by decide +kernel) rfl rfl rfl rfl rfl ?_
    obtain ⟨v168, e169, h⟩ := xbnd h
    refine xs_gi (i := 259) (c := 15) (k := 23) (by decide +kernel) (by decide) (by decide +kernel) e169 rfl ?_
    refine xe_bipush (n := 8) (by decide +kernel) (by decide) rfl ?_
    refine xe_imul (by decide +kernel) rfl ?_
    refine xe_isr (ins := .istore_n 1) (len := 1) (i := 1) (by decide +kernel) rfl rfl rfl (by decide) (xk_k (show ¬ (0 : Nat) = 1 by decide) (Or.inr (xR_cat _)) xk_n) rfl ?_
    refine xe_iconst (n := 0) (by decide +kernel) rfl ?_
    refine xe_isr (ins := .istore_n 2) (len := 1) (i := 2) (by decide +kernel) rfl rfl rfl (by decide) (xk_k (show ¬ (1 : Nat) = 2 by decide) (Or.inr (xI_cat _)) (xk_k (show ¬ (0 : Nat) = 2 by decide) (Or.inl (show ¬ (0 + 1 : Nat) = 2 by decide)) xk_n)) rfl ?_
    refine xW_lv rfl (l := [(0, xR_ (a0)), (1, xI (xwr ((v168) * (8)))), (2, xI (0))]) (xsb_of ⟨rfl, rfl, rfl, trivial⟩ (show [2, 1, 0].Nodup by decide)) ?_
    exact k239_28   (xin_wr _) (show xin (0) by decide) h
  · rw [if_neg c167] at h
    refine xe_alr (ins := .aload_n 0) (len := 1) (i := 0) (by decide +kernel) rfl rfl rfl rfl rfl ?_
    refine xe_alr (ins := .aload_n 0) (len := 1) (i := 0) (by decide +kernel) rfl rfl rfl rfl rfl ?_
    obtain ⟨v170, e171, h⟩ := xbnd h
    refine xs_gi (i := 32) (c := 15) (k := 6) (by decide +kernel) (by decide) (by decide +kernel) e171 rfl ?_
    obtain ⟨_, e173, h⟩ := xbnd h
    obtain ⟨M174, e172, h⟩ := xbnd h
    refine xs_cv (i := 35) (j := 210) (ar := [xI (v170)]) (rest := []) (r2 := xr_210) (by decide +kernel) (by decide +kernel) (by decide +kernel) xr_210_e rfl (by decide) (by decide) e173 ?_
    refine xc_v (k210 (d := d + 6)  (xq_gi_in e171) e172) rfl ?_
    refine xe_iconst (n := 0) (by decide +kernel) rfl ?_
    cases h
    exact xe_ret_i (ty := .int) (by decide +kernel) rfl rfl ⟨rfl, rfl, (show xin (0) by decide)⟩
-- ChangeHouseModel.primary
def xr_243 : xj_mR := (15, yX15_expression, cX15_expression, 1, (Option.none : Option Jvm.ClassFile.FieldType), 0, false, (9, 25), (1, 12))
set_option maxRecDepth 20000 in
theorem xr_243_e : xj_row 243 = some xr_243 := rfl
def xr_241 : xj_mR := (15, yX15_primary, cX15_primary, 2, (Option.none : Option Jvm.ClassFile.FieldType), 0, false, (9, 29), (1, 12))
set_option maxRecDepth 20000 in
theorem xr_241_e : xj_row 241 = some xr_241 := rfl
def f241_101 (q243 : Nat → xj_M → Option (xj_M))  (f : Nat)  (M : xj_M) : Option (xj_M) := (some M)
theorem k241_101 {d f : Nat} {q243 : Nat → xj_M → Option (xj_M)}  (hq243 : ∀ {e : Nat} {a0 : Nat} {M : xj_M} {R : xj_M}, d ≤ e → q243 a0 M = some R → xT e 243 [xR_ a0] M (xQv R))   {M : xj_M} {R : xj_M}  (h : f241_101 q243  f  M = some R) : xW (d + 8) (none, d + 8, none) xr_241 (101, [], [], M) (xQv R) := by
  unfold f241_101 at h
  cases h
  exact xe_ret_v (by decide +kernel) rfl ⟨rfl, rfl⟩
def f241_48 (q243 : Nat → xj_M → Option (xj_M))  (f : Nat) (x0 : Nat) (M : xj_M) : Option (xj_M) := ((xq_gi 15 25 (x0) M).bind fun v101 => ((xq_pi 15 25 (x0) (xwr ((v101) + (1))) M).bind fun M103 => ((xq_is 15 (x0) M103).bind fun _ => ((f213  f (x0) M103).bind fun M107 => ((xq_is 15 (x0) M107).bind fun _ => ((q243 (x0) M107).bind fun M111 => ((xq_gi 15 25 (x0) M111).bind fun v113 => ((xq_pi 15 25 (x0) (xwr ((v113) - (1))) M111).bind fun M115 => ((xq_is 15 (x0) M115).bind fun _ => ((f222  f (x0) (41) M115).bind fun M119 => f241_101 q243  f  M119))))))))))
theorem k241_48 {d f : Nat} {q243 : Nat → xj_M → Option (xj_M)}  (hq243 : ∀ {e : Nat} {a0 : Nat} {M : xj_M} {R : xj_M}, d ≤ e → q243 a0 M = some R → xT e 243 [xR_ a0] M (xQv R))  {x0 : Nat} {M : xj_M} {R : xj_M}  (h : f241_48 q243  f x0 M = some R) : xW (d + 8) (none, d + 8, none) xr_241 (48, [(0, xR_ x0)], [], M) (xQv R) := by
  unfold f241_48 at h
  refine xe_alr (ins := .aload_n 0) (len := 1) (i := 0) (by decide +kernel) rfl rfl rfl rfl rfl ?_
  refine xe_dupr (by decide +kernel) rfl ?_
  obtain ⟨v101, e102, h⟩ := xbnd h
  refine xs_gi (i := 265) (c := 15) (k := 25) (by decide +kernel) (by decide) (by decide +kernel) e102 rfl ?_
  refine xe_iconst (n := 1) (by decide +kernel) rfl ?_
  refine xe_iadd (by decide +kernel) rfl ?_
  obtain ⟨M103, e104, h⟩ := xbnd h
  refine xs_p (i := 265) (c := 15) (k := 25) (by decide +kernel) (by decide +kernel) (by decide +kernel) e104 rfl ?_
  refine xe_alr (ins := .aload_n 0) (len := 1) (i := 0) (by decide +kernel) rfl rfl rfl rfl rfl ?_
  obtain ⟨_, e106, h⟩ := xbnd h
  obtain ⟨M107, e105, h⟩ := xbnd h
  refine xs_cv (i := 118) (j := 213) (ar := []) (rest := []) (r2 := xr_213) (by decide +kernel) (by decide +kernel) (by decide +kernel) xr_213_e rfl (by decide) (by decide) e106 ?_
  refine xc_v (k213 (d := d + 1)   e105) rfl ?_
  refine xe_alr (ins := .aload_n 0) (len := 1) (i := 0) (by decide +kernel) rfl rfl rfl rfl rfl ?_
  obtain ⟨_, e110, h⟩ := xbnd h
  obtain ⟨M111, e109, h⟩ := xbnd h
  refine xs_cv (i := 304) (j := 243) (ar := []) (rest := []) (r2 := xr_243) (by decide +kernel) (by decide +kernel) (by decide +kernel) xr_243_e rfl (by decide) (by decide) e110 ?_
  refine xc_v (hq243 (by omega)  e109) rfl ?_
  refine xe_alr (ins := .aload_n 0) (len := 1) (i := 0) (by decide +kernel) rfl rfl rfl rfl rfl ?_
  refine xe_dupr (by decide +kernel) rfl ?_
  obtain ⟨v113, e114, h⟩ := xbnd h
  refine xs_gi (i := 265) (c := 15) (k := 25) (by decide +kernel) (by decide) (by decide +kernel) e114 rfl ?_
  refine xe_iconst (n := 1) (by decide +kernel) rfl ?_
  refine xe_isub (by decide +kernel) rfl ?_
  obtain ⟨M115, e116, h⟩ := xbnd h
  refine xs_p (i := 265) (c := 15) (k := 25) (by decide +kernel) (by decide +kernel) (by decide +kernel) e116 rfl ?_
  refine xe_alr (ins := .aload_n 0) (len := 1) (i := 0) (by decide +kernel) rfl rfl rfl rfl rfl ?_
  refine xe_bipush (n := 41) (by decide +kernel) (by decide) rfl ?_
  obtain ⟨_, e118, h⟩ := xbnd h
  obtain ⟨M119, e117, h⟩ := xbnd h
  refine xs_cv (i := 248) (j := 222) (ar := [xI (41)]) (rest := []) (r2 := xr_222) (by decide +kernel) (by decide +kernel) (by decide +kernel) xr_222_e rfl (by decide) (by decide) e118 ?_
  refine xc_v (k222 (d := d + 0)  (show xin (41) by decide) e117) rfl ?_
  refine xe_goto (off := 19) (nx := 101) (by decide +kernel) (by decide) ?_
  refine xW_lv rfl (l := []) (xsb_of trivial (show [0].Nodup by decide)) ?_
  exact k241_101 hq243   h
def f241 (q243 : Nat → xj_M → Option (xj_M)) (f : Nat) (a0 : Nat) (M : xj_M) : Option (xj_M) := ((xq_is 15 (a0) M).bind fun _ => ((f221  f (a0) (3) M).bind fun R123 => (if (R123.1) = 0 then ((xq_is 15 (a0) R123.2).bind fun _ => ((f220  f (a0) (40) R123.2).bind fun R128 => (if (R128.1) = 0 then ((xq_is 15 (a0) R128.2).bind fun _ => ((f227  f (a0) R128.2).bind fun R133 => (if (R133.1) = 0 then f241_101 q243  f  R133.2 else ((xq_gl 15 21 (a0) R133.2).bind fun v136 => ((xq_is 15 (a0) R133.2).bind fun _ => ((f240  f (a0) (1) (v136) R133.2).bind fun M140 => f241_101 q243  f  M140)))))) else ((xq_gi 15 25 (a0) R128.2).bind fun v142 => (if ¬ (v142) = (4) then f241_48 q243  f (a0) R128.2 else ((xq_gi 15 4 (a0) R128.2).bind fun v145 => ((xq_is 15 (a0) R128.2).bind fun _ => ((f210  f (a0) (v145) R128.2).bind fun M149 => f241_48 q243  f (a0) M149)))))))) else ((xq_is 15 (a0) R123.2).bind fun _ => ((f239  f (a0) R123.2).bind fun R153 => ((xq_is 15 (a0) R153.2).bind fun _ => ((f240  f (a0) (2) (R153.1) R153.2).bind fun M157 => f241_101 q243  f  M157)))))))
theorem k241 {d f : Nat} {q243 : Nat → xj_M → Option (xj_M)} (hq243 : ∀ {e : Nat} {a0 : Nat} {M : xj_M} {R : xj_M}, d ≤ e → q243 a0 M = some R → xT e 243 [xR_ a0] M (xQv R)) {a0 : Nat} {M : xj_M} {R : xj_M}  (h : f241 q243 f a0 M = some R) : xT (d + 9) 241 [xR_ a0] M (xQv R) := by
  refine xT_m xr_241_e (X := (none, d + 8, none)) rfl (xa_1 (xR_cat _) xa_n) (by decide) ?_
  unfold f241 at h
  refine xe_alr (ins := .aload_n 0) (len := 1) (i := 0) (by decide +kernel) rfl rfl rfl rfl rfl ?_
  refine xe_iconst (n := 3) (by decide +kernel) rfl ?_
  obtain ⟨_, e122, h⟩ := xbnd h
  obtain ⟨R123, e121, h⟩ := xbnd h
  refine xs_cv (i := 153) (j := 221) (ar := [xI (3)]) (rest := []) (r2 := xr_221) (by decide +kernel) (by decide +kernel) (by decide +kernel) xr_221_e rfl (by decide) (by decide) e122 ?_
  refine xc_i (k221 (d := d + 6)  (show xin (3) by decide) e121) rfl (fun hi124 => ?_)
  refine xe_ifeq (off := 18) (t := 23) (by decide +kernel) (by decide) rfl hi124 (fun c125 => ?_) (fun c125 => ?_)
  · rw [if_pos c125] at h
    refine xe_alr (ins := .aload_n 0) (len := 1) (i := 0) (by decide +kernel) rfl rfl rfl rfl rfl ?_
    refine xe_bipush (n := 40) (by decide +kernel) (by decide) rfl ?_
    obtain ⟨_, e127, h⟩ := xbnd h
    obtain ⟨R128, e126, h⟩ := xbnd h
    refine xs_cv (i := 115) (j := 220) (ar := [xI (40)]) (rest := []) (r2 := xr_220) (by decide +kernel) (by decide +kernel) (by decide +kernel) xr_220_e rfl (by decide) (by decide) e127 ?_
    refine xc_i (k220 (d := d + 6)  (show xin (40) by decide) e126) rfl (fun hi129 => ?_)
    refine xe_ifeq (off := 56) (t := 85) (by decide +kernel) (by decide) rfl hi129 (fun c130 => ?_) (fun c130 => ?_)
    · rw [if_pos c130] at h
      refine xe_alr (ins := .aload_n 0) (len := 1) (i := 0) (by decide +kernel) rfl rfl rfl rfl rfl ?_
      obtain ⟨_, e132, h⟩ := xbnd h
      obtain ⟨R133, e131, h⟩ := xbnd h
      refine xs_cv (i := 328) (j := 227) (ar := []) (rest := []) (r2 := xr_227) (by decide +kernel) (by decide +kernel) (by decide +kernel) xr_227_e rfl (by decide) (by decide) e132 ?_
      refine xc_i (k227 (d := d + 0)   e131) rfl (fun hi134 => ?_)
      refine xe_ifeq (off := 12) (t := 101) (by decide +kernel) (by decide) rfl hi134 (fun c135 => ?_) (fun c135 => ?_)
      · rw [if_pos c135] at h
        refine xW_lv rfl (l := []) (xsb_of trivial (show [0].Nodup by decide)) ?_
        exact k241_101 hq243   h
      · rw [if_neg c135] at h
        refine xe_alr (ins := .aload_n 0) (len := 1) (i := 0) (by decide +kernel) rfl rfl rfl rfl rfl ?_
        refine xe_iconst (n := 1) (by decide +kernel) rfl ?_
        refine xe_alr (ins := .aload_n 0) (len := 1) (i := 0) (by decide +kernel) rfl rfl rfl rfl rfl ?_
        obtain ⟨v136, e137, h⟩ := xbnd h
        refine xs_gl (i := 160) (c := 15) (k := 21) (by decide +kernel) (by decide) (by decide +kernel) e137 rfl ?_
        obtain ⟨_, e139, h⟩ := xbnd h
        obtain ⟨M140, e138, h⟩ := xbnd h
        refine xs_cv (i := 324) (j := 240) (ar := [xZ (v136), xI (1)]) (rest := []) (r2 := xr_240) (by decide +kernel) (by decide +kernel) (by decide +kernel) xr_240_e rfl (by decide) (by decide) e139 ?_
        refine xc_v (k240 (d := d + 6)  (show xin (1) by decide) (xq_gl_in e137) e138) rfl ?_
        refine xW_lv rfl (l := []) (xsb_of trivial (show [0].Nodup by decide)) ?_
        exact k241_101 hq243   h
    · rw [if_neg c130] at h
      refine xe_alr (ins := .aload_n 0) (len := 1) (i := 0) (by decide +kernel) rfl rfl rfl rfl rfl ?_
      obtain ⟨v142, e143, h⟩ := xbnd h
      refine xs_gi (i := 265) (c := 15) (k := 25) (by decide +kernel) (by decide) (by decide +kernel) e143 rfl ?_
      refine xe_iconst (n := 4) (by decide +kernel) rfl ?_
      refine xe_icmpne (off := 11) (t := 48) (by decide +kernel) (by decide) rfl (xq_gi_in e143) (show xin (4) by decide) (fun c144 => ?_) (fun c144 => ?_)
      · rw [if_pos c144] at h
        refine xW_lv rfl (l := [(0, xR_ (a0))]) (xsb_of ⟨rfl, trivial⟩ (show [0].Nodup by decide)) ?_
        exact k241_48 hq243   h
      · rw [if_neg c144] at h
        refine xe_alr (ins := .aload_n 0) (len := 1) (i := 0) (by decide +kernel) rfl rfl rfl rfl rfl ?_
        refine xe_alr (ins := .aload_n 0) (len := 1) (i := 0) (by decide +kernel) rfl rfl rfl rfl rfl ?_
        obtain ⟨v145, e146, h⟩ := xbnd h
        refine xs_gi (i := 43) (c := 15) (k := 4) (by decide +kernel) (by decide) (by decide +kernel) e146 rfl ?_
        obtain ⟨_, e148, h⟩ := xbnd h
        obtain ⟨M149, e147, h⟩ := xbnd h
        refine xs_cv (i := 35) (j := 210) (ar := [xI (v145)]) (rest := []) (r2 := xr_210) (by decide +kernel) (by decide +kernel) (by decide +kernel) xr_210_e rfl (by decide) (by decide) e148 ?_
        refine xc_v (k210 (d := d + 7)  (xq_gi_in e146) e147) rfl ?_
        refine xW_lv rfl (l := [(0, xR_ (a0))]) (xsb_of ⟨rfl, trivial⟩ (show [0].Nodup by decide)) ?_
        exact k241_48 hq243   h
  · rw [if_neg c125] at h
    refine xe_alr (ins := .aload_n 0) (len := 1) (i := 0) (by decide +kernel) rfl rfl rfl rfl rfl ?_
    obtain ⟨_, e152, h⟩ := xbnd h
    obtain ⟨R153, e151, h⟩ := xbnd h
    refine xs_cv (i := 307) (j := 239) (ar := []) (rest := []) (r2 := xr_239) (by decide +kernel) (by decide +kernel) (by decide +kernel) xr_239_e rfl (by decide) (by decide) e152 ?_
    refine xc_i (k239 (d := d + 0)   e151) rfl (fun hi154 => ?_)
    refine xe_isr (ins := .istore_n 1) (len := 1) (i := 1) (by decide +kernel) rfl rfl rfl (by decide) (xk_k (show ¬ (0 : Nat) = 1 by decide) (Or.inr (xR_cat _)) xk_n) rfl ?_
    refine xe_alr (ins := .aload_n 0) (len := 1) (i := 0) (by decide +kernel) rfl rfl rfl rfl rfl ?_
    refine xe_iconst (n := 2) (by decide +kernel) rfl ?_
    refine xe_ldn (ins := .iload_n 1) (len := 1) (by decide +kernel) rfl rfl rfl rfl ?_
    refine xe_i2l (by decide +kernel) rfl hi154 ?_
    obtain ⟨_, e156, h⟩ := xbnd h
    obtain ⟨M157, e155, h⟩ := xbnd h
    refine xs_cv (i := 324) (j := 240) (ar := [xZ (R153.1), xI (2)]) (rest := []) (r2 := xr_240) (by decide +kernel) (by decide +kernel) (by decide +kernel) xr_240_e rfl (by decide) (by decide) e156 ?_
    refine xc_v (k240 (d := d + 6)  (show xin (2) by decide) (xin_N hi154) e155) rfl ?_
    refine xe_goto (off := 81) (nx := 101) (by decide +kernel) (by decide) ?_
    refine xW_lv rfl (l := []) (xsb_of trivial (show [1, 0].Nodup by decide)) ?_
    exact k241_101 hq243   h
-- ChangeHouseModel.product
def xr_245 : xj_mR := (15, yX15_product, cX15_product, 2, (Option.none : Option Jvm.ClassFile.FieldType), 0, false, (9, 49), (1, 12))
set_option maxRecDepth 20000 in
theorem xr_245_e : xj_row 245 = some xr_245 := rfl
def f245_0b (q243 : Nat → xj_M → Option (xj_M)) (r0 : Nat → xj_M → Option (xj_M)) (f : Nat) (x0 : Nat) (M : xj_M) : Option (xj_M) := ((xq_is 15 (x0) M).bind fun _ => ((f242  f (x0) (1) M).bind fun R103 => (if (R103.1) = 0 then (some R103.2) else ((xq_gi 15 3 (x0) R103.2).bind fun v106 => ((xq_is 15 (x0) R103.2).bind fun _ => ((f213  f (x0) R103.2).bind fun M110 => ((xq_is 15 (x0) M110).bind fun _ => ((f241 q243 f (x0) M110).bind fun M114 => ((xq_is 15 (x0) M114).bind fun _ => ((f240  f (x0) (3) (v106) M114).bind fun M118 => r0 (x0) M118))))))))))
theorem k245_0b {d f : Nat} {q243 : Nat → xj_M → Option (xj_M)} {r0 : Nat → xj_M → Option (xj_M)} (hq243 : ∀ {e : Nat} {a0 : Nat} {M : xj_M} {R : xj_M}, d ≤ e → q243 a0 M = some R → xT e 243 [xR_ a0] M (xQv R)) (hr0 : ∀ {x0 : Nat} {M : xj_M} {R : xj_M}, r0 x0 M = some R → xW (d + 9) (none, d + 9, none) xr_245 (0, [(0, xR_ x0)], [], M) (xQv R)) {x0 : Nat} {M : xj_M} {R : xj_M}  (h : f245_0b q243 r0 f x0 M = some R) : xW (d + 9) (none, d + 9, none) xr_245 (0, [(0, xR_ x0)], [], M) (xQv R) := by
  unfold f245_0b at h
  refine xe_alr (ins := .aload_n 0) (len := 1) (i := 0) (by decide +kernel) rfl rfl rfl rfl rfl ?_
  refine xe_iconst (n := 1) (by decide +kernel) rfl ?_
  obtain ⟨_, e102, h⟩ := xbnd h
  obtain ⟨R103, e101, h⟩ := xbnd h
  refine xs_cv (i := 340) (j := 242) (ar := [xI (1)]) (rest := []) (r2 := xr_242) (by decide +kernel) (by decide +kernel) (by decide +kernel) xr_242_e rfl (by decide) (by decide) e102 ?_
  refine xc_i (k242 (d := d + 6)  (show xin (1) by decide) e101) rfl (fun hi104 => ?_)
  refine xe_ifeq (off := 26) (t := 31) (by decide +kernel) (by decide) rfl hi104 (fun c105 => ?_) (fun c105 => ?_)
  · rw [if_pos c105] at h
    cases h
    exact xe_ret_v (by decide +kernel) rfl ⟨rfl, rfl⟩
  · rw [if_neg c105] at h
    refine xe_alr (ins := .aload_n 0) (len := 1) (i := 0) (by decide +kernel) rfl rfl rfl rfl rfl ?_
    obtain ⟨v106, e107, h⟩ := xbnd h
    refine xs_gi (i := 105) (c := 15) (k := 3) (by decide +kernel) (by decide) (by decide +kernel) e107 rfl ?_
    refine xe_isr (ins := .istore_n 1) (len := 1) (i := 1) (by decide +kernel) rfl rfl rfl (by decide) (xk_k (show ¬ (0 : Nat) = 1 by decide) (Or.inr (xR_cat _)) xk_n) rfl ?_
    refine xe_alr (ins := .aload_n 0) (len := 1) (i := 0) (by decide +kernel) rfl rfl rfl rfl rfl ?_
    obtain ⟨_, e109, h⟩ := xbnd h
    obtain ⟨M110, e108, h⟩ := xbnd h
    refine xs_cv (i := 118) (j := 213) (ar := []) (rest := []) (r2 := xr_213) (by decide +kernel) (by decide +kernel) (by decide +kernel) xr_213_e rfl (by decide) (by decide) e109 ?_
    refine xc_v (k213 (d := d + 2)   e108) rfl ?_
    refine xe_alr (ins := .aload_n 0) (len := 1) (i := 0) (by decide +kernel) rfl rfl rfl rfl rfl ?_
    obtain ⟨_, e113, h⟩ := xbnd h
    obtain ⟨M114, e112, h⟩ := xbnd h
    refine xs_cv (i := 331) (j := 241) (ar := []) (rest := []) (r2 := xr_241) (by decide +kernel) (by decide +kernel) (by decide +kernel) xr_241_e rfl (by decide) (by decide) e113 ?_
    refine xc_v (k241 (d := d + 0) (fun he => hq243 (Nat.le_trans (by omega) he))  e112) rfl ?_
    refine xe_alr (ins := .aload_n 0) (len := 1) (i := 0) (by decide +kernel) rfl rfl rfl rfl rfl ?_
    refine xe_iconst (n := 3) (by decide +kernel) rfl ?_
    refine xe_ldn (ins := .iload_n 1) (len := 1) (by decide +kernel) rfl rfl rfl rfl ?_
    refine xe_i2l (by decide +kernel) rfl (xq_gi_in e107) ?_
    obtain ⟨_, e117, h⟩ := xbnd h
    obtain ⟨M118, e116, h⟩ := xbnd h
    refine xs_cv (i := 324) (j := 240) (ar := [xZ (v106), xI (3)]) (rest := []) (r2 := xr_240) (by decide +kernel) (by decide +kernel) (by decide +kernel) xr_240_e rfl (by decide) (by decide) e117 ?_
    refine xc_v (k240 (d := d + 7)  (show xin (3) by decide) (xin_N (xq_gi_in e107)) e116) rfl ?_
    refine xe_goto (off := -28) (nx := 0) (by decide +kernel) (by decide) ?_
    refine xW_lv rfl (l := [(0, xR_ (x0))]) (xsb_of ⟨rfl, trivial⟩ (show [1, 0].Nodup by decide)) ?_
    exact hr0  h
def f245_0 (q243 : Nat → xj_M → Option (xj_M))  (f : Nat) : Nat → Nat → xj_M → Option (xj_M)
  | 0, _, _ => none
  | n + 1, x0, M => f245_0b q243  (f245_0 q243  f n) f x0 M
theorem k245_0 {d f : Nat} {q243 : Nat → xj_M → Option (xj_M)}  (hq243 : ∀ {e : Nat} {a0 : Nat} {M : xj_M} {R : xj_M}, d ≤ e → q243 a0 M = some R → xT e 243 [xR_ a0] M (xQv R))  : ∀ {n : Nat} {x0 : Nat} {M : xj_M} {R : xj_M}, f245_0 q243  f n x0 M = some R → xW (d + 9) (none, d + 9, none) xr_245 (0, [(0, xR_ x0)], [], M) (xQv R) := by
  intro n
  induction n with
  | zero => intros; rename_i h; cases h
  | succ n ih => intros; rename_i h; exact k245_0b hq243  ih  h
def f245 (q243 : Nat → xj_M → Option (xj_M)) (f : Nat) (a0 : Nat) (M : xj_M) : Option (xj_M) := f245_0 q243  f f (a0) M
theorem k245 {d f : Nat} {q243 : Nat → xj_M → Option (xj_M)} (hq243 : ∀ {e : Nat} {a0 : Nat} {M : xj_M} {R : xj_M}, d ≤ e → q243 a0 M = some R → xT e 243 [xR_ a0] M (xQv R)) {a0 : Nat} {M : xj_M} {R : xj_M}  (h : f245 q243 f a0 M = some R) : xT (d + 10) 245 [xR_ a0] M (xQv R) := by
  refine xT_m xr_245_e (X := (none, d + 9, none)) rfl (xa_1 (xR_cat _) xa_n) (by decide) ?_
  unfold f245 at h
  refine xW_lv rfl (l := [(0, xR_ (a0))]) (xsb_of ⟨rfl, trivial⟩ (show [0].Nodup by decide)) ?_
  exact k245_0 hq243   h
-- ChangeHouseModel.readTerm
def xr_250 : xj_mR := (15, yX15_readTerm, cX15_readTerm, 4, (Option.none : Option Jvm.ClassFile.FieldType), 2, false, (9, 69), (1, 12))
set_option maxRecDepth 20000 in
theorem xr_250_e : xj_row 250 = some xr_250 := rfl
def f250_104   (f : Nat)  (M : xj_M) : Option (xj_M) := (some M)
theorem k250_104 {d f : Nat}      {M : xj_M} {R : xj_M}  (h : f250_104   f  M = some R) : xW (d + 8) (none, d + 8, none) xr_250 (104, [], [], M) (xQv R) := by
  unfold f250_104 at h
  cases h
  exact xe_ret_v (by decide +kernel) rfl ⟨rfl, rfl⟩
def f250  (f : Nat) (a0 : Nat) (a1 : Int) (a2 : Int) (M : xj_M) : Option (xj_M) := ((xq_is 15 (a0) M).bind fun _ => ((f211  f (a0) M).bind fun R103 => (if (R103.1) = 0 then ((xq_is 15 (a0) R103.2).bind fun _ => ((f221  f (a0) (3) R103.2).bind fun R108 => (if (R108.1) = 0 then ((xq_is 15 (a0) R108.2).bind fun _ => ((f221  f (a0) (4) R108.2).bind fun R113 => (if (R113.1) = 0 then ((xq_is 15 (a0) R113.2).bind fun _ => ((f227  f (a0) R113.2).bind fun R118 => (if (R118.1) = 0 then f250_104   f  R118.2 else ((xq_gr 15 22 (a0) R118.2).bind fun v121 => ((xq_gr 14 33 (v121) R118.2).bind fun v123 => ((xq_si (v123) (xwr ((xwr ((a1) * (4))) + (a2))) (3) R118.2).bind fun M125 => ((xq_gr 15 22 (a0) M125).bind fun v127 => ((xq_gr 14 34 (v127) M125).bind fun v129 => ((xq_gl 15 21 (a0) M125).bind fun v131 => ((xq_sl (v129) (xwr ((xwr ((a1) * (4))) + (a2))) (v131) M125).bind fun M133 => f250_104   f  M133)))))))))) else ((xq_gr 15 22 (a0) R113.2).bind fun v135 => ((xq_gr 14 33 (v135) R113.2).bind fun v137 => ((xq_si (v137) (xwr ((xwr ((a1) * (4))) + (a2))) (2) R113.2).bind fun M139 => ((xq_is 15 (a0) M139).bind fun _ => ((f213  f (a0) M139).bind fun M143 => f250_104   f  M143)))))))) else ((xq_gr 15 22 (a0) R108.2).bind fun v145 => ((xq_gr 14 33 (v145) R108.2).bind fun v147 => ((xq_si (v147) (xwr ((xwr ((a1) * (4))) + (a2))) (1) R108.2).bind fun M149 => ((xq_gr 15 22 (a0) M149).bind fun v151 => ((xq_gr 14 34 (v151) M149).bind fun v153 => ((xq_is 15 (a0) M149).bind fun _ => ((f239  f (a0) M149).bind fun R157 => ((xq_sl (v153) (xwr ((xwr ((a1) * (4))) + (a2))) (R157.1) R157.2).bind fun M159 => f250_104   f  M159))))))))))) else (some R103.2))))
theorem k250 {d f : Nat}   {a0 : Nat} {a1 : Int} {a2 : Int} {M : xj_M} {R : xj_M} (ha1 : xin a1) (ha2 : xin a2) (h : f250  f a0 a1 a2 M = some R) : xT (d + 9) 250 [xR_ a0, xI a1, xI a2] M (xQv R) := by
  refine xT_m xr_250_e (X := (none, d + 8, none)) rfl (xa_1 (xR_cat _) (xa_1 (xI_cat _) (xa_1 (xI_cat _) xa_n))) (by decide) ?_
  unfold f250 at h
  refine xe_alr (ins := .aload_n 0) (len := 1) (i := 0) (by decide +kernel) rfl rfl rfl rfl rfl ?_
  obtain ⟨_, e102, h⟩ := xbnd h
  obtain ⟨R103, e101, h⟩ := xbnd h
  refine xs_cv (i := 28) (j := 211) (ar := []) (rest := []) (r2 := xr_211) (by decide +kernel) (by decide +kernel) (by decide +kernel) xr_211_e rfl (by decide) (by decide) e102 ?_
  refine xc_i (k211 (d := d + 7)   e101) rfl (fun hi104 => ?_)
  refine xe_ifeq (off := 4) (t := 8) (by decide +kernel) (by decide) rfl hi104 (fun c105 => ?_) (fun c105 => ?_)
  · rw [if_pos c105] at h
    refine xe_ldn (ins := .iload_n 1) (len := 1) (by decide +kernel) rfl rfl rfl rfl ?_
    refine xe_iconst (n := 4) (by decide +kernel) rfl ?_
    refine xe_imul (by decide +kernel) rfl ?_
    refine xe_ldn (ins := .iload_n 2) (len := 1) (by decide +kernel) rfl rfl rfl rfl ?_
    refine xe_iadd (by decide +kernel) rfl ?_
    refine xe_isr (ins := .istore_n 3) (len := 1) (i := 3) (by decide +kernel) rfl rfl rfl (by decide) (xk_k (show ¬ (0 : Nat) = 3 by decide) (Or.inl (show ¬ (0 + 1 : Nat) = 3 by decide)) (xk_k (show ¬ (1 : Nat) = 3 by decide) (Or.inl (show ¬ (1 + 1 : Nat) = 3 by decide)) (xk_k (show ¬ (2 : Nat) = 3 by decide) (Or.inr (xI_cat _)) xk_n))) rfl ?_
    refine xe_alr (ins := .aload_n 0) (len := 1) (i := 0) (by decide +kernel) rfl rfl rfl rfl rfl ?_
    refine xe_iconst (n := 3) (by decide +kernel) rfl ?_
    obtain ⟨_, e107, h⟩ := xbnd h
    obtain ⟨R108, e106, h⟩ := xbnd h
    refine xs_cv (i := 153) (j := 221) (ar := [xI (3)]) (rest := []) (r2 := xr_221) (by decide +kernel) (by decide +kernel) (by decide +kernel) xr_221_e rfl (by decide) (by decide) e107 ?_
    refine xc_i (k221 (d := d + 6)  (show xin (3) by decide) e106) rfl (fun hi109 => ?_)
    refine xe_ifeq (off := 30) (t := 49) (by decide +kernel) (by decide) rfl hi109 (fun c110 => ?_) (fun c110 => ?_)
    · rw [if_pos c110] at h
      refine xe_alr (ins := .aload_n 0) (len := 1) (i := 0) (by decide +kernel) rfl rfl rfl rfl rfl ?_
      refine xe_iconst (n := 4) (by decide +kernel) rfl ?_
      obtain ⟨_, e112, h⟩ := xbnd h
      obtain ⟨R113, e111, h⟩ := xbnd h
      refine xs_cv (i := 153) (j := 221) (ar := [xI (4)]) (rest := []) (r2 := xr_221) (by decide +kernel) (by decide +kernel) (by decide +kernel) xr_221_e rfl (by decide) (by decide) e112 ?_
      refine xc_i (k221 (d := d + 6)  (show xin (4) by decide) e111) rfl (fun hi114 => ?_)
      refine xe_ifeq (off := 20) (t := 74) (by decide +kernel) (by decide) rfl hi114 (fun c115 => ?_) (fun c115 => ?_)
      · rw [if_pos c115] at h
        refine xe_alr (ins := .aload_n 0) (len := 1) (i := 0) (by decide +kernel) rfl rfl rfl rfl rfl ?_
        obtain ⟨_, e117, h⟩ := xbnd h
        obtain ⟨R118, e116, h⟩ := xbnd h
        refine xs_cv (i := 328) (j := 227) (ar := []) (rest := []) (r2 := xr_227) (by decide +kernel) (by decide +kernel) (by decide +kernel) xr_227_e rfl (by decide) (by decide) e117 ?_
        refine xc_i (k227 (d := d + 0)   e116) rfl (fun hi119 => ?_)
        refine xe_ifeq (off := 26) (t := 104) (by decide +kernel) (by decide) rfl hi119 (fun c120 => ?_) (fun c120 => ?_)
        · rw [if_pos c120] at h
          refine xW_lv rfl (l := []) (xsb_of trivial (show [3, 0, 1, 2].Nodup by decide)) ?_
          exact k250_104    h
        · rw [if_neg c120] at h
          refine xe_alr (ins := .aload_n 0) (len := 1) (i := 0) (by decide +kernel) rfl rfl rfl rfl rfl ?_
          obtain ⟨v121, e122, h⟩ := xbnd h
          refine xs_gr (i := 197) (c := 15) (k := 22) (by decide +kernel) (by decide) (by decide +kernel) e122 rfl ?_
          obtain ⟨v123, e124, h⟩ := xbnd h
          refine xs_gr (i := 376) (c := 14) (k := 33) (by decide +kernel) (by decide) (by decide +kernel) e124 rfl ?_
          refine xe_ldn (ins := .iload_n 3) (len := 1) (by decide +kernel) rfl rfl rfl rfl ?_
          refine xe_iconst (n := 3) (by decide +kernel) rfl ?_
          obtain ⟨M125, e126, h⟩ := xbnd h
          refine xs_iast (by decide +kernel) (xin_wr _) e126 rfl ?_
          refine xe_alr (ins := .aload_n 0) (len := 1) (i := 0) (by decide +kernel) rfl rfl rfl rfl rfl ?_
          obtain ⟨v127, e128, h⟩ := xbnd h
          refine xs_gr (i := 197) (c := 15) (k := 22) (by decide +kernel) (by decide) (by decide +kernel) e128 rfl ?_
          obtain ⟨v129, e130, h⟩ := xbnd h
          refine xs_gr (i := 379) (c := 14) (k := 34) (by decide +kernel) (by decide) (by decide +kernel) e130 rfl ?_
          refine xe_ldn (ins := .iload_n 3) (len := 1) (by decide +kernel) rfl rfl rfl rfl ?_
          refine xe_alr (ins := .aload_n 0) (len := 1) (i := 0) (by decide +kernel) rfl rfl rfl rfl rfl ?_
          obtain ⟨v131, e132, h⟩ := xbnd h
          refine xs_gl (i := 160) (c := 15) (k := 21) (by decide +kernel) (by decide) (by decide +kernel) e132 rfl ?_
          obtain ⟨M133, e134, h⟩ := xbnd h
          refine xs_last (by decide +kernel) (xin_wr _) e134 rfl ?_
          refine xW_lv rfl (l := []) (xsb_of trivial (show [3, 0, 1, 2].Nodup by decide)) ?_
          exact k250_104    h
      · rw [if_neg c115] at h
        refine xe_alr (ins := .aload_n 0) (len := 1) (i := 0) (by decide +kernel) rfl rfl rfl rfl rfl ?_
        obtain ⟨v135, e136, h⟩ := xbnd h
        refine xs_gr (i := 197) (c := 15) (k := 22) (by decide +kernel) (by decide) (by decide +kernel) e136 rfl ?_
        obtain ⟨v137, e138, h⟩ := xbnd h
        refine xs_gr (i := 376) (c := 14) (k := 33) (by decide +kernel) (by decide) (by decide +kernel) e138 rfl ?_
        refine xe_ldn (ins := .iload_n 3) (len := 1) (by decide +kernel) rfl rfl rfl rfl ?_
        refine xe_iconst (n := 2) (by decide +kernel) rfl ?_
        obtain ⟨M139, e140, h⟩ := xbnd h
        refine xs_iast (by decide +kernel) (xin_wr _) e140 rfl ?_
        refine xe_alr (ins := .aload_n 0) (len := 1) (i := 0) (by decide +kernel) rfl rfl rfl rfl rfl ?_
        obtain ⟨_, e142, h⟩ := xbnd h
        obtain ⟨M143, e141, h⟩ := xbnd h
        refine xs_cv (i := 118) (j := 213) (ar := []) (rest := []) (r2 := xr_213) (by decide +kernel) (by decide +kernel) (by decide +kernel) xr_213_e rfl (by decide) (by decide) e142 ?_
        refine xc_v (k213 (d := d + 1)   e141) rfl ?_
        refine xe_goto (off := 33) (nx := 104) (by decide +kernel) (by decide) ?_
        refine xW_lv rfl (l := []) (xsb_of trivial (show [3, 0, 1, 2].Nodup by decide)) ?_
        exact k250_104    h
    · rw [if_neg c110] at h
      refine xe_alr (ins := .aload_n 0) (len := 1) (i := 0) (by decide +kernel) rfl rfl rfl rfl rfl ?_
      obtain ⟨v145, e146, h⟩ := xbnd h
      refine xs_gr (i := 197) (c := 15) (k := 22) (by decide +kernel) (by decide) (by decide +kernel) e146 rfl ?_
      obtain ⟨v147, e148, h⟩ := xbnd h
      refine xs_gr (i := 376) (c := 14) (k := 33) (by decide +kernel) (by decide) (by decide +kernel) e148 rfl ?_
      refine xe_ldn (ins := .iload_n 3) (len := 1) (by decide +kernel) rfl rfl rfl rfl ?_
      refine xe_iconst (n := 1) (by decide +kernel) rfl ?_
      obtain ⟨M149, e150, h⟩ := xbnd h
      refine xs_iast (by decide +kernel) (xin_wr _) e150 rfl ?_
      refine xe_alr (ins := .aload_n 0) (len := 1) (i := 0) (by decide +kernel) rfl rfl rfl rfl rfl ?_
      obtain ⟨v151, e152, h⟩ := xbnd h
      refine xs_gr (i := 197) (c := 15) (k := 22) (by decide +kernel) (by decide) (by decide +kernel) e152 rfl ?_
      obtain ⟨v153, e154, h⟩ := xbnd h
      refine xs_gr (i := 379) (c := 14) (k := 34) (by decide +kernel) (by decide) (by decide +kernel) e154 rfl ?_
      refine xe_ldn (ins := .iload_n 3) (len := 1) (by decide +kernel) rfl rfl rfl rfl ?_
      refine xe_alr (ins := .aload_n 0) (len := 1) (i := 0) (by decide +kernel) rfl rfl rfl rfl rfl ?_
      obtain ⟨_, e156, h⟩ := xbnd h
      obtain ⟨R157, e155, h⟩ := xbnd h
      refine xs_cv (i := 307) (j := 239) (ar := []) (rest := [xI (xwr ((xwr ((a1) * (4))) + (a2))), xR_ (v153)]) (r2 := xr_239) (by decide +kernel) (by decide +kernel) (by decide +kernel) xr_239_e rfl (by decide) (by simp only [List.map_cons, List.map_nil, List.sum_cons, List.sum_nil, xR_cat, xI_cat, xZ_cat]; decide) e156 ?_
      refine xc_i (k239 (d := d + 0)   e155) rfl (fun hi158 => ?_)
      refine xe_i2l (by decide +kernel) rfl hi158 ?_
      obtain ⟨M159, e160, h⟩ := xbnd h
      refine xs_last (by decide +kernel) (xin_wr _) e160 rfl ?_
      refine xe_goto (off := 58) (nx := 104) (by decide +kernel) (by decide) ?_
      refine xW_lv rfl (l := []) (xsb_of trivial (show [3, 0, 1, 2].Nodup by decide)) ?_
      exact k250_104    h
  · rw [if_neg c105] at h
    cases h
    exact xe_ret_v (by decide +kernel) rfl ⟨rfl, rfl⟩
-- ChangeHouseModel.workAll
def xr_290 : xj_mR := (15, yX15_workAll, cX15_workAll, 5, (Option.some Jvm.ClassFile.FieldType.boolean), 0, false, (9, 151), (1, 12))
set_option maxRecDepth 20000 in
theorem xr_290_e : xj_row 290 = some xr_290 := rfl
def f290_43  (r4 : Nat → Int → Int → xj_M → Option (Int × xj_M)) (f : Nat) (x0 : Nat) (x1 : Int) (x2 : Int) (M : xj_M) : Option (Int × xj_M) := ((xq_gr 15 33 (x0) M).bind fun v101 => ((xq_ai 3 (v101) (x2) M).bind fun v103 => (if (v103) ≤ (100) then r4 (x0) (x1) (xwr ((x2) + (1))) M else (some (0, M)))))
theorem k290_43 {d f : Nat}  {r4 : Nat → Int → Int → xj_M → Option (Int × xj_M)}  (hr4 : ∀ {x0 : Nat} {x1 : Int} {x2 : Int} {M : xj_M} {R : Int × xj_M}, xin x1 → xin x2 → r4 x0 x1 x2 M = some R → xW (d + 86) (none, d + 86, none) xr_290 (4, [(0, xR_ x0), (1, xI x1), (2, xI x2)], [], M) (xQi R)) {x0 : Nat} {x1 : Int} {x2 : Int} {M : xj_M} {R : Int × xj_M} (hx1 : xin x1) (hx2 : xin x2) (h : f290_43  r4 f x0 x1 x2 M = some R) : xW (d + 86) (none, d + 86, none) xr_290 (43, [(0, xR_ x0), (1, xI x1), (2, xI x2)], [], M) (xQi R) := by
  unfold f290_43 at h
  refine xe_alr (ins := .aload_n 0) (len := 1) (i := 0) (by decide +kernel) rfl rfl rfl rfl rfl ?_
  obtain ⟨v101, e102, h⟩ := xbnd h
  refine xs_gr (i := 430) (c := 15) (k := 33) (by decide +kernel) (by decide) (by decide +kernel) e102 rfl ?_
  refine xe_ldn (ins := .iload_n 2) (len := 1) (by decide +kernel) rfl rfl rfl rfl ?_
  obtain ⟨v103, e104, h⟩ := xbnd h
  refine xs_iald rfl (by decide +kernel) hx2 e104 rfl ?_
  refine xe_bipush (n := 100) (by decide +kernel) (by decide) rfl ?_
  refine xe_icmple (off := 5) (t := 56) (by decide +kernel) (by decide) rfl (xq_ai_in e104) (show xin (100) by decide) (fun c105 => ?_) (fun c105 => ?_)
  · rw [if_pos c105] at h
    refine xe_iincr (i := 2) (n := 1) (by decide +kernel) (by decide) rfl (xk_k (show ¬ (0 : Nat) = 2 by decide) (Or.inl (show ¬ (0 + 1 : Nat) = 2 by decide)) (xk_k (show ¬ (1 : Nat) = 2 by decide) (Or.inr (xI_cat _)) (xk_d rfl xk_n))) rfl ?_
    refine xe_goto (off := -55) (nx := 4) (by decide +kernel) (by decide) ?_
    refine xW_lv rfl (l := [(0, xR_ (x0)), (1, xI (x1)), (2, xI (xwr ((x2) + (1))))]) (xsb_of ⟨rfl, rfl, rfl, trivial⟩ (show [2, 0, 1].Nodup by decide)) ?_
    exact hr4 hx1 (xin_wr _) h
  · rw [if_neg c105] at h
    refine xe_iconst (n := 0) (by decide +kernel) rfl ?_
    cases h
    exact xe_ret_i (ty := .boolean) (by decide +kernel) rfl (by decide) ⟨rfl, rfl, (show xin (0) by decide)⟩
def f290_131  (r64 : Nat → Int → Int → xj_M → Option (Int × xj_M)) (r98 : Nat → Int → Int → Int → Int → xj_M → Option (Int × xj_M)) (f : Nat) (x0 : Nat) (x1 : Int) (x2 : Int) (x3 : Int) (x4 : Int) (M : xj_M) : Option (Int × xj_M) := r98 (x0) (x1) (x2) (x3) (xwr ((x4) + (1))) M
theorem k290_131 {d f : Nat}  {r64 : Nat → Int → Int → xj_M → Option (Int × xj_M)} {r98 : Nat → Int → Int → Int → Int → xj_M → Option (Int × xj_M)}  (hr64 : ∀ {x0 : Nat} {x1 : Int} {x2 : Int} {M : xj_M} {R : Int × xj_M}, xin x1 → xin x2 → r64 x0 x1 x2 M = some R → xW (d + 86) (none, d + 86, none) xr_290 (64, [(0, xR_ x0), (1, xI x1), (2, xI x2)], [], M) (xQi R)) (hr98 : ∀ {x0 : Nat} {x1 : Int} {x2 : Int} {x3 : Int} {x4 : Int} {M : xj_M} {R : Int × xj_M}, xin x1 → xin x2 → xin x3 → xin x4 → r98 x0 x1 x2 x3 x4 M = some R → xW (d + 86) (none, d + 86, none) xr_290 (98, [(0, xR_ x0), (1, xI x1), (2, xI x2), (3, xI x3), (4, xI x4)], [], M) (xQi R)) {x0 : Nat} {x1 : Int} {x2 : Int} {x3 : Int} {x4 : Int} {M : xj_M} {R : Int × xj_M} (hx1 : xin x1) (hx2 : xin x2) (hx3 : xin x3) (hx4 : xin x4) (h : f290_131  r64 r98 f x0 x1 x2 x3 x4 M = some R) : xW (d + 86) (none, d + 86, none) xr_290 (131, [(0, xR_ x0), (1, xI x1), (2, xI x2), (3, xI x3), (4, xI x4)], [], M) (xQi R) := by
  unfold f290_131 at h
  refine xe_iincr (i := 4) (n := 1) (by decide +kernel) (by decide) rfl (xk_k (show ¬ (0 : Nat) = 4 by decide) (Or.inl (show ¬ (0 + 1 : Nat) = 4 by decide)) (xk_k (show ¬ (1 : Nat) = 4 by decide) (Or.inl (show ¬ (1 + 1 : Nat) = 4 by decide)) (xk_k (show ¬ (2 : Nat) = 4 by decide) (Or.inl (show ¬ (2 + 1 : Nat) = 4 by decide)) (xk_k (show ¬ (3 : Nat) = 4 by decide) (Or.inr (xI_cat _)) (xk_d rfl xk_n))))) rfl ?_
  refine xe_goto (off := -36) (nx := 98) (by decide +kernel) (by decide) ?_
  refine xW_lv rfl (l := [(0, xR_ (x0)), (1, xI (x1)), (2, xI (x2)), (3, xI (x3)), (4, xI (xwr ((x4) + (1))))]) (xsb_of ⟨rfl, rfl, rfl, rfl, rfl, trivial⟩ (show [4, 0, 1, 2, 3].Nodup by decide)) ?_
  exact hr98 hx1 hx2 hx3 (xin_wr _) h
def f290_98b  (r64 : Nat → Int → Int → xj_M → Option (Int × xj_M)) (r98 : Nat → Int → Int → Int → Int → xj_M → Option (Int × xj_M)) (f : Nat) (x0 : Nat) (x1 : Int) (x2 : Int) (x3 : Int) (x4 : Int) (M : xj_M) : Option (Int × xj_M) := ((xq_gr 15 29 (x0) M).bind fun v106 => ((xq_gi 14 8 (v106) M).bind fun v108 => (if (v108) ≤ (x4) then r64 (x0) (x1) (x2) M else ((xq_gr 15 29 (x0) M).bind fun v111 => ((xq_gr 14 4 (v111) M).bind fun v113 => ((xq_ai 3 (v113) (x4) M).bind fun v115 => (if ¬ (v115) = (x3) then f290_131  r64 r98 f (x0) (x1) (x2) (x3) (x4) M else f290_131  r64 r98 f (x0) (xor_ (x1) (xshl (1) (x4))) (x2) (x3) (x4) M)))))))
theorem k290_98b {d f : Nat}  {r64 : Nat → Int → Int → xj_M → Option (Int × xj_M)} {r98 : Nat → Int → Int → Int → Int → xj_M → Option (Int × xj_M)}  (hr64 : ∀ {x0 : Nat} {x1 : Int} {x2 : Int} {M : xj_M} {R : Int × xj_M}, xin x1 → xin x2 → r64 x0 x1 x2 M = some R → xW (d + 86) (none, d + 86, none) xr_290 (64, [(0, xR_ x0), (1, xI x1), (2, xI x2)], [], M) (xQi R)) (hr98 : ∀ {x0 : Nat} {x1 : Int} {x2 : Int} {x3 : Int} {x4 : Int} {M : xj_M} {R : Int × xj_M}, xin x1 → xin x2 → xin x3 → xin x4 → r98 x0 x1 x2 x3 x4 M = some R → xW (d + 86) (none, d + 86, none) xr_290 (98, [(0, xR_ x0), (1, xI x1), (2, xI x2), (3, xI x3), (4, xI x4)], [], M) (xQi R)) {x0 : Nat} {x1 : Int} {x2 : Int} {x3 : Int} {x4 : Int} {M : xj_M} {R : Int × xj_M} (hx1 : xin x1) (hx2 : xin x2) (hx3 : xin x3) (hx4 : xin x4) (h : f290_98b  r64 r98 f x0 x1 x2 x3 x4 M = some R) : xW (d + 86) (none, d + 86, none) xr_290 (98, [(0, xR_ x0), (1, xI x1), (2, xI x2), (3, xI x3), (4, xI x4)], [], M) (xQi R) := by
  unfold f290_98b at h
  refine xe_ldn (ins := .iload 4) (len := 2) (by decide +kernel) rfl rfl rfl rfl ?_
  refine xe_alr (ins := .aload_n 0) (len := 1) (i := 0) (by decide +kernel) rfl rfl rfl rfl rfl ?_
  obtain ⟨v106, e107, h⟩ := xbnd h
  refine xs_gr (i := 439) (c := 15) (k := 29) (by decide +kernel) (by decide) (by decide +kernel) e107 rfl ?_
  obtain ⟨v108, e109, h⟩ := xbnd h
  refine xs_gi (i := 166) (c := 14) (k := 8) (by decide +kernel) (by decide) (by decide +kernel) e109 rfl ?_
  refine xe_icmpge (off := 30) (t := 137) (by decide +kernel) (by decide) rfl hx4 (xq_gi_in e109) (fun c110 => ?_) (fun c110 => ?_)
  · rw [if_pos c110] at h
    refine xe_goto (off := -73) (nx := 64) (by decide +kernel) (by decide) ?_
    refine xW_lv rfl (l := [(0, xR_ (x0)), (1, xI (x1)), (2, xI (x2))]) (xsb_of ⟨rfl, rfl, rfl, trivial⟩ (show [0, 1, 2, 3, 4].Nodup by decide)) ?_
    exact hr64 hx1 hx2 h
  · rw [if_neg c110] at h
    refine xe_alr (ins := .aload_n 0) (len := 1) (i := 0) (by decide +kernel) rfl rfl rfl rfl rfl ?_
    obtain ⟨v111, e112, h⟩ := xbnd h
    refine xs_gr (i := 439) (c := 15) (k := 29) (by decide +kernel) (by decide) (by decide +kernel) e112 rfl ?_
    obtain ⟨v113, e114, h⟩ := xbnd h
    refine xs_gr (i := 427) (c := 14) (k := 4) (by decide +kernel) (by decide) (by decide +kernel) e114 rfl ?_
    refine xe_ldn (ins := .iload 4) (len := 2) (by decide +kernel) rfl rfl rfl rfl ?_
    obtain ⟨v115, e116, h⟩ := xbnd h
    refine xs_iald rfl (by decide +kernel) hx4 e116 rfl ?_
    refine xe_ldn (ins := .iload_n 3) (len := 1) (by decide +kernel) rfl rfl rfl rfl ?_
    refine xe_icmpne (off := 10) (t := 131) (by decide +kernel) (by decide) rfl (xq_ai_in e116) hx3 (fun c117 => ?_) (fun c117 => ?_)
    · rw [if_pos c117] at h
      refine xW_lv rfl (l := [(0, xR_ (x0)), (1, xI (x1)), (2, xI (x2)), (3, xI (x3)), (4, xI (x4))]) (xsb_of ⟨rfl, rfl, rfl, rfl, rfl, trivial⟩ (show [0, 1, 2, 3, 4].Nodup by decide)) ?_
      exact k290_131  hr64 hr98 hx1 hx2 hx3 hx4 h
    · rw [if_neg c117] at h
      refine xe_ldn (ins := .iload_n 1) (len := 1) (by decide +kernel) rfl rfl rfl rfl ?_
      refine xe_iconst (n := 1) (by decide +kernel) rfl ?_
      refine xe_ldn (ins := .iload 4) (len := 2) (by decide +kernel) rfl rfl rfl rfl ?_
      refine xe_ishl (by decide +kernel) rfl ?_
      refine xe_ior (by decide +kernel) rfl ?_
      refine xe_isr (ins := .istore_n 1) (len := 1) (i := 1) (by decide +kernel) rfl rfl rfl (by decide) (xk_k (show ¬ (0 : Nat) = 1 by decide) (Or.inr (xR_cat _)) (xk_d rfl (xk_k (show ¬ (2 : Nat) = 1 by decide) (Or.inl (show ¬ (2 + 1 : Nat) = 1 by decide)) (xk_k (show ¬ (3 : Nat) = 1 by decide) (Or.inl (show ¬ (3 + 1 : Nat) = 1 by decide)) (xk_k (show ¬ (4 : Nat) = 1 by decide) (Or.inl (show ¬ (4 + 1 : Nat) = 1 by decide)) xk_n))))) rfl ?_
      refine xW_lv rfl (l := [(0, xR_ (x0)), (1, xI (xor_ (x1) (xshl (1) (x4)))), (2, xI (x2)), (3, xI (x3)), (4, xI (x4))]) (xsb_of ⟨rfl, rfl, rfl, rfl, rfl, trivial⟩ (show [1, 0, 2, 3, 4].Nodup by decide)) ?_
      exact k290_131  hr64 hr98 (xin_of _) hx2 hx3 hx4 h
def f290_98  (r64 : Nat → Int → Int → xj_M → Option (Int × xj_M)) (f : Nat) : Nat → Nat → Int → Int → Int → Int → xj_M → Option (Int × xj_M)
  | 0, _, _, _, _, _, _ => none
  | n + 1, x0, x1, x2, x3, x4, M => f290_98b  r64 (f290_98  r64 f n) f x0 x1 x2 x3 x4 M
theorem k290_98 {d f : Nat}  {r64 : Nat → Int → Int → xj_M → Option (Int × xj_M)}  (hr64 : ∀ {x0 : Nat} {x1 : Int} {x2 : Int} {M : xj_M} {R : Int × xj_M}, xin x1 → xin x2 → r64 x0 x1 x2 M = some R → xW (d + 86) (none, d + 86, none) xr_290 (64, [(0, xR_ x0), (1, xI x1), (2, xI x2)], [], M) (xQi R)) : ∀ {n : Nat} {x0 : Nat} {x1 : Int} {x2 : Int} {x3 : Int} {x4 : Int} {M : xj_M} {R : Int × xj_M}, xin x1 → xin x2 → xin x3 → xin x4 → f290_98  r64 f n x0 x1 x2 x3 x4 M = some R → xW (d + 86) (none, d + 86, none) xr_290 (98, [(0, xR_ x0), (1, xI x1), (2, xI x2), (3, xI x3), (4, xI x4)], [], M) (xQi R) := by
  intro n
  induction n with
  | zero => intros; rename_i h; cases h
  | succ n ih => intros; rename_i h; exact k290_98b  hr64 ih (by assumption) (by assumption) (by assumption) (by assumption) h
def f290_140   (f : Nat) (x2 : Int) (M : xj_M) : Option (Int × xj_M) := (if (x2) = 0 ∨ (x2) = 1 then some (x2, M) else none)
theorem k290_140 {d f : Nat}     {x2 : Int} {M : xj_M} {R : Int × xj_M} (hx2 : xin x2) (h : f290_140   f x2 M = some R) : xW (d + 86) (none, d + 86, none) xr_290 (140, [(2, xI x2)], [], M) (xQi R) := by
  unfold f290_140 at h
  refine xe_ldn (ins := .iload_n 2) (len := 1) (by decide +kernel) rfl rfl rfl rfl ?_
  by_cases c118 : (x2) = 0 ∨ (x2) = 1
  · rw [if_pos c118] at h; cases h; exact xe_ret_i (ty := .boolean) (by decide +kernel) rfl (xbool c118) ⟨rfl, rfl, hx2⟩
  · rw [if_neg c118] at h; cases h
def f290_64b  (r64 : Nat → Int → Int → xj_M → Option (Int × xj_M)) (f : Nat) (x0 : Nat) (x1 : Int) (x2 : Int) (M : xj_M) : Option (Int × xj_M) := (if (x2) = 0 then f290_140   f (x2) M else ((xq_gr 15 29 (x0) M).bind fun v120 => ((xq_gi 14 8 (v120) M).bind fun v122 => (if (x1) = (xwr ((xshl (1) (v122)) - (1))) then f290_140   f (x2) M else ((xq_is 15 (x0) M).bind fun _ => ((f291  f (x0) (x1) M).bind fun R127 => ((xq_is 15 (x0) R127.2).bind fun _ => ((f293  f (x0) (R127.1) R127.2).bind fun R131 => f290_98  r64 f f (x0) (x1) (R131.1) (R127.1) (0) R131.2))))))))
theorem k290_64b {d f : Nat}  {r64 : Nat → Int → Int → xj_M → Option (Int × xj_M)}  (hr64 : ∀ {x0 : Nat} {x1 : Int} {x2 : Int} {M : xj_M} {R : Int × xj_M}, xin x1 → xin x2 → r64 x0 x1 x2 M = some R → xW (d + 86) (none, d + 86, none) xr_290 (64, [(0, xR_ x0), (1, xI x1), (2, xI x2)], [], M) (xQi R)) {x0 : Nat} {x1 : Int} {x2 : Int} {M : xj_M} {R : Int × xj_M} (hx1 : xin x1) (hx2 : xin x2) (h : f290_64b  r64 f x0 x1 x2 M = some R) : xW (d + 86) (none, d + 86, none) xr_290 (64, [(0, xR_ x0), (1, xI x1), (2, xI x2)], [], M) (xQi R) := by
  unfold f290_64b at h
  refine xe_ldn (ins := .iload_n 2) (len := 1) (by decide +kernel) rfl rfl rfl rfl ?_
  refine xe_ifeq (off := 75) (t := 140) (by decide +kernel) (by decide) rfl hx2 (fun c119 => ?_) (fun c119 => ?_)
  · rw [if_pos c119] at h
    refine xW_lv rfl (l := [(2, xI (x2))]) (xsb_of ⟨rfl, trivial⟩ (show [0, 1, 2].Nodup by decide)) ?_
    exact k290_140   hx2 h
  · rw [if_neg c119] at h
    refine xe_ldn (ins := .iload_n 1) (len := 1) (by decide +kernel) rfl rfl rfl rfl ?_
    refine xe_iconst (n := 1) (by decide +kernel) rfl ?_
    refine xe_alr (ins := .aload_n 0) (len := 1) (i := 0) (by decide +kernel) rfl rfl rfl rfl rfl ?_
    obtain ⟨v120, e121, h⟩ := xbnd h
    refine xs_gr (i := 439) (c := 15) (k := 29) (by decide +kernel) (by decide) (by decide +kernel) e121 rfl ?_
    obtain ⟨v122, e123, h⟩ := xbnd h
    refine xs_gi (i := 166) (c := 14) (k := 8) (by decide +kernel) (by decide) (by decide +kernel) e123 rfl ?_
    refine xe_ishl (by decide +kernel) rfl ?_
    refine xe_iconst (n := 1) (by decide +kernel) rfl ?_
    refine xe_isub (by decide +kernel) rfl ?_
    refine xe_icmpeq (off := 60) (t := 140) (by decide +kernel) (by decide) rfl hx1 (xin_wr _) (fun c124 => ?_) (fun c124 => ?_)
    · rw [if_pos c124] at h
      refine xW_lv rfl (l := [(2, xI (x2))]) (xsb_of ⟨rfl, trivial⟩ (show [0, 1, 2].Nodup by decide)) ?_
      exact k290_140   hx2 h
    · rw [if_neg c124] at h
      refine xe_alr (ins := .aload_n 0) (len := 1) (i := 0) (by decide +kernel) rfl rfl rfl rfl rfl ?_
      refine xe_ldn (ins := .iload_n 1) (len := 1) (by decide +kernel) rfl rfl rfl rfl ?_
      obtain ⟨_, e126, h⟩ := xbnd h
      obtain ⟨R127, e125, h⟩ := xbnd h
      refine xs_cv (i := 614) (j := 291) (ar := [xI (x1)]) (rest := []) (r2 := xr_291) (by decide +kernel) (by decide +kernel) (by decide +kernel) xr_291_e rfl (by decide) (by decide) e126 ?_
      refine xc_i (k291 (d := d + 84)  hx1 e125) rfl (fun hi128 => ?_)
      refine xe_isr (ins := .istore_n 3) (len := 1) (i := 3) (by decide +kernel) rfl rfl rfl (by decide) (xk_k (show ¬ (0 : Nat) = 3 by decide) (Or.inl (show ¬ (0 + 1 : Nat) = 3 by decide)) (xk_k (show ¬ (1 : Nat) = 3 by decide) (Or.inl (show ¬ (1 + 1 : Nat) = 3 by decide)) (xk_k (show ¬ (2 : Nat) = 3 by decide) (Or.inr (xI_cat _)) xk_n))) rfl ?_
      refine xe_alr (ins := .aload_n 0) (len := 1) (i := 0) (by decide +kernel) rfl rfl rfl rfl rfl ?_
      refine xe_ldn (ins := .iload_n 3) (len := 1) (by decide +kernel) rfl rfl rfl rfl ?_
      obtain ⟨_, e130, h⟩ := xbnd h
      obtain ⟨R131, e129, h⟩ := xbnd h
      refine xs_cv (i := 617) (j := 293) (ar := [xI (R127.1)]) (rest := []) (r2 := xr_293) (by decide +kernel) (by decide +kernel) (by decide +kernel) xr_293_e rfl (by decide) (by decide) e130 ?_
      refine xc_i (k293 (d := d + 0)  hi128 e129) rfl (fun hi132 => ?_)
      refine xe_isr (ins := .istore_n 2) (len := 1) (i := 2) (by decide +kernel) rfl rfl rfl (by decide) (xk_k (show ¬ (3 : Nat) = 2 by decide) (Or.inl (show ¬ (3 + 1 : Nat) = 2 by decide)) (xk_k (show ¬ (0 : Nat) = 2 by decide) (Or.inl (show ¬ (0 + 1 : Nat) = 2 by decide)) (xk_k (show ¬ (1 : Nat) = 2 by decide) (Or.inr (xI_cat _)) (xk_d rfl xk_n)))) rfl ?_
      refine xe_iconst (n := 0) (by decide +kernel) rfl ?_
      refine xe_isr (ins := .istore 4) (len := 2) (i := 4) (by decide +kernel) rfl rfl rfl (by decide) (xk_k (show ¬ (2 : Nat) = 4 by decide) (Or.inl (show ¬ (2 + 1 : Nat) = 4 by decide)) (xk_k (show ¬ (3 : Nat) = 4 by decide) (Or.inr (xI_cat _)) (xk_k (show ¬ (0 : Nat) = 4 by decide) (Or.inl (show ¬ (0 + 1 : Nat) = 4 by decide)) (xk_k (show ¬ (1 : Nat) = 4 by decide) (Or.inl (show ¬ (1 + 1 : Nat) = 4 by decide)) xk_n)))) rfl ?_
      refine xW_lv rfl (l := [(0, xR_ (x0)), (1, xI (x1)), (2, xI (R131.1)), (3, xI (R127.1)), (4, xI (0))]) (xsb_of ⟨rfl, rfl, rfl, rfl, rfl, trivial⟩ (show [4, 2, 3, 0, 1].Nodup by decide)) ?_
      exact k290_98  hr64 hx1 hi132 hi128 (show xin (0) by decide) h
def f290_64   (f : Nat) : Nat → Nat → Int → Int → xj_M → Option (Int × xj_M)
  | 0, _, _, _, _ => none
  | n + 1, x0, x1, x2, M => f290_64b   (f290_64   f n) f x0 x1 x2 M
theorem k290_64 {d f : Nat}     : ∀ {n : Nat} {x0 : Nat} {x1 : Int} {x2 : Int} {M : xj_M} {R : Int × xj_M}, xin x1 → xin x2 → f290_64   f n x0 x1 x2 M = some R → xW (d + 86) (none, d + 86, none) xr_290 (64, [(0, xR_ x0), (1, xI x1), (2, xI x2)], [], M) (xQi R) := by
  intro n
  induction n with
  | zero => intros; rename_i h; cases h
  | succ n ih => intros; rename_i h; exact k290_64b   ih (by assumption) (by assumption) h
def f290_4b  (r4 : Nat → Int → Int → xj_M → Option (Int × xj_M)) (f : Nat) (x0 : Nat) (x1 : Int) (x2 : Int) (M : xj_M) : Option (Int × xj_M) := ((xq_gr 15 29 (x0) M).bind fun v133 => ((xq_gi 14 8 (v133) M).bind fun v135 => (if (v135) ≤ (x2) then f290_64   f f (x0) (x1) (1) M else ((xq_gr 15 29 (x0) M).bind fun v138 => ((xq_gr 14 5 (v138) M).bind fun v140 => ((xq_ab (v140) (x2) M).bind fun v142 => (if (v142) = 0 then ((xq_gr 15 33 (x0) M).bind fun v145 => ((xq_si (v145) (x2) (0) M).bind fun M147 => f290_43  r4 f (x0) (x1) (x2) M147)) else f290_43  r4 f (x0) (xor_ (x1) (xshl (1) (x2))) (x2) M)))))))
theorem k290_4b {d f : Nat}  {r4 : Nat → Int → Int → xj_M → Option (Int × xj_M)}  (hr4 : ∀ {x0 : Nat} {x1 : Int} {x2 : Int} {M : xj_M} {R : Int × xj_M}, xin x1 → xin x2 → r4 x0 x1 x2 M = some R → xW (d + 86) (none, d + 86, none) xr_290 (4, [(0, xR_ x0), (1, xI x1), (2, xI x2)], [], M) (xQi R)) {x0 : Nat} {x1 : Int} {x2 : Int} {M : xj_M} {R : Int × xj_M} (hx1 : xin x1) (hx2 : xin x2) (h : f290_4b  r4 f x0 x1 x2 M = some R) : xW (d + 86) (none, d + 86, none) xr_290 (4, [(0, xR_ x0), (1, xI x1), (2, xI x2)], [], M) (xQi R) := by
  unfold f290_4b at h
  refine xe_ldn (ins := .iload_n 2) (len := 1) (by decide +kernel) rfl rfl rfl rfl ?_
  refine xe_alr (ins := .aload_n 0) (len := 1) (i := 0) (by decide +kernel) rfl rfl rfl rfl rfl ?_
  obtain ⟨v133, e134, h⟩ := xbnd h
  refine xs_gr (i := 439) (c := 15) (k := 29) (by decide +kernel) (by decide) (by decide +kernel) e134 rfl ?_
  obtain ⟨v135, e136, h⟩ := xbnd h
  refine xs_gi (i := 166) (c := 14) (k := 8) (by decide +kernel) (by decide) (by decide +kernel) e136 rfl ?_
  refine xe_icmpge (off := 50) (t := 62) (by decide +kernel) (by decide) rfl hx2 (xq_gi_in e136) (fun c137 => ?_) (fun c137 => ?_)
  · rw [if_pos c137] at h
    refine xe_iconst (n := 1) (by decide +kernel) rfl ?_
    refine xe_isr (ins := .istore_n 2) (len := 1) (i := 2) (by decide +kernel) rfl rfl rfl (by decide) (xk_k (show ¬ (0 : Nat) = 2 by decide) (Or.inl (show ¬ (0 + 1 : Nat) = 2 by decide)) (xk_k (show ¬ (1 : Nat) = 2 by decide) (Or.inr (xI_cat _)) (xk_d rfl xk_n))) rfl ?_
    refine xW_lv rfl (l := [(0, xR_ (x0)), (1, xI (x1)), (2, xI (1))]) (xsb_of ⟨rfl, rfl, rfl, trivial⟩ (show [2, 0, 1].Nodup by decide)) ?_
    exact k290_64   hx1 (show xin (1) by decide) h
  · rw [if_neg c137] at h
    refine xe_alr (ins := .aload_n 0) (len := 1) (i := 0) (by decide +kernel) rfl rfl rfl rfl rfl ?_
    obtain ⟨v138, e139, h⟩ := xbnd h
    refine xs_gr (i := 439) (c := 15) (k := 29) (by decide +kernel) (by decide) (by decide +kernel) e139 rfl ?_
    obtain ⟨v140, e141, h⟩ := xbnd h
    refine xs_gr (i := 187) (c := 14) (k := 5) (by decide +kernel) (by decide) (by decide +kernel) e141 rfl ?_
    refine xe_ldn (ins := .iload_n 2) (len := 1) (by decide +kernel) rfl rfl rfl rfl ?_
    obtain ⟨v142, e143, h⟩ := xbnd h
    refine xs_bald (by decide +kernel) hx2 e143 rfl ?_
    refine xe_ifeq (off := 12) (t := 36) (by decide +kernel) (by decide) rfl (xq_ab_in e143) (fun c144 => ?_) (fun c144 => ?_)
    · rw [if_pos c144] at h
      refine xe_alr (ins := .aload_n 0) (len := 1) (i := 0) (by decide +kernel) rfl rfl rfl rfl rfl ?_
      obtain ⟨v145, e146, h⟩ := xbnd h
      refine xs_gr (i := 430) (c := 15) (k := 33) (by decide +kernel) (by decide) (by decide +kernel) e146 rfl ?_
      refine xe_ldn (ins := .iload_n 2) (len := 1) (by decide +kernel) rfl rfl rfl rfl ?_
      refine xe_iconst (n := 0) (by decide +kernel) rfl ?_
      obtain ⟨M147, e148, h⟩ := xbnd h
      refine xs_iast (by decide +kernel) hx2 e148 rfl ?_
      refine xW_lv rfl (l := [(0, xR_ (x0)), (1, xI (x1)), (2, xI (x2))]) (xsb_of ⟨rfl, rfl, rfl, trivial⟩ (show [0, 1, 2].Nodup by decide)) ?_
      exact k290_43  hr4 hx1 hx2 h
    · rw [if_neg c144] at h
      refine xe_ldn (ins := .iload_n 1) (len := 1) (by decide +kernel) rfl rfl rfl rfl ?_
      refine xe_iconst (n := 1) (by decide +kernel) rfl ?_
      refine xe_ldn (ins := .iload_n 2) (len := 1) (by decide +kernel) rfl rfl rfl rfl ?_
      refine xe_ishl (by decide +kernel) rfl ?_
      refine xe_ior (by decide +kernel) rfl ?_
      refine xe_isr (ins := .istore_n 1) (len := 1) (i := 1) (by decide +kernel) rfl rfl rfl (by decide) (xk_k (show ¬ (0 : Nat) = 1 by decide) (Or.inr (xR_cat _)) (xk_d rfl (xk_k (show ¬ (2 : Nat) = 1 by decide) (Or.inl (show ¬ (2 + 1 : Nat) = 1 by decide)) xk_n))) rfl ?_
      refine xe_goto (off := 10) (nx := 43) (by decide +kernel) (by decide) ?_
      refine xW_lv rfl (l := [(0, xR_ (x0)), (1, xI (xor_ (x1) (xshl (1) (x2)))), (2, xI (x2))]) (xsb_of ⟨rfl, rfl, rfl, trivial⟩ (show [1, 0, 2].Nodup by decide)) ?_
      exact k290_43  hr4 (xin_of _) hx2 h
def f290_4   (f : Nat) : Nat → Nat → Int → Int → xj_M → Option (Int × xj_M)
  | 0, _, _, _, _ => none
  | n + 1, x0, x1, x2, M => f290_4b   (f290_4   f n) f x0 x1 x2 M
theorem k290_4 {d f : Nat}     : ∀ {n : Nat} {x0 : Nat} {x1 : Int} {x2 : Int} {M : xj_M} {R : Int × xj_M}, xin x1 → xin x2 → f290_4   f n x0 x1 x2 M = some R → xW (d + 86) (none, d + 86, none) xr_290 (4, [(0, xR_ x0), (1, xI x1), (2, xI x2)], [], M) (xQi R) := by
  intro n
  induction n with
  | zero => intros; rename_i h; cases h
  | succ n ih => intros; rename_i h; exact k290_4b   ih (by assumption) (by assumption) h
def f290  (f : Nat) (a0 : Nat) (M : xj_M) : Option (Int × xj_M) := f290_4   f f (a0) (0) (0) M
theorem k290 {d f : Nat}   {a0 : Nat} {M : xj_M} {R : Int × xj_M}  (h : f290  f a0 M = some R) : xT (d + 87) 290 [xR_ a0] M (xQi R) := by
  refine xT_m xr_290_e (X := (none, d + 86, none)) rfl (xa_1 (xR_cat _) xa_n) (by decide) ?_
  unfold f290 at h
  refine xe_iconst (n := 0) (by decide +kernel) rfl ?_
  refine xe_isr (ins := .istore_n 1) (len := 1) (i := 1) (by decide +kernel) rfl rfl rfl (by decide) (xk_k (show ¬ (0 : Nat) = 1 by decide) (Or.inr (xR_cat _)) xk_n) rfl ?_
  refine xe_iconst (n := 0) (by decide +kernel) rfl ?_
  refine xe_isr (ins := .istore_n 2) (len := 1) (i := 2) (by decide +kernel) rfl rfl rfl (by decide) (xk_k (show ¬ (1 : Nat) = 2 by decide) (Or.inr (xI_cat _)) (xk_k (show ¬ (0 : Nat) = 2 by decide) (Or.inl (show ¬ (0 + 1 : Nat) = 2 by decide)) xk_n)) rfl ?_
  refine xW_lv rfl (l := [(0, xR_ (a0)), (1, xI (0)), (2, xI (0))]) (xsb_of ⟨rfl, rfl, rfl, trivial⟩ (show [2, 1, 0].Nodup by decide)) ?_
  exact k290_4   (show xin (0) by decide) (show xin (0) by decide) h
-- ChangeHouseModel.cellHere
def xr_332 : xj_mR := (15, yX15_cellHere, cX15_cellHere, 5, (Option.some Jvm.ClassFile.FieldType.int), 0, false, (10, 97), (1, 12))
set_option maxRecDepth 20000 in
theorem xr_332_e : xj_row 332 = some xr_332 := rfl
def f332_171   (f : Nat) (x0 : Nat) (M : xj_M) : Option (Int × xj_M) := ((xq_gi 15 4 (x0) M).bind fun v101 => ((xq_is 15 (x0) M).bind fun _ => ((f210  f (x0) (v101) M).bind fun M105 => (some (0, M105)))))
theorem k332_171 {d f : Nat}     {x0 : Nat} {M : xj_M} {R : Int × xj_M}  (h : f332_171   f x0 M = some R) : xW (d + 7) (none, d + 7, none) xr_332 (171, [(0, xR_ x0)], [], M) (xQi R) := by
  unfold f332_171 at h
  refine xe_alr (ins := .aload_n 0) (len := 1) (i := 0) (by decide +kernel) rfl rfl rfl rfl rfl ?_
  refine xe_alr (ins := .aload_n 0) (len := 1) (i := 0) (by decide +kernel) rfl rfl rfl rfl rfl ?_
  obtain ⟨v101, e102, h⟩ := xbnd h
  refine xs_gi (i := 43) (c := 15) (k := 4) (by decide +kernel) (by decide) (by decide +kernel) e102 rfl ?_
  obtain ⟨_, e104, h⟩ := xbnd h
  obtain ⟨M105, e103, h⟩ := xbnd h
  refine xs_cv (i := 35) (j := 210) (ar := [xI (v101)]) (rest := []) (r2 := xr_210) (by decide +kernel) (by decide +kernel) (by decide +kernel) xr_210_e rfl (by decide) (by decide) e104 ?_
  refine xc_v (k210 (d := d + 6)  (xq_gi_in e102) e103) rfl ?_
  refine xe_iconst (n := 0) (by decide +kernel) rfl ?_
  cases h
  exact xe_ret_i (ty := .int) (by decide +kernel) rfl rfl ⟨rfl, rfl, (show xin (0) by decide)⟩
def f332_143   (f : Nat) (x0 : Nat) (x2 : Int) (x3 : Int) (y0 : Int) (M : xj_M) : Option (Int × xj_M) := (if (x2) < 0 then f332_171   f (x0) M else (if (6) ≤ (x2) then f332_171   f (x0) M else (if (y0) = 0 then f332_171   f (x0) M else (if (x3) < (1) then f332_171   f (x0) M else (if (x3) ≤ (12) then ((xq_is 15 (x0) M).bind fun _ => ((f213  f (x0) M).bind fun M114 => (some (xwr ((x2) + (xwr ((6) * (xwr ((x3) - (1)))))), M114)))) else f332_171   f (x0) M)))))
theorem k332_143 {d f : Nat}     {x0 : Nat} {x2 : Int} {x3 : Int} {y0 : Int} {M : xj_M} {R : Int × xj_M} (hx2 : xin x2) (hx3 : xin x3) (hy0 : xin y0) (h : f332_143   f x0 x2 x3 y0 M = some R) : xW (d + 7) (none, d + 7, none) xr_332 (143, [(0, xR_ x0), (2, xI x2), (3, xI x3)], [xI y0], M) (xQi R) := by
  unfold f332_143 at h
  refine xe_isr (ins := .istore 4) (len := 2) (i := 4) (by decide +kernel) rfl rfl rfl (by decide) (xk_k (show ¬ (0 : Nat) = 4 by decide) (Or.inl (show ¬ (0 + 1 : Nat) = 4 by decide)) (xk_k (show ¬ (2 : Nat) = 4 by decide) (Or.inl (show ¬ (2 + 1 : Nat) = 4 by decide)) (xk_k (show ¬ (3 : Nat) = 4 by decide) (Or.inr (xI_cat _)) xk_n))) rfl ?_
  refine xe_ldn (ins := .iload_n 2) (len := 1) (by decide +kernel) rfl rfl rfl rfl ?_
  refine xe_iflt (off := 25) (t := 171) (by decide +kernel) (by decide) rfl hx2 (fun c107 => ?_) (fun c107 => ?_)
  · rw [if_pos c107] at h
    refine xW_lv rfl (l := [(0, xR_ (x0))]) (xsb_of ⟨rfl, trivial⟩ (show [4, 0, 2, 3].Nodup by decide)) ?_
    exact k332_171    h
  · rw [if_neg c107] at h
    refine xe_ldn (ins := .iload_n 2) (len := 1) (by decide +kernel) rfl rfl rfl rfl ?_
    refine xe_bipush (n := 6) (by decide +kernel) (by decide) rfl ?_
    refine xe_icmpge (off := 19) (t := 171) (by decide +kernel) (by decide) rfl hx2 (show xin (6) by decide) (fun c108 => ?_) (fun c108 => ?_)
    · rw [if_pos c108] at h
      refine xW_lv rfl (l := [(0, xR_ (x0))]) (xsb_of ⟨rfl, trivial⟩ (show [4, 0, 2, 3].Nodup by decide)) ?_
      exact k332_171    h
    · rw [if_neg c108] at h
      refine xe_ldn (ins := .iload 4) (len := 2) (by decide +kernel) rfl rfl rfl rfl ?_
      refine xe_ifeq (off := 14) (t := 171) (by decide +kernel) (by decide) rfl hy0 (fun c109 => ?_) (fun c109 => ?_)
      · rw [if_pos c109] at h
        refine xW_lv rfl (l := [(0, xR_ (x0))]) (xsb_of ⟨rfl, trivial⟩ (show [4, 0, 2, 3].Nodup by decide)) ?_
        exact k332_171    h
      · rw [if_neg c109] at h
        refine xe_ldn (ins := .iload_n 3) (len := 1) (by decide +kernel) rfl rfl rfl rfl ?_
        refine xe_iconst (n := 1) (by decide +kernel) rfl ?_
        refine xe_icmplt (off := 9) (t := 171) (by decide +kernel) (by decide) rfl hx3 (show xin (1) by decide) (fun c110 => ?_) (fun c110 => ?_)
        · rw [if_pos c110] at h
          refine xW_lv rfl (l := [(0, xR_ (x0))]) (xsb_of ⟨rfl, trivial⟩ (show [4, 0, 2, 3].Nodup by decide)) ?_
          exact k332_171    h
        · rw [if_neg c110] at h
          refine xe_ldn (ins := .iload_n 3) (len := 1) (by decide +kernel) rfl rfl rfl rfl ?_
          refine xe_bipush (n := 12) (by decide +kernel) (by decide) rfl ?_
          refine xe_icmple (off := 13) (t := 181) (by decide +kernel) (by decide) rfl hx3 (show xin (12) by decide) (fun c111 => ?_) (fun c111 => ?_)
          · rw [if_pos c111] at h
            refine xe_alr (ins := .aload_n 0) (len := 1) (i := 0) (by decide +kernel) rfl rfl rfl rfl rfl ?_
            obtain ⟨_, e113, h⟩ := xbnd h
            obtain ⟨M114, e112, h⟩ := xbnd h
            refine xs_cv (i := 118) (j := 213) (ar := []) (rest := []) (r2 := xr_213) (by decide +kernel) (by decide +kernel) (by decide +kernel) xr_213_e rfl (by decide) (by decide) e113 ?_
            refine xc_v (k213 (d := d + 0)   e112) rfl ?_
            refine xe_ldn (ins := .iload_n 2) (len := 1) (by decide +kernel) rfl rfl rfl rfl ?_
            refine xe_bipush (n := 6) (by decide +kernel) (by decide) rfl ?_
            refine xe_ldn (ins := .iload_n 3) (len := 1) (by decide +kernel) rfl rfl rfl rfl ?_
            refine xe_iconst (n := 1) (by decide +kernel) rfl ?_
            refine xe_isub (by decide +kernel) rfl ?_
            refine xe_imul (by decide +kernel) rfl ?_
            refine xe_iadd (by decide +kernel) rfl ?_
            cases h
            exact xe_ret_i (ty := .int) (by decide +kernel) rfl rfl ⟨rfl, rfl, (xin_wr _)⟩
          · rw [if_neg c111] at h
            refine xW_lv rfl (l := [(0, xR_ (x0))]) (xsb_of ⟨rfl, trivial⟩ (show [4, 0, 2, 3].Nodup by decide)) ?_
            exact k332_171    h
def f332_142   (f : Nat) (x0 : Nat) (x2 : Int) (x3 : Int) (M : xj_M) : Option (Int × xj_M) := f332_143   f (x0) (x2) (x3) (0) M
theorem k332_142 {d f : Nat}     {x0 : Nat} {x2 : Int} {x3 : Int} {M : xj_M} {R : Int × xj_M} (hx2 : xin x2) (hx3 : xin x3) (h : f332_142   f x0 x2 x3 M = some R) : xW (d + 7) (none, d + 7, none) xr_332 (142, [(0, xR_ x0), (2, xI x2), (3, xI x3)], [], M) (xQi R) := by
  unfold f332_142 at h
  refine xe_iconst (n := 0) (by decide +kernel) rfl ?_
  refine xW_lv rfl (l := [(0, xR_ (x0)), (2, xI (x2)), (3, xI (x3))]) (xsb_of ⟨rfl, rfl, rfl, trivial⟩ (show [0, 2, 3].Nodup by decide)) ?_
  exact k332_143   hx2 hx3 (show xin (0) by decide) h
def f332_95   (f : Nat) (x0 : Nat) (x1 : Int) (x2 : Int) (y0 : Int) (M : xj_M) : Option (Int × xj_M) := (if ¬ (x1) = (2) then (if ¬ (x1) = (3) then f332_142   f (x0) (x2) (y0) M else ((xq_gi 15 4 (x0) M).bind fun v118 => ((xq_is 15 (x0) M).bind fun _ => ((f209  f (x0) (xwr ((v118) + (2))) M).bind fun R122 => ((f208  f (R122.1) R122.2).bind fun R125 => (if (R125.1) = 0 then f332_142   f (x0) (x2) (y0) R125.2 else f332_143   f (x0) (x2) (y0) (1) R125.2)))))) else ((xq_gi 15 4 (x0) M).bind fun v128 => ((xq_is 15 (x0) M).bind fun _ => ((f209  f (x0) (xwr ((v128) + (1))) M).bind fun R132 => ((f208  f (R132.1) R132.2).bind fun R135 => f332_143   f (x0) (x2) (y0) (R135.1) R135.2)))))
theorem k332_95 {d f : Nat}     {x0 : Nat} {x1 : Int} {x2 : Int} {y0 : Int} {M : xj_M} {R : Int × xj_M} (hx1 : xin x1) (hx2 : xin x2) (hy0 : xin y0) (h : f332_95   f x0 x1 x2 y0 M = some R) : xW (d + 7) (none, d + 7, none) xr_332 (95, [(0, xR_ x0), (1, xI x1), (2, xI x2)], [xI y0], M) (xQi R) := by
  unfold f332_95 at h
  refine xe_isr (ins := .istore_n 3) (len := 1) (i := 3) (by decide +kernel) rfl rfl rfl (by decide) (xk_k (show ¬ (0 : Nat) = 3 by decide) (Or.inl (show ¬ (0 + 1 : Nat) = 3 by decide)) (xk_k (show ¬ (1 : Nat) = 3 by decide) (Or.inl (show ¬ (1 + 1 : Nat) = 3 by decide)) (xk_k (show ¬ (2 : Nat) = 3 by decide) (Or.inr (xI_cat _)) xk_n))) rfl ?_
  refine xe_ldn (ins := .iload_n 1) (len := 1) (by decide +kernel) rfl rfl rfl rfl ?_
  refine xe_iconst (n := 2) (by decide +kernel) rfl ?_
  refine xe_icmpne (off := 19) (t := 117) (by decide +kernel) (by decide) rfl hx1 (show xin (2) by decide) (fun c116 => ?_) (fun c116 => ?_)
  · rw [if_pos c116] at h
    refine xe_ldn (ins := .iload_n 1) (len := 1) (by decide +kernel) rfl rfl rfl rfl ?_
    refine xe_iconst (n := 3) (by decide +kernel) rfl ?_
    refine xe_icmpne (off := 23) (t := 142) (by decide +kernel) (by decide) rfl hx1 (show xin (3) by decide) (fun c117 => ?_) (fun c117 => ?_)
    · rw [if_pos c117] at h
      refine xW_lv rfl (l := [(0, xR_ (x0)), (2, xI (x2)), (3, xI (y0))]) (xsb_of ⟨rfl, rfl, rfl, trivial⟩ (show [3, 0, 1, 2].Nodup by decide)) ?_
      exact k332_142   hx2 hy0 h
    · rw [if_neg c117] at h
      refine xe_alr (ins := .aload_n 0) (len := 1) (i := 0) (by decide +kernel) rfl rfl rfl rfl rfl ?_
      refine xe_alr (ins := .aload_n 0) (len := 1) (i := 0) (by decide +kernel) rfl rfl rfl rfl rfl ?_
      obtain ⟨v118, e119, h⟩ := xbnd h
      refine xs_gi (i := 43) (c := 15) (k := 4) (by decide +kernel) (by decide) (by decide +kernel) e119 rfl ?_
      refine xe_iconst (n := 2) (by decide +kernel) rfl ?_
      refine xe_iadd (by decide +kernel) rfl ?_
      obtain ⟨_, e121, h⟩ := xbnd h
      obtain ⟨R122, e120, h⟩ := xbnd h
      refine xs_cv (i := 39) (j := 209) (ar := [xI (xwr ((v118) + (2)))]) (rest := []) (r2 := xr_209) (by decide +kernel) (by decide +kernel) (by decide +kernel) xr_209_e rfl (by decide) (by decide) e121 ?_
      refine xc_i (k209 (d := d + 6)  (xin_wr _) e120) rfl (fun hi123 => ?_)
      obtain ⟨R125, e124, h⟩ := xbnd h
      refine xs_cs (kd := 2) (by decide) (i := 62) (j := 208) (ar := [xI (R122.1)]) (rest := []) (r2 := xr_208) (by decide +kernel) (by decide +kernel) (by decide +kernel) xr_208_e rfl (by decide) ?_
      refine xc_i (k208 (d := d + 6)  hi123 e124) rfl (fun hi126 => ?_)
      refine xe_ifeq (off := 7) (t := 142) (by decide +kernel) (by decide) rfl hi126 (fun c127 => ?_) (fun c127 => ?_)
      · rw [if_pos c127] at h
        refine xW_lv rfl (l := [(0, xR_ (x0)), (2, xI (x2)), (3, xI (y0))]) (xsb_of ⟨rfl, rfl, rfl, trivial⟩ (show [3, 0, 1, 2].Nodup by decide)) ?_
        exact k332_142   hx2 hy0 h
      · rw [if_neg c127] at h
        refine xe_iconst (n := 1) (by decide +kernel) rfl ?_
        refine xe_goto (off := 4) (nx := 143) (by decide +kernel) (by decide) ?_
        refine xW_lv rfl (l := [(0, xR_ (x0)), (2, xI (x2)), (3, xI (y0))]) (xsb_of ⟨rfl, rfl, rfl, trivial⟩ (show [3, 0, 1, 2].Nodup by decide)) ?_
        exact k332_143   hx2 hy0 (show xin (1) by decide) h
  · rw [if_neg c116] at h
    refine xe_alr (ins := .aload_n 0) (len := 1) (i := 0) (by decide +kernel) rfl rfl rfl rfl rfl ?_
    refine xe_alr (ins := .aload_n 0) (len := 1) (i := 0) (by decide +kernel) rfl rfl rfl rfl rfl ?_
    obtain ⟨v128, e129, h⟩ := xbnd h
    refine xs_gi (i := 43) (c := 15) (k := 4) (by decide +kernel) (by decide) (by decide +kernel) e129 rfl ?_
    refine xe_iconst (n := 1) (by decide +kernel) rfl ?_
    refine xe_iadd (by decide +kernel) rfl ?_
    obtain ⟨_, e131, h⟩ := xbnd h
    obtain ⟨R132, e130, h⟩ := xbnd h
    refine xs_cv (i := 39) (j := 209) (ar := [xI (xwr ((v128) + (1)))]) (rest := []) (r2 := xr_209) (by decide +kernel) (by decide +kernel) (by decide +kernel) xr_209_e rfl (by decide) (by decide) e131 ?_
    refine xc_i (k209 (d := d + 6)  (xin_wr _) e130) rfl (fun hi133 => ?_)
    obtain ⟨R135, e134, h⟩ := xbnd h
    refine xs_cs (kd := 2) (by decide) (i := 62) (j := 208) (ar := [xI (R132.1)]) (rest := []) (r2 := xr_208) (by decide +kernel) (by decide +kernel) (by decide +kernel) xr_208_e rfl (by decide) ?_
    refine xc_i (k208 (d := d + 6)  hi133 e134) rfl (fun hi136 => ?_)
    refine xe_goto (off := 29) (nx := 143) (by decide +kernel) (by decide) ?_
    refine xW_lv rfl (l := [(0, xR_ (x0)), (2, xI (x2)), (3, xI (y0))]) (xsb_of ⟨rfl, rfl, rfl, trivial⟩ (show [3, 0, 1, 2].Nodup by decide)) ?_
    exact k332_143   hx2 hy0 hi136 h
def f332_94   (f : Nat) (x0 : Nat) (x1 : Int) (x2 : Int) (M : xj_M) : Option (Int × xj_M) := f332_95   f (x0) (x1) (x2) (0) M
theorem k332_94 {d f : Nat}     {x0 : Nat} {x1 : Int} {x2 : Int} {M : xj_M} {R : Int × xj_M} (hx1 : xin x1) (hx2 : xin x2) (h : f332_94   f x0 x1 x2 M = some R) : xW (d + 7) (none, d + 7, none) xr_332 (94, [(0, xR_ x0), (1, xI x1), (2, xI x2)], [], M) (xQi R) := by
  unfold f332_94 at h
  refine xe_iconst (n := 0) (by decide +kernel) rfl ?_
  refine xW_lv rfl (l := [(0, xR_ (x0)), (1, xI (x1)), (2, xI (x2))]) (xsb_of ⟨rfl, rfl, rfl, trivial⟩ (show [0, 1, 2].Nodup by decide)) ?_
  exact k332_95   hx1 hx2 (show xin (0) by decide) h
def f332_33   (f : Nat) (x0 : Nat) (x1 : Int) (y0 : Int) (M : xj_M) : Option (Int × xj_M) := (if ¬ (x1) = (2) then (if ¬ (x1) = (3) then f332_94   f (x0) (x1) (y0) M else ((xq_gi 15 4 (x0) M).bind fun v139 => ((xq_is 15 (x0) M).bind fun _ => ((f209  f (x0) (xwr ((v139) + (1))) M).bind fun R143 => (if ¬ (R143.1) = (49) then f332_94   f (x0) (x1) (y0) R143.2 else ((xq_gi 15 4 (x0) R143.2).bind fun v146 => ((xq_is 15 (x0) R143.2).bind fun _ => ((f209  f (x0) (xwr ((v146) + (2))) R143.2).bind fun R150 => f332_95   f (x0) (x1) (y0) (xwr ((xwr ((10) + (R150.1))) - (48))) R150.2)))))))) else ((xq_gi 15 4 (x0) M).bind fun v152 => ((xq_is 15 (x0) M).bind fun _ => ((f209  f (x0) (xwr ((v152) + (1))) M).bind fun R156 => f332_95   f (x0) (x1) (y0) (xwr ((R156.1) - (48))) R156.2))))
theorem k332_33 {d f : Nat}     {x0 : Nat} {x1 : Int} {y0 : Int} {M : xj_M} {R : Int × xj_M} (hx1 : xin x1) (hy0 : xin y0) (h : f332_33   f x0 x1 y0 M = some R) : xW (d + 7) (none, d + 7, none) xr_332 (33, [(0, xR_ x0), (1, xI x1)], [xI y0], M) (xQi R) := by
  unfold f332_33 at h
  refine xe_isr (ins := .istore_n 2) (len := 1) (i := 2) (by decide +kernel) rfl rfl rfl (by decide) (xk_k (show ¬ (0 : Nat) = 2 by decide) (Or.inl (show ¬ (0 + 1 : Nat) = 2 by decide)) (xk_k (show ¬ (1 : Nat) = 2 by decide) (Or.inr (xI_cat _)) xk_n)) rfl ?_
  refine xe_ldn (ins := .iload_n 1) (len := 1) (by decide +kernel) rfl rfl rfl rfl ?_
  refine xe_iconst (n := 2) (by decide +kernel) rfl ?_
  refine xe_icmpne (off := 19) (t := 55) (by decide +kernel) (by decide) rfl hx1 (show xin (2) by decide) (fun c137 => ?_) (fun c137 => ?_)
  · rw [if_pos c137] at h
    refine xe_ldn (ins := .iload_n 1) (len := 1) (by decide +kernel) rfl rfl rfl rfl ?_
    refine xe_iconst (n := 3) (by decide +kernel) rfl ?_
    refine xe_icmpne (off := 37) (t := 94) (by decide +kernel) (by decide) rfl hx1 (show xin (3) by decide) (fun c138 => ?_) (fun c138 => ?_)
    · rw [if_pos c138] at h
      refine xW_lv rfl (l := [(0, xR_ (x0)), (1, xI (x1)), (2, xI (y0))]) (xsb_of ⟨rfl, rfl, rfl, trivial⟩ (show [2, 0, 1].Nodup by decide)) ?_
      exact k332_94   hx1 hy0 h
    · rw [if_neg c138] at h
      refine xe_alr (ins := .aload_n 0) (len := 1) (i := 0) (by decide +kernel) rfl rfl rfl rfl rfl ?_
      refine xe_alr (ins := .aload_n 0) (len := 1) (i := 0) (by decide +kernel) rfl rfl rfl rfl rfl ?_
      obtain ⟨v139, e140, h⟩ := xbnd h
      refine xs_gi (i := 43) (c := 15) (k := 4) (by decide +kernel) (by decide) (by decide +kernel) e140 rfl ?_
      refine xe_iconst (n := 1) (by decide +kernel) rfl ?_
      refine xe_iadd (by decide +kernel) rfl ?_
      obtain ⟨_, e142, h⟩ := xbnd h
      obtain ⟨R143, e141, h⟩ := xbnd h
      refine xs_cv (i := 39) (j := 209) (ar := [xI (xwr ((v139) + (1)))]) (rest := []) (r2 := xr_209) (by decide +kernel) (by decide +kernel) (by decide +kernel) xr_209_e rfl (by decide) (by decide) e142 ?_
      refine xc_i (k209 (d := d + 6)  (xin_wr _) e141) rfl (fun hi144 => ?_)
      refine xe_bipush (n := 49) (by decide +kernel) (by decide) rfl ?_
      refine xe_icmpne (off := 22) (t := 94) (by decide +kernel) (by decide) rfl hi144 (show xin (49) by decide) (fun c145 => ?_) (fun c145 => ?_)
      · rw [if_pos c145] at h
        refine xW_lv rfl (l := [(0, xR_ (x0)), (1, xI (x1)), (2, xI (y0))]) (xsb_of ⟨rfl, rfl, rfl, trivial⟩ (show [2, 0, 1].Nodup by decide)) ?_
        exact k332_94   hx1 hy0 h
      · rw [if_neg c145] at h
        refine xe_bipush (n := 10) (by decide +kernel) (by decide) rfl ?_
        refine xe_alr (ins := .aload_n 0) (len := 1) (i := 0) (by decide +kernel) rfl rfl rfl rfl rfl ?_
        refine xe_alr (ins := .aload_n 0) (len := 1) (i := 0) (by decide +kernel) rfl rfl rfl rfl rfl ?_
        obtain ⟨v146, e147, h⟩ := xbnd h
        refine xs_gi (i := 43) (c := 15) (k := 4) (by decide +kernel) (by decide) (by decide +kernel) e147 rfl ?_
        refine xe_iconst (n := 2) (by decide +kernel) rfl ?_
        refine xe_iadd (by decide +kernel) rfl ?_
        obtain ⟨_, e149, h⟩ := xbnd h
        obtain ⟨R150, e148, h⟩ := xbnd h
        refine xs_cv (i := 39) (j := 209) (ar := [xI (xwr ((v146) + (2)))]) (rest := [xI (10)]) (r2 := xr_209) (by decide +kernel) (by decide +kernel) (by decide +kernel) xr_209_e rfl (by decide) (by simp only [List.map_cons, List.map_nil, List.sum_cons, List.sum_nil, xR_cat, xI_cat, xZ_cat]; decide) e149 ?_
        refine xc_i (k209 (d := d + 6)  (xin_wr _) e148) rfl (fun hi151 => ?_)
        refine xe_iadd (by decide +kernel) rfl ?_
        refine xe_bipush (n := 48) (by decide +kernel) (by decide) rfl ?_
        refine xe_isub (by decide +kernel) rfl ?_
        refine xe_goto (off := 4) (nx := 95) (by decide +kernel) (by decide) ?_
        refine xW_lv rfl (l := [(0, xR_ (x0)), (1, xI (x1)), (2, xI (y0))]) (xsb_of ⟨rfl, rfl, rfl, trivial⟩ (show [2, 0, 1].Nodup by decide)) ?_
        exact k332_95   hx1 hy0 (xin_wr _) h
  · rw [if_neg c137] at h
    refine xe_alr (ins := .aload_n 0) (len := 1) (i := 0) (by decide +kernel) rfl rfl rfl rfl rfl ?_
    refine xe_alr (ins := .aload_n 0) (len := 1) (i := 0) (by decide +kernel) rfl rfl rfl rfl rfl ?_
    obtain ⟨v152, e153, h⟩ := xbnd h
    refine xs_gi (i := 43) (c := 15) (k := 4) (by decide +kernel) (by decide) (by decide +kernel) e153 rfl ?_
    refine xe_iconst (n := 1) (by decide +kernel) rfl ?_
    refine xe_iadd (by decide +kernel) rfl ?_
    obtain ⟨_, e155, h⟩ := xbnd h
    obtain ⟨R156, e154, h⟩ := xbnd h
    refine xs_cv (i := 39) (j := 209) (ar := [xI (xwr ((v152) + (1)))]) (rest := []) (r2 := xr_209) (by decide +kernel) (by decide +kernel) (by decide +kernel) xr_209_e rfl (by decide) (by decide) e155 ?_
    refine xc_i (k209 (d := d + 6)  (xin_wr _) e154) rfl (fun hi157 => ?_)
    refine xe_bipush (n := 48) (by decide +kernel) (by decide) rfl ?_
    refine xe_isub (by decide +kernel) rfl ?_
    refine xe_goto (off := 43) (nx := 95) (by decide +kernel) (by decide) ?_
    refine xW_lv rfl (l := [(0, xR_ (x0)), (1, xI (x1)), (2, xI (y0))]) (xsb_of ⟨rfl, rfl, rfl, trivial⟩ (show [2, 0, 1].Nodup by decide)) ?_
    exact k332_95   hx1 hy0 (xin_wr _) h
def f332  (f : Nat) (a0 : Nat) (M : xj_M) : Option (Int × xj_M) := ((xq_gi 15 5 (a0) M).bind fun v158 => ((xq_gi 15 4 (a0) M).bind fun v160 => ((xq_is 15 (a0) M).bind fun _ => ((f221  f (a0) (3) M).bind fun R164 => (if (R164.1) = 0 then f332_33   f (a0) (xwr ((v158) - (v160))) (-1) R164.2 else ((xq_gi 15 4 (a0) R164.2).bind fun v167 => ((xq_is 15 (a0) R164.2).bind fun _ => ((f209  f (a0) (v167) R164.2).bind fun R171 => f332_33   f (a0) (xwr ((v158) - (v160))) (xwr ((R171.1) - (65))) R171.2))))))))
theorem k332 {d f : Nat}   {a0 : Nat} {M : xj_M} {R : Int × xj_M}  (h : f332  f a0 M = some R) : xT (d + 8) 332 [xR_ a0] M (xQi R) := by
  refine xT_m xr_332_e (X := (none, d + 7, none)) rfl (xa_1 (xR_cat _) xa_n) (by decide) ?_
  unfold f332 at h
  refine xe_alr (ins := .aload_n 0) (len := 1) (i := 0) (by decide +kernel) rfl rfl rfl rfl rfl ?_
  obtain ⟨v158, e159, h⟩ := xbnd h
  refine xs_gi (i := 14) (c := 15) (k := 5) (by decide +kernel) (by decide) (by decide +kernel) e159 rfl ?_
  refine xe_alr (ins := .aload_n 0) (len := 1) (i := 0) (by decide +kernel) rfl rfl rfl rfl rfl ?_
  obtain ⟨v160, e161, h⟩ := xbnd h
  refine xs_gi (i := 43) (c := 15) (k := 4) (by decide +kernel) (by decide) (by decide +kernel) e161 rfl ?_
  refine xe_isub (by decide +kernel) rfl ?_
  refine xe_isr (ins := .istore_n 1) (len := 1) (i := 1) (by decide +kernel) rfl rfl rfl (by decide) (xk_k (show ¬ (0 : Nat) = 1 by decide) (Or.inr (xR_cat _)) xk_n) rfl ?_
  refine xe_alr (ins := .aload_n 0) (len := 1) (i := 0) (by decide +kernel) rfl rfl rfl rfl rfl ?_
  refine xe_iconst (n := 3) (by decide +kernel) rfl ?_
  obtain ⟨_, e163, h⟩ := xbnd h
  obtain ⟨R164, e162, h⟩ := xbnd h
  refine xs_cv (i := 153) (j := 221) (ar := [xI (3)]) (rest := []) (r2 := xr_221) (by decide +kernel) (by decide +kernel) (by decide +kernel) xr_221_e rfl (by decide) (by decide) e163 ?_
  refine xc_i (k221 (d := d + 5)  (show xin (3) by decide) e162) rfl (fun hi165 => ?_)
  refine xe_ifeq (off := 17) (t := 32) (by decide +kernel) (by decide) rfl hi165 (fun c166 => ?_) (fun c166 => ?_)
  · rw [if_pos c166] at h
    refine xe_iconst (n := -1) (by decide +kernel) rfl ?_
    refine xW_lv rfl (l := [(0, xR_ (a0)), (1, xI (xwr ((v158) - (v160))))]) (xsb_of ⟨rfl, rfl, trivial⟩ (show [1, 0].Nodup by decide)) ?_
    exact k332_33   (xin_wr _) (show xin (-1) by decide) h
  · rw [if_neg c166] at h
    refine xe_alr (ins := .aload_n 0) (len := 1) (i := 0) (by decide +kernel) rfl rfl rfl rfl rfl ?_
    refine xe_alr (ins := .aload_n 0) (len := 1) (i := 0) (by decide +kernel) rfl rfl rfl rfl rfl ?_
    obtain ⟨v167, e168, h⟩ := xbnd h
    refine xs_gi (i := 43) (c := 15) (k := 4) (by decide +kernel) (by decide) (by decide +kernel) e168 rfl ?_
    obtain ⟨_, e170, h⟩ := xbnd h
    obtain ⟨R171, e169, h⟩ := xbnd h
    refine xs_cv (i := 39) (j := 209) (ar := [xI (v167)]) (rest := []) (r2 := xr_209) (by decide +kernel) (by decide +kernel) (by decide +kernel) xr_209_e rfl (by decide) (by decide) e170 ?_
    refine xc_i (k209 (d := d + 6)  (xq_gi_in e168) e169) rfl (fun hi172 => ?_)
    refine xe_bipush (n := 65) (by decide +kernel) (by decide) rfl ?_
    refine xe_isub (by decide +kernel) rfl ?_
    refine xe_goto (off := 4) (nx := 33) (by decide +kernel) (by decide) ?_
    refine xW_lv rfl (l := [(0, xR_ (a0)), (1, xI (xwr ((v158) - (v160))))]) (xsb_of ⟨rfl, rfl, trivial⟩ (show [1, 0].Nodup by decide)) ?_
    exact k332_33   (xin_wr _) (xin_wr _) h
-- ChangeHouseModel.open
def xr_336 : xj_mR := (15, yX15_open, cX15_open, 1, (Option.none : Option Jvm.ClassFile.FieldType), 0, false, (10, 117), (1, 12))
set_option maxRecDepth 20000 in
theorem xr_336_e : xj_row 336 = some xr_336 := rfl
def f336_25   (f : Nat) (x0 : Nat) (M : xj_M) : Option (xj_M) := ((xq_gi 15 25 (x0) M).bind fun v101 => ((xq_pi 15 25 (x0) (xwr ((v101) + (1))) M).bind fun M103 => ((xq_is 15 (x0) M103).bind fun _ => ((f222  f (x0) (40) M103).bind fun M107 => (some M107)))))
theorem k336_25 {d f : Nat}     {x0 : Nat} {M : xj_M} {R : xj_M}  (h : f336_25   f x0 M = some R) : xW (d + 8) (none, d + 8, none) xr_336 (25, [(0, xR_ x0)], [], M) (xQv R) := by
  unfold f336_25 at h
  refine xe_alr (ins := .aload_n 0) (len := 1) (i := 0) (by decide +kernel) rfl rfl rfl rfl rfl ?_
  refine xe_dupr (by decide +kernel) rfl ?_
  obtain ⟨v101, e102, h⟩ := xbnd h
  refine xs_gi (i := 265) (c := 15) (k := 25) (by decide +kernel) (by decide) (by decide +kernel) e102 rfl ?_
  refine xe_iconst (n := 1) (by decide +kernel) rfl ?_
  refine xe_iadd (by decide +kernel) rfl ?_
  obtain ⟨M103, e104, h⟩ := xbnd h
  refine xs_p (i := 265) (c := 15) (k := 25) (by decide +kernel) (by decide +kernel) (by decide +kernel) e104 rfl ?_
  refine xe_alr (ins := .aload_n 0) (len := 1) (i := 0) (by decide +kernel) rfl rfl rfl rfl rfl ?_
  refine xe_bipush (n := 40) (by decide +kernel) (by decide) rfl ?_
  obtain ⟨_, e106, h⟩ := xbnd h
  obtain ⟨M107, e105, h⟩ := xbnd h
  refine xs_cv (i := 248) (j := 222) (ar := [xI (40)]) (rest := []) (r2 := xr_222) (by decide +kernel) (by decide +kernel) (by decide +kernel) xr_222_e rfl (by decide) (by decide) e106 ?_
  refine xc_v (k222 (d := d + 0)  (show xin (40) by decide) e105) rfl ?_
  cases h
  exact xe_ret_v (by decide +kernel) rfl ⟨rfl, rfl⟩
def f336  (f : Nat) (a0 : Nat) (M : xj_M) : Option (xj_M) := ((xq_is 15 (a0) M).bind fun _ => ((f220  f (a0) (40) M).bind fun R111 => (if (R111.1) = 0 then f336_25   f (a0) R111.2 else ((xq_gi 15 25 (a0) R111.2).bind fun v114 => (if ¬ (v114) = (4) then f336_25   f (a0) R111.2 else ((xq_gi 15 4 (a0) R111.2).bind fun v117 => ((xq_is 15 (a0) R111.2).bind fun _ => ((f210  f (a0) (v117) R111.2).bind fun M121 => f336_25   f (a0) M121))))))))
theorem k336 {d f : Nat}   {a0 : Nat} {M : xj_M} {R : xj_M}  (h : f336  f a0 M = some R) : xT (d + 9) 336 [xR_ a0] M (xQv R) := by
  refine xT_m xr_336_e (X := (none, d + 8, none)) rfl (xa_1 (xR_cat _) xa_n) (by decide) ?_
  unfold f336 at h
  refine xe_alr (ins := .aload_n 0) (len := 1) (i := 0) (by decide +kernel) rfl rfl rfl rfl rfl ?_
  refine xe_bipush (n := 40) (by decide +kernel) (by decide) rfl ?_
  obtain ⟨_, e110, h⟩ := xbnd h
  obtain ⟨R111, e109, h⟩ := xbnd h
  refine xs_cv (i := 115) (j := 220) (ar := [xI (40)]) (rest := []) (r2 := xr_220) (by decide +kernel) (by decide +kernel) (by decide +kernel) xr_220_e rfl (by decide) (by decide) e110 ?_
  refine xc_i (k220 (d := d + 6)  (show xin (40) by decide) e109) rfl (fun hi112 => ?_)
  refine xe_ifeq (off := 19) (t := 25) (by decide +kernel) (by decide) rfl hi112 (fun c113 => ?_) (fun c113 => ?_)
  · rw [if_pos c113] at h
    refine xW_lv rfl (l := [(0, xR_ (a0))]) (xsb_of ⟨rfl, trivial⟩ (show [0].Nodup by decide)) ?_
    exact k336_25    h
  · rw [if_neg c113] at h
    refine xe_alr (ins := .aload_n 0) (len := 1) (i := 0) (by decide +kernel) rfl rfl rfl rfl rfl ?_
    obtain ⟨v114, e115, h⟩ := xbnd h
    refine xs_gi (i := 265) (c := 15) (k := 25) (by decide +kernel) (by decide) (by decide +kernel) e115 rfl ?_
    refine xe_iconst (n := 4) (by decide +kernel) rfl ?_
    refine xe_icmpne (off := 11) (t := 25) (by decide +kernel) (by decide) rfl (xq_gi_in e115) (show xin (4) by decide) (fun c116 => ?_) (fun c116 => ?_)
    · rw [if_pos c116] at h
      refine xW_lv rfl (l := [(0, xR_ (a0))]) (xsb_of ⟨rfl, trivial⟩ (show [0].Nodup by decide)) ?_
      exact k336_25    h
    · rw [if_neg c116] at h
      refine xe_alr (ins := .aload_n 0) (len := 1) (i := 0) (by decide +kernel) rfl rfl rfl rfl rfl ?_
      refine xe_alr (ins := .aload_n 0) (len := 1) (i := 0) (by decide +kernel) rfl rfl rfl rfl rfl ?_
      obtain ⟨v117, e118, h⟩ := xbnd h
      refine xs_gi (i := 43) (c := 15) (k := 4) (by decide +kernel) (by decide) (by decide +kernel) e118 rfl ?_
      obtain ⟨_, e120, h⟩ := xbnd h
      obtain ⟨M121, e119, h⟩ := xbnd h
      refine xs_cv (i := 35) (j := 210) (ar := [xI (v117)]) (rest := []) (r2 := xr_210) (by decide +kernel) (by decide +kernel) (by decide +kernel) xr_210_e rfl (by decide) (by decide) e120 ?_
      refine xc_v (k210 (d := d + 7)  (xq_gi_in e118) e119) rfl ?_
      refine xW_lv rfl (l := [(0, xR_ (a0))]) (xsb_of ⟨rfl, trivial⟩ (show [0].Nodup by decide)) ?_
      exact k336_25    h
-- ChangeHouseModel.close
def xr_337 : xj_mR := (15, yX15_close, cX15_close, 1, (Option.none : Option Jvm.ClassFile.FieldType), 0, false, (10, 121), (1, 12))
set_option maxRecDepth 20000 in
theorem xr_337_e : xj_row 337 = some xr_337 := rfl
def f337  (f : Nat) (a0 : Nat) (M : xj_M) : Option (xj_M) := ((xq_gi 15 25 (a0) M).bind fun v101 => ((xq_pi 15 25 (a0) (xwr ((v101) - (1))) M).bind fun M103 => ((xq_is 15 (a0) M103).bind fun _ => ((f222  f (a0) (41) M103).bind fun M107 => (some M107)))))
theorem k337 {d f : Nat}   {a0 : Nat} {M : xj_M} {R : xj_M}  (h : f337  f a0 M = some R) : xT (d + 9) 337 [xR_ a0] M (xQv R) := by
  refine xT_m xr_337_e (X := (none, d + 8, none)) rfl (xa_1 (xR_cat _) xa_n) (by decide) ?_
  unfold f337 at h
  refine xe_alr (ins := .aload_n 0) (len := 1) (i := 0) (by decide +kernel) rfl rfl rfl rfl rfl ?_
  refine xe_dupr (by decide +kernel) rfl ?_
  obtain ⟨v101, e102, h⟩ := xbnd h
  refine xs_gi (i := 265) (c := 15) (k := 25) (by decide +kernel) (by decide) (by decide +kernel) e102 rfl ?_
  refine xe_iconst (n := 1) (by decide +kernel) rfl ?_
  refine xe_isub (by decide +kernel) rfl ?_
  obtain ⟨M103, e104, h⟩ := xbnd h
  refine xs_p (i := 265) (c := 15) (k := 25) (by decide +kernel) (by decide +kernel) (by decide +kernel) e104 rfl ?_
  refine xe_alr (ins := .aload_n 0) (len := 1) (i := 0) (by decide +kernel) rfl rfl rfl rfl rfl ?_
  refine xe_bipush (n := 41) (by decide +kernel) (by decide) rfl ?_
  obtain ⟨_, e106, h⟩ := xbnd h
  obtain ⟨M107, e105, h⟩ := xbnd h
  refine xs_cv (i := 248) (j := 222) (ar := [xI (41)]) (rest := []) (r2 := xr_222) (by decide +kernel) (by decide +kernel) (by decide +kernel) xr_222_e rfl (by decide) (by decide) e106 ?_
  refine xc_v (k222 (d := d + 0)  (show xin (41) by decide) e105) rfl ?_
  cases h
  exact xe_ret_v (by decide +kernel) rfl ⟨rfl, rfl⟩
-- ChangeHouseModel.readIf
def xr_334 : xj_mR := (15, yX15_formula, cX15_formula, 4, (Option.some Jvm.ClassFile.FieldType.int), 0, false, (10, 101), (1, 12))
set_option maxRecDepth 20000 in
theorem xr_334_e : xj_row 334 = some xr_334 := rfl
def xr_339 : xj_mR := (15, yX15_readIf, cX15_readIf, 4, (Option.some Jvm.ClassFile.FieldType.int), 0, false, (10, 125), (1, 12))
set_option maxRecDepth 20000 in
theorem xr_339_e : xj_row 339 = some xr_339 := rfl
def f339 (q334 : Nat → xj_M → Option (Int × xj_M)) (f : Nat) (a0 : Nat) (M : xj_M) : Option (Int × xj_M) := ((xq_is 15 (a0) M).bind fun _ => ((f213  f (a0) M).bind fun M103 => ((xq_is 15 (a0) M103).bind fun _ => ((f336  f (a0) M103).bind fun M107 => ((xq_is 15 (a0) M107).bind fun _ => ((q334 (a0) M107).bind fun R111 => ((xq_is 15 (a0) R111.2).bind fun _ => ((f222  f (a0) (44) R111.2).bind fun M115 => ((xq_is 15 (a0) M115).bind fun _ => ((q334 (a0) M115).bind fun R119 => ((xq_is 15 (a0) R119.2).bind fun _ => ((f222  f (a0) (44) R119.2).bind fun M123 => ((xq_is 15 (a0) M123).bind fun _ => ((q334 (a0) M123).bind fun R127 => ((xq_is 15 (a0) R127.2).bind fun _ => ((f337  f (a0) R127.2).bind fun M131 => ((xq_is 15 (a0) M131).bind fun _ => ((f331  f (a0) (10) (R111.1) (R119.1) (R127.1) (0) M131).bind fun R135 => (some (R135.1, R135.2))))))))))))))))))))
theorem k339 {d f : Nat} {q334 : Nat → xj_M → Option (Int × xj_M)} (hq334 : ∀ {e : Nat} {a0 : Nat} {M : xj_M} {R : Int × xj_M}, d ≤ e → q334 a0 M = some R → xT e 334 [xR_ a0] M (xQi R)) {a0 : Nat} {M : xj_M} {R : Int × xj_M}  (h : f339 q334 f a0 M = some R) : xT (d + 10) 339 [xR_ a0] M (xQi R) := by
  refine xT_m xr_339_e (X := (none, d + 9, none)) rfl (xa_1 (xR_cat _) xa_n) (by decide) ?_
  unfold f339 at h
  refine xe_alr (ins := .aload_n 0) (len := 1) (i := 0) (by decide +kernel) rfl rfl rfl rfl rfl ?_
  obtain ⟨_, e102, h⟩ := xbnd h
  obtain ⟨M103, e101, h⟩ := xbnd h
  refine xs_cv (i := 118) (j := 213) (ar := []) (rest := []) (r2 := xr_213) (by decide +kernel) (by decide +kernel) (by decide +kernel) xr_213_e rfl (by decide) (by decide) e102 ?_
  refine xc_v (k213 (d := d + 2)   e101) rfl ?_
  refine xe_alr (ins := .aload_n 0) (len := 1) (i := 0) (by decide +kernel) rfl rfl rfl rfl rfl ?_
  obtain ⟨_, e106, h⟩ := xbnd h
  obtain ⟨M107, e105, h⟩ := xbnd h
  refine xs_cv (i := 980) (j := 336) (ar := []) (rest := []) (r2 := xr_336) (by decide +kernel) (by decide +kernel) (by decide +kernel) xr_336_e rfl (by decide) (by decide) e106 ?_
  refine xc_v (k336 (d := d + 0)   e105) rfl ?_
  refine xe_alr (ins := .aload_n 0) (len := 1) (i := 0) (by decide +kernel) rfl rfl rfl rfl rfl ?_
  obtain ⟨_, e110, h⟩ := xbnd h
  obtain ⟨R111, e109, h⟩ := xbnd h
  refine xs_cv (i := 967) (j := 334) (ar := []) (rest := []) (r2 := xr_334) (by decide +kernel) (by decide +kernel) (by decide +kernel) xr_334_e rfl (by decide) (by decide) e110 ?_
  refine xc_i (hq334 (by omega)  e109) rfl (fun hi112 => ?_)
  refine xe_isr (ins := .istore_n 1) (len := 1) (i := 1) (by decide +kernel) rfl rfl rfl (by decide) (xk_k (show ¬ (0 : Nat) = 1 by decide) (Or.inr (xR_cat _)) xk_n) rfl ?_
  refine xe_alr (ins := .aload_n 0) (len := 1) (i := 0) (by decide +kernel) rfl rfl rfl rfl rfl ?_
  refine xe_bipush (n := 44) (by decide +kernel) (by decide) rfl ?_
  obtain ⟨_, e114, h⟩ := xbnd h
  obtain ⟨M115, e113, h⟩ := xbnd h
  refine xs_cv (i := 248) (j := 222) (ar := [xI (44)]) (rest := []) (r2 := xr_222) (by decide +kernel) (by decide +kernel) (by decide +kernel) xr_222_e rfl (by decide) (by decide) e114 ?_
  refine xc_v (k222 (d := d + 1)  (show xin (44) by decide) e113) rfl ?_
  refine xe_alr (ins := .aload_n 0) (len := 1) (i := 0) (by decide +kernel) rfl rfl rfl rfl rfl ?_
  obtain ⟨_, e118, h⟩ := xbnd h
  obtain ⟨R119, e117, h⟩ := xbnd h
  refine xs_cv (i := 967) (j := 334) (ar := []) (rest := []) (r2 := xr_334) (by decide +kernel) (by decide +kernel) (by decide +kernel) xr_334_e rfl (by decide) (by decide) e118 ?_
  refine xc_i (hq334 (by omega)  e117) rfl (fun hi120 => ?_)
  refine xe_isr (ins := .istore_n 2) (len := 1) (i := 2) (by decide +kernel) rfl rfl rfl (by decide) (xk_k (show ¬ (1 : Nat) = 2 by decide) (Or.inr (xI_cat _)) (xk_k (show ¬ (0 : Nat) = 2 by decide) (Or.inl (show ¬ (0 + 1 : Nat) = 2 by decide)) xk_n)) rfl ?_
  refine xe_alr (ins := .aload_n 0) (len := 1) (i := 0) (by decide +kernel) rfl rfl rfl rfl rfl ?_
  refine xe_bipush (n := 44) (by decide +kernel) (by decide) rfl ?_
  obtain ⟨_, e122, h⟩ := xbnd h
  obtain ⟨M123, e121, h⟩ := xbnd h
  refine xs_cv (i := 248) (j := 222) (ar := [xI (44)]) (rest := []) (r2 := xr_222) (by decide +kernel) (by decide +kernel) (by decide +kernel) xr_222_e rfl (by decide) (by decide) e122 ?_
  refine xc_v (k222 (d := d + 1)  (show xin (44) by decide) e121) rfl ?_
  refine xe_alr (ins := .aload_n 0) (len := 1) (i := 0) (by decide +kernel) rfl rfl rfl rfl rfl ?_
  obtain ⟨_, e126, h⟩ := xbnd h
  obtain ⟨R127, e125, h⟩ := xbnd h
  refine xs_cv (i := 967) (j := 334) (ar := []) (rest := []) (r2 := xr_334) (by decide +kernel) (by decide +kernel) (by decide +kernel) xr_334_e rfl (by decide) (by decide) e126 ?_
  refine xc_i (hq334 (by omega)  e125) rfl (fun hi128 => ?_)
  refine xe_isr (ins := .istore_n 3) (len := 1) (i := 3) (by decide +kernel) rfl rfl rfl (by decide) (xk_k (show ¬ (2 : Nat) = 3 by decide) (Or.inr (xI_cat _)) (xk_k (show ¬ (1 : Nat) = 3 by decide) (Or.inl (show ¬ (1 + 1 : Nat) = 3 by decide)) (xk_k (show ¬ (0 : Nat) = 3 by decide) (Or.inl (show ¬ (0 + 1 : Nat) = 3 by decide)) xk_n))) rfl ?_
  refine xe_alr (ins := .aload_n 0) (len := 1) (i := 0) (by decide +kernel) rfl rfl rfl rfl rfl ?_
  obtain ⟨_, e130, h⟩ := xbnd h
  obtain ⟨M131, e129, h⟩ := xbnd h
  refine xs_cv (i := 983) (j := 337) (ar := []) (rest := []) (r2 := xr_337) (by decide +kernel) (by decide +kernel) (by decide +kernel) xr_337_e rfl (by decide) (by decide) e130 ?_
  refine xc_v (k337 (d := d + 0)   e129) rfl ?_
  refine xe_alr (ins := .aload_n 0) (len := 1) (i := 0) (by decide +kernel) rfl rfl rfl rfl rfl ?_
  refine xe_bipush (n := 10) (by decide +kernel) (by decide) rfl ?_
  refine xe_ldn (ins := .iload_n 1) (len := 1) (by decide +kernel) rfl rfl rfl rfl ?_
  refine xe_ldn (ins := .iload_n 2) (len := 1) (by decide +kernel) rfl rfl rfl rfl ?_
  refine xe_ldn (ins := .iload_n 3) (len := 1) (by decide +kernel) rfl rfl rfl rfl ?_
  refine xe_lconst (n := 0) (z := 0) (by decide +kernel) rfl rfl ?_
  obtain ⟨_, e134, h⟩ := xbnd h
  obtain ⟨R135, e133, h⟩ := xbnd h
  refine xs_cv (i := 973) (j := 331) (ar := [xZ (0), xI (R127.1), xI (R119.1), xI (R111.1), xI (10)]) (rest := []) (r2 := xr_331) (by decide +kernel) (by decide +kernel) (by decide +kernel) xr_331_e rfl (by decide) (by decide) e134 ?_
  refine xc_i (k331 (d := d + 8)  (show xin (10) by decide) hi112 hi120 hi128 (show xiN (0) by decide) e133) rfl (fun hi136 => ?_)
  cases h
  exact xe_ret_i (ty := .int) (by decide +kernel) rfl rfl ⟨rfl, rfl, hi136⟩
-- ChangeHouseModel.readOf
def xr_340 : xj_mR := (15, yX15_readOf, cX15_readOf, 6, (Option.some Jvm.ClassFile.FieldType.int), 1, false, (10, 129), (1, 12))
set_option maxRecDepth 20000 in
theorem xr_340_e : xj_row 340 = some xr_340 := rfl
def f340_130   (f : Nat) (x3 : Int) (x5 : Int) (y0 : Int) (y1 : Nat) (M : xj_M) : Option (Int × xj_M) := ((xq_is 15 (y1) M).bind fun _ => ((f331  f (y1) (y0) (x3) (x5) (0) (0) M).bind fun R103 => (some (R103.1, R103.2))))
theorem k340_130 {d f : Nat}     {x3 : Int} {x5 : Int} {y0 : Int} {y1 : Nat} {M : xj_M} {R : Int × xj_M} (hx3 : xin x3) (hx5 : xin x5) (hy0 : xin y0) (h : f340_130   f x3 x5 y0 y1 M = some R) : xW (d + 9) (none, d + 9, none) xr_340 (130, [(3, xI x3), (5, xI x5)], [xI y0, xR_ y1], M) (xQi R) := by
  unfold f340_130 at h
  refine xe_ldn (ins := .iload_n 3) (len := 1) (by decide +kernel) rfl rfl rfl rfl ?_
  refine xe_ldn (ins := .iload 5) (len := 2) (by decide +kernel) rfl rfl rfl rfl ?_
  refine xe_iconst (n := 0) (by decide +kernel) rfl ?_
  refine xe_lconst (n := 0) (z := 0) (by decide +kernel) rfl rfl ?_
  obtain ⟨_, e102, h⟩ := xbnd h
  obtain ⟨R103, e101, h⟩ := xbnd h
  refine xs_cv (i := 973) (j := 331) (ar := [xZ (0), xI (0), xI (x5), xI (x3), xI (y0)]) (rest := []) (r2 := xr_331) (by decide +kernel) (by decide +kernel) (by decide +kernel) xr_331_e rfl (by decide) (by decide) e102 ?_
  refine xc_i (k331 (d := d + 8)  hy0 hx3 hx5 (show xin (0) by decide) (show xiN (0) by decide) e101) rfl (fun hi104 => ?_)
  cases h
  exact xe_ret_i (ty := .int) (by decide +kernel) rfl rfl ⟨rfl, rfl, hi104⟩
def f340_115   (f : Nat) (x0 : Nat) (x1 : Int) (x3 : Int) (x5 : Int) (M : xj_M) : Option (Int × xj_M) := ((xq_gl 15 17 (x0) M).bind fun v105 => (if ¬ (x1) = (v105) then f340_130   f (x3) (x5) (5) (x0) M else f340_130   f (x3) (x5) (4) (x0) M))
theorem k340_115 {d f : Nat}     {x0 : Nat} {x1 : Int} {x3 : Int} {x5 : Int} {M : xj_M} {R : Int × xj_M} (hx1 : xiN x1) (hx3 : xin x3) (hx5 : xin x5) (h : f340_115   f x0 x1 x3 x5 M = some R) : xW (d + 9) (none, d + 9, none) xr_340 (115, [(0, xR_ x0), (1, xZ x1), (3, xI x3), (5, xI x5)], [], M) (xQi R) := by
  unfold f340_115 at h
  refine xe_alr (ins := .aload_n 0) (len := 1) (i := 0) (by decide +kernel) rfl rfl rfl rfl rfl ?_
  refine xe_ldn (ins := .lload_n 1) (len := 1) (by decide +kernel) rfl rfl rfl rfl ?_
  refine xe_alr (ins := .aload_n 0) (len := 1) (i := 0) (by decide +kernel) rfl rfl rfl rfl rfl ?_
  obtain ⟨v105, e106, h⟩ := xbnd h
  refine xs_gl (i := 144) (c := 15) (k := 17) (by decide +kernel) (by decide) (by decide +kernel) e106 rfl ?_
  refine xe_lcmp (by decide +kernel) rfl hx1 (xq_gl_in e106) ?_
  refine xe_ifne (off := 7) (t := 129) (by decide +kernel) (by decide) rfl (xin_cmp8 _ _) (fun c107 => ?_) (fun c107 => ?_)
  · have c107 := xcmp8_ne.mp c107; rw [if_pos c107] at h
    refine xe_iconst (n := 5) (by decide +kernel) rfl ?_
    refine xW_lv rfl (l := [(3, xI (x3)), (5, xI (x5))]) (xsb_of ⟨rfl, rfl, trivial⟩ (show [0, 1, 3, 5].Nodup by decide)) ?_
    exact k340_130   hx3 hx5 (show xin (5) by decide) h
  · have c107 := (not_congr xcmp8_ne).mp c107; rw [if_neg c107] at h
    refine xe_iconst (n := 4) (by decide +kernel) rfl ?_
    refine xe_goto (off := 4) (nx := 130) (by decide +kernel) (by decide) ?_
    refine xW_lv rfl (l := [(3, xI (x3)), (5, xI (x5))]) (xsb_of ⟨rfl, rfl, trivial⟩ (show [0, 1, 3, 5].Nodup by decide)) ?_
    exact k340_130   hx3 hx5 (show xin (4) by decide) h
def f340_111   (f : Nat) (x0 : Nat) (x1 : Int) (x3 : Int) (x5 : Int) (M : xj_M) : Option (Int × xj_M) := ((xq_is 15 (x0) M).bind fun _ => ((f337  f (x0) M).bind fun M110 => f340_115   f (x0) (x1) (x3) (x5) M110))
theorem k340_111 {d f : Nat}     {x0 : Nat} {x1 : Int} {x3 : Int} {x5 : Int} {M : xj_M} {R : Int × xj_M} (hx1 : xiN x1) (hx3 : xin x3) (hx5 : xin x5) (h : f340_111   f x0 x1 x3 x5 M = some R) : xW (d + 9) (none, d + 9, none) xr_340 (111, [(0, xR_ x0), (1, xZ x1), (3, xI x3), (5, xI x5)], [], M) (xQi R) := by
  unfold f340_111 at h
  refine xe_alr (ins := .aload_n 0) (len := 1) (i := 0) (by decide +kernel) rfl rfl rfl rfl rfl ?_
  obtain ⟨_, e109, h⟩ := xbnd h
  obtain ⟨M110, e108, h⟩ := xbnd h
  refine xs_cv (i := 983) (j := 337) (ar := []) (rest := []) (r2 := xr_337) (by decide +kernel) (by decide +kernel) (by decide +kernel) xr_337_e rfl (by decide) (by decide) e109 ?_
  refine xc_v (k337 (d := d + 0)   e108) rfl ?_
  refine xW_lv rfl (l := [(0, xR_ (x0)), (1, xZ (x1)), (3, xI (x3)), (5, xI (x5))]) (xsb_of ⟨rfl, rfl, rfl, rfl, trivial⟩ (show [0, 1, 3, 5].Nodup by decide)) ?_
  exact k340_115   hx1 hx3 hx5 h
def f340_94   (f : Nat) (x0 : Nat) (x1 : Int) (x3 : Int) (x4 : Int) (x5 : Int) (M : xj_M) : Option (Int × xj_M) := ((xq_gi 15 7 (x0) M).bind fun v112 => (if (v112) = (-1) then f340_111   f (x0) (x1) (x3) (x5) M else ((xq_gi 15 7 (x0) M).bind fun v115 => (if (v115) = (x4) then f340_115   f (x0) (x1) (x3) (x5) M else f340_111   f (x0) (x1) (x3) (x5) M))))
theorem k340_94 {d f : Nat}     {x0 : Nat} {x1 : Int} {x3 : Int} {x4 : Int} {x5 : Int} {M : xj_M} {R : Int × xj_M} (hx1 : xiN x1) (hx3 : xin x3) (hx4 : xin x4) (hx5 : xin x5) (h : f340_94   f x0 x1 x3 x4 x5 M = some R) : xW (d + 9) (none, d + 9, none) xr_340 (94, [(0, xR_ x0), (1, xZ x1), (3, xI x3), (4, xI x4), (5, xI x5)], [], M) (xQi R) := by
  unfold f340_94 at h
  refine xe_alr (ins := .aload_n 0) (len := 1) (i := 0) (by decide +kernel) rfl rfl rfl rfl rfl ?_
  obtain ⟨v112, e113, h⟩ := xbnd h
  refine xs_gi (i := 11) (c := 15) (k := 7) (by decide +kernel) (by decide) (by decide +kernel) e113 rfl ?_
  refine xe_iconst (n := -1) (by decide +kernel) rfl ?_
  refine xe_icmpeq (off := 12) (t := 111) (by decide +kernel) (by decide) rfl (xq_gi_in e113) (show xin (-1) by decide) (fun c114 => ?_) (fun c114 => ?_)
  · rw [if_pos c114] at h
    refine xW_lv rfl (l := [(0, xR_ (x0)), (1, xZ (x1)), (3, xI (x3)), (5, xI (x5))]) (xsb_of ⟨rfl, rfl, rfl, rfl, trivial⟩ (show [0, 1, 3, 4, 5].Nodup by decide)) ?_
    exact k340_111   hx1 hx3 hx5 h
  · rw [if_neg c114] at h
    refine xe_alr (ins := .aload_n 0) (len := 1) (i := 0) (by decide +kernel) rfl rfl rfl rfl rfl ?_
    obtain ⟨v115, e116, h⟩ := xbnd h
    refine xs_gi (i := 11) (c := 15) (k := 7) (by decide +kernel) (by decide) (by decide +kernel) e116 rfl ?_
    refine xe_ldn (ins := .iload 4) (len := 2) (by decide +kernel) rfl rfl rfl rfl ?_
    refine xe_icmpeq (off := 7) (t := 115) (by decide +kernel) (by decide) rfl (xq_gi_in e116) hx4 (fun c117 => ?_) (fun c117 => ?_)
    · rw [if_pos c117] at h
      refine xW_lv rfl (l := [(0, xR_ (x0)), (1, xZ (x1)), (3, xI (x3)), (5, xI (x5))]) (xsb_of ⟨rfl, rfl, rfl, rfl, trivial⟩ (show [0, 1, 3, 4, 5].Nodup by decide)) ?_
      exact k340_115   hx1 hx3 hx5 h
    · rw [if_neg c117] at h
      refine xW_lv rfl (l := [(0, xR_ (x0)), (1, xZ (x1)), (3, xI (x3)), (5, xI (x5))]) (xsb_of ⟨rfl, rfl, rfl, rfl, trivial⟩ (show [0, 1, 3, 4, 5].Nodup by decide)) ?_
      exact k340_111   hx1 hx3 hx5 h
def f340_88   (f : Nat) (x0 : Nat) (x1 : Int) (x3 : Int) (x4 : Int) (x5 : Int) (M : xj_M) : Option (Int × xj_M) := ((xq_is 15 (x0) M).bind fun _ => ((f210  f (x0) (x4) M).bind fun M120 => f340_94   f (x0) (x1) (x3) (x4) (x5) M120))
theorem k340_88 {d f : Nat}     {x0 : Nat} {x1 : Int} {x3 : Int} {x4 : Int} {x5 : Int} {M : xj_M} {R : Int × xj_M} (hx1 : xiN x1) (hx3 : xin x3) (hx4 : xin x4) (hx5 : xin x5) (h : f340_88   f x0 x1 x3 x4 x5 M = some R) : xW (d + 9) (none, d + 9, none) xr_340 (88, [(0, xR_ x0), (1, xZ x1), (3, xI x3), (4, xI x4), (5, xI x5)], [], M) (xQi R) := by
  unfold f340_88 at h
  refine xe_alr (ins := .aload_n 0) (len := 1) (i := 0) (by decide +kernel) rfl rfl rfl rfl rfl ?_
  refine xe_ldn (ins := .iload 4) (len := 2) (by decide +kernel) rfl rfl rfl rfl ?_
  obtain ⟨_, e119, h⟩ := xbnd h
  obtain ⟨M120, e118, h⟩ := xbnd h
  refine xs_cv (i := 35) (j := 210) (ar := [xI (x4)]) (rest := []) (r2 := xr_210) (by decide +kernel) (by decide +kernel) (by decide +kernel) xr_210_e rfl (by decide) (by decide) e119 ?_
  refine xc_v (k210 (d := d + 8)  hx4 e118) rfl ?_
  refine xW_lv rfl (l := [(0, xR_ (x0)), (1, xZ (x1)), (3, xI (x3)), (4, xI (x4)), (5, xI (x5))]) (xsb_of ⟨rfl, rfl, rfl, rfl, rfl, trivial⟩ (show [0, 1, 3, 4, 5].Nodup by decide)) ?_
  exact k340_94   hx1 hx3 hx4 hx5 h
def f340_240   (f : Nat) (x3 : Int) (x5 : Int) (y0 : Int) (y1 : Nat) (M : xj_M) : Option (Int × xj_M) := ((xq_is 15 (y1) M).bind fun _ => ((f331  f (y1) (y0) (x5) (0) (0) (x3) M).bind fun R124 => (some (R124.1, R124.2))))
theorem k340_240 {d f : Nat}     {x3 : Int} {x5 : Int} {y0 : Int} {y1 : Nat} {M : xj_M} {R : Int × xj_M} (hx3 : xiN x3) (hx5 : xin x5) (hy0 : xin y0) (h : f340_240   f x3 x5 y0 y1 M = some R) : xW (d + 9) (none, d + 9, none) xr_340 (240, [(3, xZ x3), (5, xI x5)], [xI y0, xR_ y1], M) (xQi R) := by
  unfold f340_240 at h
  refine xe_ldn (ins := .iload 5) (len := 2) (by decide +kernel) rfl rfl rfl rfl ?_
  refine xe_iconst (n := 0) (by decide +kernel) rfl ?_
  refine xe_iconst (n := 0) (by decide +kernel) rfl ?_
  refine xe_ldn (ins := .lload_n 3) (len := 1) (by decide +kernel) rfl rfl rfl rfl ?_
  obtain ⟨_, e123, h⟩ := xbnd h
  obtain ⟨R124, e122, h⟩ := xbnd h
  refine xs_cv (i := 973) (j := 331) (ar := [xZ (x3), xI (0), xI (0), xI (x5), xI (y0)]) (rest := []) (r2 := xr_331) (by decide +kernel) (by decide +kernel) (by decide +kernel) xr_331_e rfl (by decide) (by decide) e123 ?_
  refine xc_i (k331 (d := d + 8)  hy0 hx5 (show xin (0) by decide) (show xin (0) by decide) hx3 e122) rfl (fun hi125 => ?_)
  cases h
  exact xe_ret_i (ty := .int) (by decide +kernel) rfl rfl ⟨rfl, rfl, hi125⟩
def f340_191   (f : Nat) (x0 : Nat) (x1 : Int) (x3 : Int) (x5 : Int) (M : xj_M) : Option (Int × xj_M) := ((xq_is 15 (x0) M).bind fun _ => ((f337  f (x0) M).bind fun M128 => ((xq_gl 15 16 (x0) M128).bind fun v130 => (if ¬ (x1) = (v130) then ((xq_gl 15 17 (x0) M128).bind fun v133 => (if ¬ (x1) = (v133) then ((xq_gl 15 18 (x0) M128).bind fun v136 => (if ¬ (x1) = (v136) then f340_240   f (x3) (x5) (9) (x0) M128 else f340_240   f (x3) (x5) (8) (x0) M128)) else f340_240   f (x3) (x5) (7) (x0) M128)) else f340_240   f (x3) (x5) (6) (x0) M128))))
theorem k340_191 {d f : Nat}     {x0 : Nat} {x1 : Int} {x3 : Int} {x5 : Int} {M : xj_M} {R : Int × xj_M} (hx1 : xiN x1) (hx3 : xiN x3) (hx5 : xin x5) (h : f340_191   f x0 x1 x3 x5 M = some R) : xW (d + 9) (none, d + 9, none) xr_340 (191, [(0, xR_ x0), (1, xZ x1), (3, xZ x3), (5, xI x5)], [], M) (xQi R) := by
  unfold f340_191 at h
  refine xe_alr (ins := .aload_n 0) (len := 1) (i := 0) (by decide +kernel) rfl rfl rfl rfl rfl ?_
  obtain ⟨_, e127, h⟩ := xbnd h
  obtain ⟨M128, e126, h⟩ := xbnd h
  refine xs_cv (i := 983) (j := 337) (ar := []) (rest := []) (r2 := xr_337) (by decide +kernel) (by decide +kernel) (by decide +kernel) xr_337_e rfl (by decide) (by decide) e127 ?_
  refine xc_v (k337 (d := d + 0)   e126) rfl ?_
  refine xe_alr (ins := .aload_n 0) (len := 1) (i := 0) (by decide +kernel) rfl rfl rfl rfl rfl ?_
  refine xe_ldn (ins := .lload_n 1) (len := 1) (by decide +kernel) rfl rfl rfl rfl ?_
  refine xe_alr (ins := .aload_n 0) (len := 1) (i := 0) (by decide +kernel) rfl rfl rfl rfl rfl ?_
  obtain ⟨v130, e131, h⟩ := xbnd h
  refine xs_gl (i := 141) (c := 15) (k := 16) (by decide +kernel) (by decide) (by decide +kernel) e131 rfl ?_
  refine xe_lcmp (by decide +kernel) rfl hx1 (xq_gl_in e131) ?_
  refine xe_ifne (off := 8) (t := 210) (by decide +kernel) (by decide) rfl (xin_cmp8 _ _) (fun c132 => ?_) (fun c132 => ?_)
  · have c132 := xcmp8_ne.mp c132; rw [if_pos c132] at h
    refine xe_ldn (ins := .lload_n 1) (len := 1) (by decide +kernel) rfl rfl rfl rfl ?_
    refine xe_alr (ins := .aload_n 0) (len := 1) (i := 0) (by decide +kernel) rfl rfl rfl rfl rfl ?_
    obtain ⟨v133, e134, h⟩ := xbnd h
    refine xs_gl (i := 144) (c := 15) (k := 17) (by decide +kernel) (by decide) (by decide +kernel) e134 rfl ?_
    refine xe_lcmp (by decide +kernel) rfl hx1 (xq_gl_in e134) ?_
    refine xe_ifne (off := 8) (t := 224) (by decide +kernel) (by decide) rfl (xin_cmp8 _ _) (fun c135 => ?_) (fun c135 => ?_)
    · have c135 := xcmp8_ne.mp c135; rw [if_pos c135] at h
      refine xe_ldn (ins := .lload_n 1) (len := 1) (by decide +kernel) rfl rfl rfl rfl ?_
      refine xe_alr (ins := .aload_n 0) (len := 1) (i := 0) (by decide +kernel) rfl rfl rfl rfl rfl ?_
      obtain ⟨v136, e137, h⟩ := xbnd h
      refine xs_gl (i := 147) (c := 15) (k := 18) (by decide +kernel) (by decide) (by decide +kernel) e137 rfl ?_
      refine xe_lcmp (by decide +kernel) rfl hx1 (xq_gl_in e137) ?_
      refine xe_ifne (off := 8) (t := 238) (by decide +kernel) (by decide) rfl (xin_cmp8 _ _) (fun c138 => ?_) (fun c138 => ?_)
      · have c138 := xcmp8_ne.mp c138; rw [if_pos c138] at h
        refine xe_bipush (n := 9) (by decide +kernel) (by decide) rfl ?_
        refine xW_lv rfl (l := [(3, xZ (x3)), (5, xI (x5))]) (xsb_of ⟨rfl, rfl, trivial⟩ (show [0, 1, 3, 5].Nodup by decide)) ?_
        exact k340_240   hx3 hx5 (show xin (9) by decide) h
      · have c138 := (not_congr xcmp8_ne).mp c138; rw [if_neg c138] at h
        refine xe_bipush (n := 8) (by decide +kernel) (by decide) rfl ?_
        refine xe_goto (off := 5) (nx := 240) (by decide +kernel) (by decide) ?_
        refine xW_lv rfl (l := [(3, xZ (x3)), (5, xI (x5))]) (xsb_of ⟨rfl, rfl, trivial⟩ (show [0, 1, 3, 5].Nodup by decide)) ?_
        exact k340_240   hx3 hx5 (show xin (8) by decide) h
    · have c135 := (not_congr xcmp8_ne).mp c135; rw [if_neg c135] at h
      refine xe_bipush (n := 7) (by decide +kernel) (by decide) rfl ?_
      refine xe_goto (off := 19) (nx := 240) (by decide +kernel) (by decide) ?_
      refine xW_lv rfl (l := [(3, xZ (x3)), (5, xI (x5))]) (xsb_of ⟨rfl, rfl, trivial⟩ (show [0, 1, 3, 5].Nodup by decide)) ?_
      exact k340_240   hx3 hx5 (show xin (7) by decide) h
  · have c132 := (not_congr xcmp8_ne).mp c132; rw [if_neg c132] at h
    refine xe_bipush (n := 6) (by decide +kernel) (by decide) rfl ?_
    refine xe_goto (off := 33) (nx := 240) (by decide +kernel) (by decide) ?_
    refine xW_lv rfl (l := [(3, xZ (x3)), (5, xI (x5))]) (xsb_of ⟨rfl, rfl, trivial⟩ (show [0, 1, 3, 5].Nodup by decide)) ?_
    exact k340_240   hx3 hx5 (show xin (6) by decide) h
def f340_139   (f : Nat) (x0 : Nat) (x1 : Int) (M : xj_M) : Option (Int × xj_M) := ((xq_is 15 (x0) M).bind fun _ => ((f226  f (x0) M).bind fun R141 => (if ¬ (R141.1) = 0 then ((xq_gl 15 9 (x0) R141.2).bind fun v144 => ((xq_is 15 (x0) R141.2).bind fun _ => ((f213  f (x0) R141.2).bind fun M148 => ((xq_gl 15 16 (x0) M148).bind fun v150 => (if (x1) = (v150) then f340_191   f (x0) (x1) (v144) (0) M148 else ((xq_is 15 (x0) M148).bind fun _ => ((f222  f (x0) (44) M148).bind fun M155 => ((xq_is 15 (x0) M155).bind fun _ => ((f233  f (x0) (1) (4) M155).bind fun R159 => f340_191   f (x0) (x1) (v144) (R159.1) R159.2))))))))) else ((xq_gi 15 4 (x0) R141.2).bind fun v161 => ((xq_is 15 (x0) R141.2).bind fun _ => ((f210  f (x0) (v161) R141.2).bind fun M165 => (some (0, M165))))))))
theorem k340_139 {d f : Nat}     {x0 : Nat} {x1 : Int} {M : xj_M} {R : Int × xj_M} (hx1 : xiN x1) (h : f340_139   f x0 x1 M = some R) : xW (d + 9) (none, d + 9, none) xr_340 (139, [(0, xR_ x0), (1, xZ x1)], [], M) (xQi R) := by
  unfold f340_139 at h
  refine xe_alr (ins := .aload_n 0) (len := 1) (i := 0) (by decide +kernel) rfl rfl rfl rfl rfl ?_
  obtain ⟨_, e140, h⟩ := xbnd h
  obtain ⟨R141, e139, h⟩ := xbnd h
  refine xs_cv (i := 163) (j := 226) (ar := []) (rest := []) (r2 := xr_226) (by decide +kernel) (by decide +kernel) (by decide +kernel) xr_226_e rfl (by decide) (by decide) e140 ?_
  refine xc_i (k226 (d := d + 6)   e139) rfl (fun hi142 => ?_)
  refine xe_ifne (off := 13) (t := 156) (by decide +kernel) (by decide) rfl hi142 (fun c143 => ?_) (fun c143 => ?_)
  · rw [if_pos c143] at h
    refine xe_alr (ins := .aload_n 0) (len := 1) (i := 0) (by decide +kernel) rfl rfl rfl rfl rfl ?_
    obtain ⟨v144, e145, h⟩ := xbnd h
    refine xs_gl (i := 71) (c := 15) (k := 9) (by decide +kernel) (by decide) (by decide +kernel) e145 rfl ?_
    refine xe_lsr (ins := .lstore_n 3) (len := 1) (i := 3) (by decide +kernel) rfl rfl rfl (by decide) (xk2_k (show ¬ (0 : Nat) = 3 by decide) (show ¬ (0 : Nat) = 3 + 1 by decide) (Or.inl (show ¬ (0 + 1 : Nat) = 3 by decide)) (xk2_k (show ¬ (1 : Nat) = 3 by decide) (show ¬ (1 : Nat) = 3 + 1 by decide) (Or.inl (show ¬ (1 + 1 : Nat) = 3 by decide)) xk2_n)) rfl ?_
    refine xe_alr (ins := .aload_n 0) (len := 1) (i := 0) (by decide +kernel) rfl rfl rfl rfl rfl ?_
    obtain ⟨_, e147, h⟩ := xbnd h
    obtain ⟨M148, e146, h⟩ := xbnd h
    refine xs_cv (i := 118) (j := 213) (ar := []) (rest := []) (r2 := xr_213) (by decide +kernel) (by decide +kernel) (by decide +kernel) xr_213_e rfl (by decide) (by decide) e147 ?_
    refine xc_v (k213 (d := d + 2)   e146) rfl ?_
    refine xe_iconst (n := 0) (by decide +kernel) rfl ?_
    refine xe_isr (ins := .istore 5) (len := 2) (i := 5) (by decide +kernel) rfl rfl rfl (by decide) (xk_k (show ¬ (3 : Nat) = 5 by decide) (Or.inl (show ¬ (3 + 1 : Nat) = 5 by decide)) (xk_k (show ¬ (0 : Nat) = 5 by decide) (Or.inl (show ¬ (0 + 1 : Nat) = 5 by decide)) (xk_k (show ¬ (1 : Nat) = 5 by decide) (Or.inl (show ¬ (1 + 1 : Nat) = 5 by decide)) xk_n))) rfl ?_
    refine xe_ldn (ins := .lload_n 1) (len := 1) (by decide +kernel) rfl rfl rfl rfl ?_
    refine xe_alr (ins := .aload_n 0) (len := 1) (i := 0) (by decide +kernel) rfl rfl rfl rfl rfl ?_
    obtain ⟨v150, e151, h⟩ := xbnd h
    refine xs_gl (i := 141) (c := 15) (k := 16) (by decide +kernel) (by decide) (by decide +kernel) e151 rfl ?_
    refine xe_lcmp (by decide +kernel) rfl hx1 (xq_gl_in e151) ?_
    refine xe_ifeq (off := 17) (t := 191) (by decide +kernel) (by decide) rfl (xin_cmp8 _ _) (fun c152 => ?_) (fun c152 => ?_)
    · have c152 := xcmp8_eq.mp c152; rw [if_pos c152] at h
      refine xW_lv rfl (l := [(0, xR_ (x0)), (1, xZ (x1)), (3, xZ (v144)), (5, xI (0))]) (xsb_of ⟨rfl, rfl, rfl, rfl, trivial⟩ (show [5, 3, 0, 1].Nodup by decide)) ?_
      exact k340_191   hx1 (xq_gl_in e145) (show xin (0) by decide) h
    · have c152 := (not_congr xcmp8_eq).mp c152; rw [if_neg c152] at h
      refine xe_alr (ins := .aload_n 0) (len := 1) (i := 0) (by decide +kernel) rfl rfl rfl rfl rfl ?_
      refine xe_bipush (n := 44) (by decide +kernel) (by decide) rfl ?_
      obtain ⟨_, e154, h⟩ := xbnd h
      obtain ⟨M155, e153, h⟩ := xbnd h
      refine xs_cv (i := 248) (j := 222) (ar := [xI (44)]) (rest := []) (r2 := xr_222) (by decide +kernel) (by decide +kernel) (by decide +kernel) xr_222_e rfl (by decide) (by decide) e154 ?_
      refine xc_v (k222 (d := d + 1)  (show xin (44) by decide) e153) rfl ?_
      refine xe_alr (ins := .aload_n 0) (len := 1) (i := 0) (by decide +kernel) rfl rfl rfl rfl rfl ?_
      refine xe_iconst (n := 1) (by decide +kernel) rfl ?_
      refine xe_iconst (n := 4) (by decide +kernel) rfl ?_
      obtain ⟨_, e158, h⟩ := xbnd h
      obtain ⟨R159, e157, h⟩ := xbnd h
      refine xs_cv (i := 251) (j := 233) (ar := [xI (4), xI (1)]) (rest := []) (r2 := xr_233) (by decide +kernel) (by decide +kernel) (by decide +kernel) xr_233_e rfl (by decide) (by decide) e158 ?_
      refine xc_i (k233 (d := d + 1)  (show xin (1) by decide) (show xin (4) by decide) e157) rfl (fun hi160 => ?_)
      refine xe_isr (ins := .istore 5) (len := 2) (i := 5) (by decide +kernel) rfl rfl rfl (by decide) (xk_d rfl (xk_k (show ¬ (3 : Nat) = 5 by decide) (Or.inl (show ¬ (3 + 1 : Nat) = 5 by decide)) (xk_k (show ¬ (0 : Nat) = 5 by decide) (Or.inl (show ¬ (0 + 1 : Nat) = 5 by decide)) (xk_k (show ¬ (1 : Nat) = 5 by decide) (Or.inl (show ¬ (1 + 1 : Nat) = 5 by decide)) xk_n)))) rfl ?_
      refine xW_lv rfl (l := [(0, xR_ (x0)), (1, xZ (x1)), (3, xZ (v144)), (5, xI (R159.1))]) (xsb_of ⟨rfl, rfl, rfl, rfl, trivial⟩ (show [5, 3, 0, 1].Nodup by decide)) ?_
      exact k340_191   hx1 (xq_gl_in e145) hi160 h
  · rw [if_neg c143] at h
    refine xe_alr (ins := .aload_n 0) (len := 1) (i := 0) (by decide +kernel) rfl rfl rfl rfl rfl ?_
    refine xe_alr (ins := .aload_n 0) (len := 1) (i := 0) (by decide +kernel) rfl rfl rfl rfl rfl ?_
    obtain ⟨v161, e162, h⟩ := xbnd h
    refine xs_gi (i := 43) (c := 15) (k := 4) (by decide +kernel) (by decide) (by decide +kernel) e162 rfl ?_
    obtain ⟨_, e164, h⟩ := xbnd h
    obtain ⟨M165, e163, h⟩ := xbnd h
    refine xs_cv (i := 35) (j := 210) (ar := [xI (v161)]) (rest := []) (r2 := xr_210) (by decide +kernel) (by decide +kernel) (by decide +kernel) xr_210_e rfl (by decide) (by decide) e164 ?_
    refine xc_v (k210 (d := d + 8)  (xq_gi_in e162) e163) rfl ?_
    refine xe_iconst (n := 0) (by decide +kernel) rfl ?_
    cases h
    exact xe_ret_i (ty := .int) (by decide +kernel) rfl rfl ⟨rfl, rfl, (show xin (0) by decide)⟩
def f340_26   (f : Nat) (x0 : Nat) (x1 : Int) (M : xj_M) : Option (Int × xj_M) := ((xq_is 15 (x0) M).bind fun _ => ((f221  f (x0) (3) M).bind fun R169 => (if (R169.1) = 0 then f340_139   f (x0) (x1) R169.2 else ((xq_is 15 (x0) R169.2).bind fun _ => ((f332  f (x0) R169.2).bind fun R174 => ((xq_is 15 (x0) R174.2).bind fun _ => ((f222  f (x0) (58) R174.2).bind fun M178 => ((xq_gi 15 4 (x0) M178).bind fun v180 => ((xq_is 15 (x0) M178).bind fun _ => ((f332  f (x0) M178).bind fun R184 => ((xq_is 15 (x0) R184.2).bind fun _ => ((f211  f (x0) R184.2).bind fun R188 => (if ¬ (R188.1) = 0 then f340_94   f (x0) (x1) (R174.1) (v180) (R184.1) R188.2 else (if (xrem (R184.1) (6)) < (xrem (R174.1) (6)) then f340_88   f (x0) (x1) (R174.1) (v180) (R184.1) R188.2 else (if (xdiv (R174.1) (6)) ≤ (xdiv (R184.1) (6)) then f340_94   f (x0) (x1) (R174.1) (v180) (R184.1) R188.2 else f340_88   f (x0) (x1) (R174.1) (v180) (R184.1) R188.2)))))))))))))))
theorem k340_26 {d f : Nat}     {x0 : Nat} {x1 : Int} {M : xj_M} {R : Int × xj_M} (hx1 : xiN x1) (h : f340_26   f x0 x1 M = some R) : xW (d + 9) (none, d + 9, none) xr_340 (26, [(0, xR_ x0), (1, xZ x1)], [], M) (xQi R) := by
  unfold f340_26 at h
  refine xe_alr (ins := .aload_n 0) (len := 1) (i := 0) (by decide +kernel) rfl rfl rfl rfl rfl ?_
  refine xe_iconst (n := 3) (by decide +kernel) rfl ?_
  obtain ⟨_, e168, h⟩ := xbnd h
  obtain ⟨R169, e167, h⟩ := xbnd h
  refine xs_cv (i := 153) (j := 221) (ar := [xI (3)]) (rest := []) (r2 := xr_221) (by decide +kernel) (by decide +kernel) (by decide +kernel) xr_221_e rfl (by decide) (by decide) e168 ?_
  refine xc_i (k221 (d := d + 7)  (show xin (3) by decide) e167) rfl (fun hi170 => ?_)
  refine xe_ifeq (off := 108) (t := 139) (by decide +kernel) (by decide) rfl hi170 (fun c171 => ?_) (fun c171 => ?_)
  · rw [if_pos c171] at h
    refine xW_lv rfl (l := [(0, xR_ (x0)), (1, xZ (x1))]) (xsb_of ⟨rfl, rfl, trivial⟩ (show [0, 1].Nodup by decide)) ?_
    exact k340_139   hx1 h
  · rw [if_neg c171] at h
    refine xe_alr (ins := .aload_n 0) (len := 1) (i := 0) (by decide +kernel) rfl rfl rfl rfl rfl ?_
    obtain ⟨_, e173, h⟩ := xbnd h
    obtain ⟨R174, e172, h⟩ := xbnd h
    refine xs_cv (i := 961) (j := 332) (ar := []) (rest := []) (r2 := xr_332) (by decide +kernel) (by decide +kernel) (by decide +kernel) xr_332_e rfl (by decide) (by decide) e173 ?_
    refine xc_i (k332 (d := d + 1)   e172) rfl (fun hi175 => ?_)
    refine xe_isr (ins := .istore_n 3) (len := 1) (i := 3) (by decide +kernel) rfl rfl rfl (by decide) (xk_k (show ¬ (0 : Nat) = 3 by decide) (Or.inl (show ¬ (0 + 1 : Nat) = 3 by decide)) (xk_k (show ¬ (1 : Nat) = 3 by decide) (Or.inl (show ¬ (1 + 1 : Nat) = 3 by decide)) xk_n)) rfl ?_
    refine xe_alr (ins := .aload_n 0) (len := 1) (i := 0) (by decide +kernel) rfl rfl rfl rfl rfl ?_
    refine xe_bipush (n := 58) (by decide +kernel) (by decide) rfl ?_
    obtain ⟨_, e177, h⟩ := xbnd h
    obtain ⟨M178, e176, h⟩ := xbnd h
    refine xs_cv (i := 248) (j := 222) (ar := [xI (58)]) (rest := []) (r2 := xr_222) (by decide +kernel) (by decide +kernel) (by decide +kernel) xr_222_e rfl (by decide) (by decide) e177 ?_
    refine xc_v (k222 (d := d + 1)  (show xin (58) by decide) e176) rfl ?_
    refine xe_alr (ins := .aload_n 0) (len := 1) (i := 0) (by decide +kernel) rfl rfl rfl rfl rfl ?_
    obtain ⟨v180, e181, h⟩ := xbnd h
    refine xs_gi (i := 43) (c := 15) (k := 4) (by decide +kernel) (by decide) (by decide +kernel) e181 rfl ?_
    refine xe_isr (ins := .istore 4) (len := 2) (i := 4) (by decide +kernel) rfl rfl rfl (by decide) (xk_k (show ¬ (3 : Nat) = 4 by decide) (Or.inr (xI_cat _)) (xk_k (show ¬ (0 : Nat) = 4 by decide) (Or.inl (show ¬ (0 + 1 : Nat) = 4 by decide)) (xk_k (show ¬ (1 : Nat) = 4 by decide) (Or.inl (show ¬ (1 + 1 : Nat) = 4 by decide)) xk_n))) rfl ?_
    refine xe_alr (ins := .aload_n 0) (len := 1) (i := 0) (by decide +kernel) rfl rfl rfl rfl rfl ?_
    obtain ⟨_, e183, h⟩ := xbnd h
    obtain ⟨R184, e182, h⟩ := xbnd h
    refine xs_cv (i := 961) (j := 332) (ar := []) (rest := []) (r2 := xr_332) (by decide +kernel) (by decide +kernel) (by decide +kernel) xr_332_e rfl (by decide) (by decide) e183 ?_
    refine xc_i (k332 (d := d + 1)   e182) rfl (fun hi185 => ?_)
    refine xe_isr (ins := .istore 5) (len := 2) (i := 5) (by decide +kernel) rfl rfl rfl (by decide) (xk_k (show ¬ (4 : Nat) = 5 by decide) (Or.inr (xI_cat _)) (xk_k (show ¬ (3 : Nat) = 5 by decide) (Or.inl (show ¬ (3 + 1 : Nat) = 5 by decide)) (xk_k (show ¬ (0 : Nat) = 5 by decide) (Or.inl (show ¬ (0 + 1 : Nat) = 5 by decide)) (xk_k (show ¬ (1 : Nat) = 5 by decide) (Or.inl (show ¬ (1 + 1 : Nat) = 5 by decide)) xk_n)))) rfl ?_
    refine xe_alr (ins := .aload_n 0) (len := 1) (i := 0) (by decide +kernel) rfl rfl rfl rfl rfl ?_
    obtain ⟨_, e187, h⟩ := xbnd h
    obtain ⟨R188, e186, h⟩ := xbnd h
    refine xs_cv (i := 28) (j := 211) (ar := []) (rest := []) (r2 := xr_211) (by decide +kernel) (by decide +kernel) (by decide +kernel) xr_211_e rfl (by decide) (by decide) e187 ?_
    refine xc_i (k211 (d := d + 8)   e186) rfl (fun hi189 => ?_)
    refine xe_ifne (off := 33) (t := 94) (by decide +kernel) (by decide) rfl hi189 (fun c190 => ?_) (fun c190 => ?_)
    · rw [if_pos c190] at h
      refine xW_lv rfl (l := [(0, xR_ (x0)), (1, xZ (x1)), (3, xI (R174.1)), (4, xI (v180)), (5, xI (R184.1))]) (xsb_of ⟨rfl, rfl, rfl, rfl, rfl, trivial⟩ (show [5, 4, 3, 0, 1].Nodup by decide)) ?_
      exact k340_94   hx1 hi175 (xq_gi_in e181) hi185 h
    · rw [if_neg c190] at h
      refine xe_ldn (ins := .iload 5) (len := 2) (by decide +kernel) rfl rfl rfl rfl ?_
      refine xe_bipush (n := 6) (by decide +kernel) (by decide) rfl ?_
      refine xe_irem (by decide +kernel) rfl (show xin (6) by decide) (by decide) ?_
      refine xe_ldn (ins := .iload_n 3) (len := 1) (by decide +kernel) rfl rfl rfl rfl ?_
      refine xe_bipush (n := 6) (by decide +kernel) (by decide) rfl ?_
      refine xe_irem (by decide +kernel) rfl (show xin (6) by decide) (by decide) ?_
      refine xe_icmplt (off := 15) (t := 88) (by decide +kernel) (by decide) rfl (xin_of _) (xin_of _) (fun c193 => ?_) (fun c193 => ?_)
      · rw [if_pos c193] at h
        refine xW_lv rfl (l := [(0, xR_ (x0)), (1, xZ (x1)), (3, xI (R174.1)), (4, xI (v180)), (5, xI (R184.1))]) (xsb_of ⟨rfl, rfl, rfl, rfl, rfl, trivial⟩ (show [5, 4, 3, 0, 1].Nodup by decide)) ?_
        exact k340_88   hx1 hi175 (xq_gi_in e181) hi185 h
      · rw [if_neg c193] at h
        refine xe_ldn (ins := .iload 5) (len := 2) (by decide +kernel) rfl rfl rfl rfl ?_
        refine xe_bipush (n := 6) (by decide +kernel) (by decide) rfl ?_
        refine xe_idiv (by decide +kernel) rfl (show xin (6) by decide) (by decide) ?_
        refine xe_ldn (ins := .iload_n 3) (len := 1) (by decide +kernel) rfl rfl rfl rfl ?_
        refine xe_bipush (n := 6) (by decide +kernel) (by decide) rfl ?_
        refine xe_idiv (by decide +kernel) rfl (show xin (6) by decide) (by decide) ?_
        refine xe_icmpge (off := 9) (t := 94) (by decide +kernel) (by decide) rfl (xin_of _) (xin_of _) (fun c196 => ?_) (fun c196 => ?_)
        · rw [if_pos c196] at h
          refine xW_lv rfl (l := [(0, xR_ (x0)), (1, xZ (x1)), (3, xI (R174.1)), (4, xI (v180)), (5, xI (R184.1))]) (xsb_of ⟨rfl, rfl, rfl, rfl, rfl, trivial⟩ (show [5, 4, 3, 0, 1].Nodup by decide)) ?_
          exact k340_94   hx1 hi175 (xq_gi_in e181) hi185 h
        · rw [if_neg c196] at h
          refine xW_lv rfl (l := [(0, xR_ (x0)), (1, xZ (x1)), (3, xI (R174.1)), (4, xI (v180)), (5, xI (R184.1))]) (xsb_of ⟨rfl, rfl, rfl, rfl, rfl, trivial⟩ (show [5, 4, 3, 0, 1].Nodup by decide)) ?_
          exact k340_88   hx1 hi175 (xq_gi_in e181) hi185 h
def f340  (f : Nat) (a0 : Nat) (a1 : Int) (M : xj_M) : Option (Int × xj_M) := ((xq_is 15 (a0) M).bind fun _ => ((f213  f (a0) M).bind fun M199 => ((xq_is 15 (a0) M199).bind fun _ => ((f336  f (a0) M199).bind fun M203 => ((xq_gl 15 17 (a0) M203).bind fun v205 => (if (a1) = (v205) then f340_26   f (a0) (a1) M203 else ((xq_gl 15 16 (a0) M203).bind fun v208 => (if ¬ (a1) = (v208) then f340_139   f (a0) (a1) M203 else f340_26   f (a0) (a1) M203))))))))
theorem k340 {d f : Nat}   {a0 : Nat} {a1 : Int} {M : xj_M} {R : Int × xj_M} (ha1 : xiN a1) (h : f340  f a0 a1 M = some R) : xT (d + 10) 340 [xR_ a0, xZ a1] M (xQi R) := by
  refine xT_m xr_340_e (X := (none, d + 9, none)) rfl (xa_1 (xR_cat _) (xa_2 (xZ_cat _) xa_n)) (by decide) ?_
  unfold f340 at h
  refine xe_alr (ins := .aload_n 0) (len := 1) (i := 0) (by decide +kernel) rfl rfl rfl rfl rfl ?_
  obtain ⟨_, e198, h⟩ := xbnd h
  obtain ⟨M199, e197, h⟩ := xbnd h
  refine xs_cv (i := 118) (j := 213) (ar := []) (rest := []) (r2 := xr_213) (by decide +kernel) (by decide +kernel) (by decide +kernel) xr_213_e rfl (by decide) (by decide) e198 ?_
  refine xc_v (k213 (d := d + 2)   e197) rfl ?_
  refine xe_alr (ins := .aload_n 0) (len := 1) (i := 0) (by decide +kernel) rfl rfl rfl rfl rfl ?_
  obtain ⟨_, e202, h⟩ := xbnd h
  obtain ⟨M203, e201, h⟩ := xbnd h
  refine xs_cv (i := 980) (j := 336) (ar := []) (rest := []) (r2 := xr_336) (by decide +kernel) (by decide +kernel) (by decide +kernel) xr_336_e rfl (by decide) (by decide) e202 ?_
  refine xc_v (k336 (d := d + 0)   e201) rfl ?_
  refine xe_ldn (ins := .lload_n 1) (len := 1) (by decide +kernel) rfl rfl rfl rfl ?_
  refine xe_alr (ins := .aload_n 0) (len := 1) (i := 0) (by decide +kernel) rfl rfl rfl rfl rfl ?_
  obtain ⟨v205, e206, h⟩ := xbnd h
  refine xs_gl (i := 144) (c := 15) (k := 17) (by decide +kernel) (by decide) (by decide +kernel) e206 rfl ?_
  refine xe_lcmp (by decide +kernel) rfl ha1 (xq_gl_in e206) ?_
  refine xe_ifeq (off := 12) (t := 26) (by decide +kernel) (by decide) rfl (xin_cmp8 _ _) (fun c207 => ?_) (fun c207 => ?_)
  · have c207 := xcmp8_eq.mp c207; rw [if_pos c207] at h
    refine xW_lv rfl (l := [(0, xR_ (a0)), (1, xZ (a1))]) (xsb_of ⟨rfl, rfl, trivial⟩ (show [0, 1].Nodup by decide)) ?_
    exact k340_26   ha1 h
  · have c207 := (not_congr xcmp8_eq).mp c207; rw [if_neg c207] at h
    refine xe_ldn (ins := .lload_n 1) (len := 1) (by decide +kernel) rfl rfl rfl rfl ?_
    refine xe_alr (ins := .aload_n 0) (len := 1) (i := 0) (by decide +kernel) rfl rfl rfl rfl rfl ?_
    obtain ⟨v208, e209, h⟩ := xbnd h
    refine xs_gl (i := 141) (c := 15) (k := 16) (by decide +kernel) (by decide) (by decide +kernel) e209 rfl ?_
    refine xe_lcmp (by decide +kernel) rfl ha1 (xq_gl_in e209) ?_
    refine xe_ifne (off := 116) (t := 139) (by decide +kernel) (by decide) rfl (xin_cmp8 _ _) (fun c210 => ?_) (fun c210 => ?_)
    · have c210 := xcmp8_ne.mp c210; rw [if_pos c210] at h
      refine xW_lv rfl (l := [(0, xR_ (a0)), (1, xZ (a1))]) (xsb_of ⟨rfl, rfl, trivial⟩ (show [0, 1].Nodup by decide)) ?_
      exact k340_139   ha1 h
    · have c210 := (not_congr xcmp8_ne).mp c210; rw [if_neg c210] at h
      refine xW_lv rfl (l := [(0, xR_ (a0)), (1, xZ (a1))]) (xsb_of ⟨rfl, rfl, trivial⟩ (show [0, 1].Nodup by decide)) ?_
      exact k340_26   ha1 h
-- ChangeHouseModel.readChange
def xr_366 : xj_mR := (15, yX15_readChange, cX15_readChange, 4, (Option.none : Option Jvm.ClassFile.FieldType), 1, false, (14, 24), (1, 12))
set_option maxRecDepth 20000 in
theorem xr_366_e : xj_row 366 = some xr_366 := rfl
def f366_94  (r40 : Nat → Int → Int → Int → xj_M → Option (xj_M)) (f : Nat) (x0 : Nat) (x1 : Int) (x2 : Int) (y0 : Int) (M : xj_M) : Option (xj_M) := (if (y0) = 0 then r40 (x0) (x1) (x2) (y0) M else ((xq_is 15 (x0) M).bind fun _ => ((f213  f (x0) M).bind fun M104 => r40 (x0) (x1) (x2) (y0) M104)))
theorem k366_94 {d f : Nat}  {r40 : Nat → Int → Int → Int → xj_M → Option (xj_M)}  (hr40 : ∀ {x0 : Nat} {x1 : Int} {x2 : Int} {x3 : Int} {M : xj_M} {R : xj_M}, xin x1 → xin x2 → xin x3 → r40 x0 x1 x2 x3 M = some R → xW (d + 8) (none, d + 8, none) xr_366 (40, [(0, xR_ x0), (1, xI x1), (2, xI x2), (3, xI x3)], [], M) (xQv R)) {x0 : Nat} {x1 : Int} {x2 : Int} {y0 : Int} {M : xj_M} {R : xj_M} (hx1 : xin x1) (hx2 : xin x2) (hy0 : xin y0) (h : f366_94  r40 f x0 x1 x2 y0 M = some R) : xW (d + 8) (none, d + 8, none) xr_366 (94, [(0, xR_ x0), (1, xI x1), (2, xI x2)], [xI y0], M) (xQv R) := by
  unfold f366_94 at h
  refine xe_isr (ins := .istore_n 3) (len := 1) (i := 3) (by decide +kernel) rfl rfl rfl (by decide) (xk_k (show ¬ (0 : Nat) = 3 by decide) (Or.inl (show ¬ (0 + 1 : Nat) = 3 by decide)) (xk_k (show ¬ (1 : Nat) = 3 by decide) (Or.inl (show ¬ (1 + 1 : Nat) = 3 by decide)) (xk_k (show ¬ (2 : Nat) = 3 by decide) (Or.inr (xI_cat _)) xk_n))) rfl ?_
  refine xe_ldn (ins := .iload_n 3) (len := 1) (by decide +kernel) rfl rfl rfl rfl ?_
  refine xe_ifeq (off := -56) (t := 40) (by decide +kernel) (by decide) rfl hy0 (fun c101 => ?_) (fun c101 => ?_)
  · rw [if_pos c101] at h
    refine xW_lv rfl (l := [(0, xR_ (x0)), (1, xI (x1)), (2, xI (x2)), (3, xI (y0))]) (xsb_of ⟨rfl, rfl, rfl, rfl, trivial⟩ (show [3, 0, 1, 2].Nodup by decide)) ?_
    exact hr40 hx1 hx2 hy0 h
  · rw [if_neg c101] at h
    refine xe_alr (ins := .aload_n 0) (len := 1) (i := 0) (by decide +kernel) rfl rfl rfl rfl rfl ?_
    obtain ⟨_, e103, h⟩ := xbnd h
    obtain ⟨M104, e102, h⟩ := xbnd h
    refine xs_cv (i := 118) (j := 213) (ar := []) (rest := []) (r2 := xr_213) (by decide +kernel) (by decide +kernel) (by decide +kernel) xr_213_e rfl (by decide) (by decide) e103 ?_
    refine xc_v (k213 (d := d + 1)   e102) rfl ?_
    refine xe_goto (off := -63) (nx := 40) (by decide +kernel) (by decide) ?_
    refine xW_lv rfl (l := [(0, xR_ (x0)), (1, xI (x1)), (2, xI (x2)), (3, xI (y0))]) (xsb_of ⟨rfl, rfl, rfl, rfl, trivial⟩ (show [3, 0, 1, 2].Nodup by decide)) ?_
    exact hr40 hx1 hx2 hy0 h
def f366_93  (r40 : Nat → Int → Int → Int → xj_M → Option (xj_M)) (f : Nat) (x0 : Nat) (x1 : Int) (x2 : Int) (M : xj_M) : Option (xj_M) := f366_94  r40 f (x0) (x1) (x2) (0) M
theorem k366_93 {d f : Nat}  {r40 : Nat → Int → Int → Int → xj_M → Option (xj_M)}  (hr40 : ∀ {x0 : Nat} {x1 : Int} {x2 : Int} {x3 : Int} {M : xj_M} {R : xj_M}, xin x1 → xin x2 → xin x3 → r40 x0 x1 x2 x3 M = some R → xW (d + 8) (none, d + 8, none) xr_366 (40, [(0, xR_ x0), (1, xI x1), (2, xI x2), (3, xI x3)], [], M) (xQv R)) {x0 : Nat} {x1 : Int} {x2 : Int} {M : xj_M} {R : xj_M} (hx1 : xin x1) (hx2 : xin x2) (h : f366_93  r40 f x0 x1 x2 M = some R) : xW (d + 8) (none, d + 8, none) xr_366 (93, [(0, xR_ x0), (1, xI x1), (2, xI x2)], [], M) (xQv R) := by
  unfold f366_93 at h
  refine xe_iconst (n := 0) (by decide +kernel) rfl ?_
  refine xW_lv rfl (l := [(0, xR_ (x0)), (1, xI (x1)), (2, xI (x2))]) (xsb_of ⟨rfl, rfl, rfl, trivial⟩ (show [0, 1, 2].Nodup by decide)) ?_
  exact k366_94  hr40 hx1 hx2 (show xin (0) by decide) h
def f366_106   (f : Nat) (x0 : Nat) (x1 : Int) (x2 : Int) (M : xj_M) : Option (xj_M) := ((xq_gr 15 101 (x0) M).bind fun v106 => ((xq_si (v106) (x1) (x2) M).bind fun M108 => ((xq_is 15 (x0) M108).bind fun _ => ((f222  f (x0) (41) M108).bind fun M112 => ((xq_is 15 (x0) M112).bind fun _ => ((f222  f (x0) (46) M112).bind fun M116 => (some M116)))))))
theorem k366_106 {d f : Nat}     {x0 : Nat} {x1 : Int} {x2 : Int} {M : xj_M} {R : xj_M} (hx1 : xin x1) (hx2 : xin x2) (h : f366_106   f x0 x1 x2 M = some R) : xW (d + 8) (none, d + 8, none) xr_366 (106, [(0, xR_ x0), (1, xI x1), (2, xI x2)], [], M) (xQv R) := by
  unfold f366_106 at h
  refine xe_alr (ins := .aload_n 0) (len := 1) (i := 0) (by decide +kernel) rfl rfl rfl rfl rfl ?_
  obtain ⟨v106, e107, h⟩ := xbnd h
  refine xs_gr (i := 1119) (c := 15) (k := 101) (by decide +kernel) (by decide) (by decide +kernel) e107 rfl ?_
  refine xe_ldn (ins := .iload_n 1) (len := 1) (by decide +kernel) rfl rfl rfl rfl ?_
  refine xe_ldn (ins := .iload_n 2) (len := 1) (by decide +kernel) rfl rfl rfl rfl ?_
  obtain ⟨M108, e109, h⟩ := xbnd h
  refine xs_iast (by decide +kernel) hx1 e109 rfl ?_
  refine xe_alr (ins := .aload_n 0) (len := 1) (i := 0) (by decide +kernel) rfl rfl rfl rfl rfl ?_
  refine xe_bipush (n := 41) (by decide +kernel) (by decide) rfl ?_
  obtain ⟨_, e111, h⟩ := xbnd h
  obtain ⟨M112, e110, h⟩ := xbnd h
  refine xs_cv (i := 248) (j := 222) (ar := [xI (41)]) (rest := []) (r2 := xr_222) (by decide +kernel) (by decide +kernel) (by decide +kernel) xr_222_e rfl (by decide) (by decide) e111 ?_
  refine xc_v (k222 (d := d + 0)  (show xin (41) by decide) e110) rfl ?_
  refine xe_alr (ins := .aload_n 0) (len := 1) (i := 0) (by decide +kernel) rfl rfl rfl rfl rfl ?_
  refine xe_bipush (n := 46) (by decide +kernel) (by decide) rfl ?_
  obtain ⟨_, e115, h⟩ := xbnd h
  obtain ⟨M116, e114, h⟩ := xbnd h
  refine xs_cv (i := 248) (j := 222) (ar := [xI (46)]) (rest := []) (r2 := xr_222) (by decide +kernel) (by decide +kernel) (by decide +kernel) xr_222_e rfl (by decide) (by decide) e115 ?_
  refine xc_v (k222 (d := d + 0)  (show xin (46) by decide) e114) rfl ?_
  cases h
  exact xe_ret_v (by decide +kernel) rfl ⟨rfl, rfl⟩
def f366_40b  (r40 : Nat → Int → Int → Int → xj_M → Option (xj_M)) (f : Nat) (x0 : Nat) (x1 : Int) (x2 : Int) (x3 : Int) (M : xj_M) : Option (xj_M) := (if (x3) = 0 then f366_106   f (x0) (x1) (x2) M else ((xq_is 15 (x0) M).bind fun _ => ((f211  f (x0) M).bind fun R121 => (if ¬ (R121.1) = 0 then f366_106   f (x0) (x1) (x2) R121.2 else ((xq_is 15 (x0) R121.2).bind fun _ => ((f227  f (x0) R121.2).bind fun R126 => (if (R126.1) = 0 then f366_106   f (x0) (x1) (x2) R126.2 else ((xq_gr 15 103 (x0) R126.2).bind fun v129 => ((xq_gl 15 21 (x0) R126.2).bind fun v131 => ((xq_sl (v129) (xwr ((xwr ((4) * (x1))) + (x2))) (v131) R126.2).bind fun M133 => ((xq_is 15 (x0) M133).bind fun _ => ((f220  f (x0) (44) M133).bind fun R137 => (if (R137.1) = 0 then f366_93  r40 f (x0) (x1) (xwr ((x2) + (1))) R137.2 else (if (4) ≤ (xwr ((x2) + (1))) then f366_93  r40 f (x0) (x1) (xwr ((x2) + (1))) R137.2 else f366_94  r40 f (x0) (x1) (xwr ((x2) + (1))) (1) R137.2))))))))))))))
theorem k366_40b {d f : Nat}  {r40 : Nat → Int → Int → Int → xj_M → Option (xj_M)}  (hr40 : ∀ {x0 : Nat} {x1 : Int} {x2 : Int} {x3 : Int} {M : xj_M} {R : xj_M}, xin x1 → xin x2 → xin x3 → r40 x0 x1 x2 x3 M = some R → xW (d + 8) (none, d + 8, none) xr_366 (40, [(0, xR_ x0), (1, xI x1), (2, xI x2), (3, xI x3)], [], M) (xQv R)) {x0 : Nat} {x1 : Int} {x2 : Int} {x3 : Int} {M : xj_M} {R : xj_M} (hx1 : xin x1) (hx2 : xin x2) (hx3 : xin x3) (h : f366_40b  r40 f x0 x1 x2 x3 M = some R) : xW (d + 8) (none, d + 8, none) xr_366 (40, [(0, xR_ x0), (1, xI x1), (2, xI x2), (3, xI x3)], [], M) (xQv R) := by
  unfold f366_40b at h
  refine xe_ldn (ins := .iload_n 3) (len := 1) (by decide +kernel) rfl rfl rfl rfl ?_
  refine xe_ifeq (off := 65) (t := 106) (by decide +kernel) (by decide) rfl hx3 (fun c118 => ?_) (fun c118 => ?_)
  · rw [if_pos c118] at h
    refine xW_lv rfl (l := [(0, xR_ (x0)), (1, xI (x1)), (2, xI (x2))]) (xsb_of ⟨rfl, rfl, rfl, trivial⟩ (show [0, 1, 2, 3].Nodup by decide)) ?_
    exact k366_106   hx1 hx2 h
  · rw [if_neg c118] at h
    refine xe_alr (ins := .aload_n 0) (len := 1) (i := 0) (by decide +kernel) rfl rfl rfl rfl rfl ?_
    obtain ⟨_, e120, h⟩ := xbnd h
    obtain ⟨R121, e119, h⟩ := xbnd h
    refine xs_cv (i := 28) (j := 211) (ar := []) (rest := []) (r2 := xr_211) (by decide +kernel) (by decide +kernel) (by decide +kernel) xr_211_e rfl (by decide) (by decide) e120 ?_
    refine xc_i (k211 (d := d + 7)   e119) rfl (fun hi122 => ?_)
    refine xe_ifne (off := 58) (t := 106) (by decide +kernel) (by decide) rfl hi122 (fun c123 => ?_) (fun c123 => ?_)
    · rw [if_pos c123] at h
      refine xW_lv rfl (l := [(0, xR_ (x0)), (1, xI (x1)), (2, xI (x2))]) (xsb_of ⟨rfl, rfl, rfl, trivial⟩ (show [0, 1, 2, 3].Nodup by decide)) ?_
      exact k366_106   hx1 hx2 h
    · rw [if_neg c123] at h
      refine xe_alr (ins := .aload_n 0) (len := 1) (i := 0) (by decide +kernel) rfl rfl rfl rfl rfl ?_
      obtain ⟨_, e125, h⟩ := xbnd h
      obtain ⟨R126, e124, h⟩ := xbnd h
      refine xs_cv (i := 328) (j := 227) (ar := []) (rest := []) (r2 := xr_227) (by decide +kernel) (by decide +kernel) (by decide +kernel) xr_227_e rfl (by decide) (by decide) e125 ?_
      refine xc_i (k227 (d := d + 0)   e124) rfl (fun hi127 => ?_)
      refine xe_ifeq (off := 51) (t := 106) (by decide +kernel) (by decide) rfl hi127 (fun c128 => ?_) (fun c128 => ?_)
      · rw [if_pos c128] at h
        refine xW_lv rfl (l := [(0, xR_ (x0)), (1, xI (x1)), (2, xI (x2))]) (xsb_of ⟨rfl, rfl, rfl, trivial⟩ (show [0, 1, 2, 3].Nodup by decide)) ?_
        exact k366_106   hx1 hx2 h
      · rw [if_neg c128] at h
        refine xe_alr (ins := .aload_n 0) (len := 1) (i := 0) (by decide +kernel) rfl rfl rfl rfl rfl ?_
        obtain ⟨v129, e130, h⟩ := xbnd h
        refine xs_gr (i := 1125) (c := 15) (k := 103) (by decide +kernel) (by decide) (by decide +kernel) e130 rfl ?_
        refine xe_iconst (n := 4) (by decide +kernel) rfl ?_
        refine xe_ldn (ins := .iload_n 1) (len := 1) (by decide +kernel) rfl rfl rfl rfl ?_
        refine xe_imul (by decide +kernel) rfl ?_
        refine xe_ldn (ins := .iload_n 2) (len := 1) (by decide +kernel) rfl rfl rfl rfl ?_
        refine xe_iadd (by decide +kernel) rfl ?_
        refine xe_alr (ins := .aload_n 0) (len := 1) (i := 0) (by decide +kernel) rfl rfl rfl rfl rfl ?_
        obtain ⟨v131, e132, h⟩ := xbnd h
        refine xs_gl (i := 160) (c := 15) (k := 21) (by decide +kernel) (by decide) (by decide +kernel) e132 rfl ?_
        obtain ⟨M133, e134, h⟩ := xbnd h
        refine xs_last (by decide +kernel) (xin_wr _) e134 rfl ?_
        refine xe_iincr (i := 2) (n := 1) (by decide +kernel) (by decide) rfl (xk_k (show ¬ (0 : Nat) = 2 by decide) (Or.inl (show ¬ (0 + 1 : Nat) = 2 by decide)) (xk_k (show ¬ (1 : Nat) = 2 by decide) (Or.inr (xI_cat _)) (xk_d rfl (xk_k (show ¬ (3 : Nat) = 2 by decide) (Or.inl (show ¬ (3 + 1 : Nat) = 2 by decide)) xk_n)))) rfl ?_
        refine xe_alr (ins := .aload_n 0) (len := 1) (i := 0) (by decide +kernel) rfl rfl rfl rfl rfl ?_
        refine xe_bipush (n := 44) (by decide +kernel) (by decide) rfl ?_
        obtain ⟨_, e136, h⟩ := xbnd h
        obtain ⟨R137, e135, h⟩ := xbnd h
        refine xs_cv (i := 115) (j := 220) (ar := [xI (44)]) (rest := []) (r2 := xr_220) (by decide +kernel) (by decide +kernel) (by decide +kernel) xr_220_e rfl (by decide) (by decide) e136 ?_
        refine xc_i (k220 (d := d + 6)  (show xin (44) by decide) e135) rfl (fun hi138 => ?_)
        refine xe_ifeq (off := 12) (t := 93) (by decide +kernel) (by decide) rfl hi138 (fun c139 => ?_) (fun c139 => ?_)
        · rw [if_pos c139] at h
          refine xW_lv rfl (l := [(0, xR_ (x0)), (1, xI (x1)), (2, xI (xwr ((x2) + (1))))]) (xsb_of ⟨rfl, rfl, rfl, trivial⟩ (show [2, 0, 1, 3].Nodup by decide)) ?_
          exact k366_93  hr40 hx1 (xin_wr _) h
        · rw [if_neg c139] at h
          refine xe_ldn (ins := .iload_n 2) (len := 1) (by decide +kernel) rfl rfl rfl rfl ?_
          refine xe_iconst (n := 4) (by decide +kernel) rfl ?_
          refine xe_icmpge (off := 7) (t := 93) (by decide +kernel) (by decide) rfl (xin_wr _) (show xin (4) by decide) (fun c140 => ?_) (fun c140 => ?_)
          · rw [if_pos c140] at h
            refine xW_lv rfl (l := [(0, xR_ (x0)), (1, xI (x1)), (2, xI (xwr ((x2) + (1))))]) (xsb_of ⟨rfl, rfl, rfl, trivial⟩ (show [2, 0, 1, 3].Nodup by decide)) ?_
            exact k366_93  hr40 hx1 (xin_wr _) h
          · rw [if_neg c140] at h
            refine xe_iconst (n := 1) (by decide +kernel) rfl ?_
            refine xe_goto (off := 4) (nx := 94) (by decide +kernel) (by decide) ?_
            refine xW_lv rfl (l := [(0, xR_ (x0)), (1, xI (x1)), (2, xI (xwr ((x2) + (1))))]) (xsb_of ⟨rfl, rfl, rfl, trivial⟩ (show [2, 0, 1, 3].Nodup by decide)) ?_
            exact k366_94  hr40 hx1 (xin_wr _) (show xin (1) by decide) h
def f366_40   (f : Nat) : Nat → Nat → Int → Int → Int → xj_M → Option (xj_M)
  | 0, _, _, _, _, _ => none
  | n + 1, x0, x1, x2, x3, M => f366_40b   (f366_40   f n) f x0 x1 x2 x3 M
theorem k366_40 {d f : Nat}     : ∀ {n : Nat} {x0 : Nat} {x1 : Int} {x2 : Int} {x3 : Int} {M : xj_M} {R : xj_M}, xin x1 → xin x2 → xin x3 → f366_40   f n x0 x1 x2 x3 M = some R → xW (d + 8) (none, d + 8, none) xr_366 (40, [(0, xR_ x0), (1, xI x1), (2, xI x2), (3, xI x3)], [], M) (xQv R) := by
  intro n
  induction n with
  | zero => intros; rename_i h; cases h
  | succ n ih => intros; rename_i h; exact k366_40b   ih (by assumption) (by assumption) (by assumption) h
def f366  (f : Nat) (a0 : Nat) (a1 : Int) (M : xj_M) : Option (xj_M) := ((xq_is 15 (a0) M).bind fun _ => ((f226  f (a0) M).bind fun R143 => (if ¬ (R143.1) = 0 then ((xq_gr 15 102 (a0) R143.2).bind fun v146 => ((xq_gl 15 9 (a0) R143.2).bind fun v148 => ((xq_sl (v146) (a1) (v148) R143.2).bind fun M150 => ((xq_is 15 (a0) M150).bind fun _ => ((f213  f (a0) M150).bind fun M154 => ((xq_is 15 (a0) M154).bind fun _ => ((f222  f (a0) (40) M154).bind fun M158 => f366_40   f f (a0) (a1) (0) (1) M158))))))) else ((xq_gi 15 4 (a0) R143.2).bind fun v160 => ((xq_is 15 (a0) R143.2).bind fun _ => ((f210  f (a0) (v160) R143.2).bind fun M164 => (some M164)))))))
theorem k366 {d f : Nat}   {a0 : Nat} {a1 : Int} {M : xj_M} {R : xj_M} (ha1 : xin a1) (h : f366  f a0 a1 M = some R) : xT (d + 9) 366 [xR_ a0, xI a1] M (xQv R) := by
  refine xT_m xr_366_e (X := (none, d + 8, none)) rfl (xa_1 (xR_cat _) (xa_1 (xI_cat _) xa_n)) (by decide) ?_
  unfold f366 at h
  refine xe_alr (ins := .aload_n 0) (len := 1) (i := 0) (by decide +kernel) rfl rfl rfl rfl rfl ?_
  obtain ⟨_, e142, h⟩ := xbnd h
  obtain ⟨R143, e141, h⟩ := xbnd h
  refine xs_cv (i := 163) (j := 226) (ar := []) (rest := []) (r2 := xr_226) (by decide +kernel) (by decide +kernel) (by decide +kernel) xr_226_e rfl (by decide) (by decide) e142 ?_
  refine xc_i (k226 (d := d + 5)   e141) rfl (fun hi144 => ?_)
  refine xe_ifne (off := 12) (t := 16) (by decide +kernel) (by decide) rfl hi144 (fun c145 => ?_) (fun c145 => ?_)
  · rw [if_pos c145] at h
    refine xe_alr (ins := .aload_n 0) (len := 1) (i := 0) (by decide +kernel) rfl rfl rfl rfl rfl ?_
    obtain ⟨v146, e147, h⟩ := xbnd h
    refine xs_gr (i := 1122) (c := 15) (k := 102) (by decide +kernel) (by decide) (by decide +kernel) e147 rfl ?_
    refine xe_ldn (ins := .iload_n 1) (len := 1) (by decide +kernel) rfl rfl rfl rfl ?_
    refine xe_alr (ins := .aload_n 0) (len := 1) (i := 0) (by decide +kernel) rfl rfl rfl rfl rfl ?_
    obtain ⟨v148, e149, h⟩ := xbnd h
    refine xs_gl (i := 71) (c := 15) (k := 9) (by decide +kernel) (by decide) (by decide +kernel) e149 rfl ?_
    obtain ⟨M150, e151, h⟩ := xbnd h
    refine xs_last (by decide +kernel) ha1 e151 rfl ?_
    refine xe_alr (ins := .aload_n 0) (len := 1) (i := 0) (by decide +kernel) rfl rfl rfl rfl rfl ?_
    obtain ⟨_, e153, h⟩ := xbnd h
    obtain ⟨M154, e152, h⟩ := xbnd h
    refine xs_cv (i := 118) (j := 213) (ar := []) (rest := []) (r2 := xr_213) (by decide +kernel) (by decide +kernel) (by decide +kernel) xr_213_e rfl (by decide) (by decide) e153 ?_
    refine xc_v (k213 (d := d + 1)   e152) rfl ?_
    refine xe_alr (ins := .aload_n 0) (len := 1) (i := 0) (by decide +kernel) rfl rfl rfl rfl rfl ?_
    refine xe_bipush (n := 40) (by decide +kernel) (by decide) rfl ?_
    obtain ⟨_, e157, h⟩ := xbnd h
    obtain ⟨M158, e156, h⟩ := xbnd h
    refine xs_cv (i := 248) (j := 222) (ar := [xI (40)]) (rest := []) (r2 := xr_222) (by decide +kernel) (by decide +kernel) (by decide +kernel) xr_222_e rfl (by decide) (by decide) e157 ?_
    refine xc_v (k222 (d := d + 0)  (show xin (40) by decide) e156) rfl ?_
    refine xe_iconst (n := 0) (by decide +kernel) rfl ?_
    refine xe_isr (ins := .istore_n 2) (len := 1) (i := 2) (by decide +kernel) rfl rfl rfl (by decide) (xk_k (show ¬ (0 : Nat) = 2 by decide) (Or.inl (show ¬ (0 + 1 : Nat) = 2 by decide)) (xk_k (show ¬ (1 : Nat) = 2 by decide) (Or.inr (xI_cat _)) xk_n)) rfl ?_
    refine xe_iconst (n := 1) (by decide +kernel) rfl ?_
    refine xe_isr (ins := .istore_n 3) (len := 1) (i := 3) (by decide +kernel) rfl rfl rfl (by decide) (xk_k (show ¬ (2 : Nat) = 3 by decide) (Or.inr (xI_cat _)) (xk_k (show ¬ (0 : Nat) = 3 by decide) (Or.inl (show ¬ (0 + 1 : Nat) = 3 by decide)) (xk_k (show ¬ (1 : Nat) = 3 by decide) (Or.inl (show ¬ (1 + 1 : Nat) = 3 by decide)) xk_n))) rfl ?_
    refine xW_lv rfl (l := [(0, xR_ (a0)), (1, xI (a1)), (2, xI (0)), (3, xI (1))]) (xsb_of ⟨rfl, rfl, rfl, rfl, trivial⟩ (show [3, 2, 0, 1].Nodup by decide)) ?_
    exact k366_40   ha1 (show xin (0) by decide) (show xin (1) by decide) h
  · rw [if_neg c145] at h
    refine xe_alr (ins := .aload_n 0) (len := 1) (i := 0) (by decide +kernel) rfl rfl rfl rfl rfl ?_
    refine xe_alr (ins := .aload_n 0) (len := 1) (i := 0) (by decide +kernel) rfl rfl rfl rfl rfl ?_
    obtain ⟨v160, e161, h⟩ := xbnd h
    refine xs_gi (i := 43) (c := 15) (k := 4) (by decide +kernel) (by decide) (by decide +kernel) e161 rfl ?_
    obtain ⟨_, e163, h⟩ := xbnd h
    obtain ⟨M164, e162, h⟩ := xbnd h
    refine xs_cv (i := 35) (j := 210) (ar := [xI (v160)]) (rest := []) (r2 := xr_210) (by decide +kernel) (by decide +kernel) (by decide +kernel) xr_210_e rfl (by decide) (by decide) e163 ?_
    refine xc_v (k210 (d := d + 7)  (xq_gi_in e161) e162) rfl ?_
    cases h
    exact xe_ret_v (by decide +kernel) rfl ⟨rfl, rfl⟩
-- ChangeHouseModel.moreOf
def xr_244 : xj_mR := (15, yX15_moreOf, cX15_moreOf, 2, (Option.none : Option Jvm.ClassFile.FieldType), 0, false, (9, 45), (1, 12))
set_option maxRecDepth 20000 in
theorem xr_244_e : xj_row 244 = some xr_244 := rfl
def f244_4b (q243 : Nat → xj_M → Option (xj_M)) (r4 : Nat → xj_M → Option (xj_M)) (f : Nat) (x0 : Nat) (M : xj_M) : Option (xj_M) := ((xq_is 15 (x0) M).bind fun _ => ((f242  f (x0) (0) M).bind fun R103 => (if (R103.1) = 0 then (some R103.2) else ((xq_gi 15 3 (x0) R103.2).bind fun v106 => ((xq_is 15 (x0) R103.2).bind fun _ => ((f213  f (x0) R103.2).bind fun M110 => ((xq_is 15 (x0) M110).bind fun _ => ((f241 q243 f (x0) M110).bind fun M114 => ((xq_is 15 (x0) M114).bind fun _ => ((f245 q243 f (x0) M114).bind fun M118 => ((xq_is 15 (x0) M118).bind fun _ => ((f240  f (x0) (3) (v106) M118).bind fun M122 => r4 (x0) M122))))))))))))
theorem k244_4b {d f : Nat} {q243 : Nat → xj_M → Option (xj_M)} {r4 : Nat → xj_M → Option (xj_M)} (hq243 : ∀ {e : Nat} {a0 : Nat} {M : xj_M} {R : xj_M}, d ≤ e → q243 a0 M = some R → xT e 243 [xR_ a0] M (xQv R)) (hr4 : ∀ {x0 : Nat} {M : xj_M} {R : xj_M}, r4 x0 M = some R → xW (d + 10) (none, d + 10, none) xr_244 (4, [(0, xR_ x0)], [], M) (xQv R)) {x0 : Nat} {M : xj_M} {R : xj_M}  (h : f244_4b q243 r4 f x0 M = some R) : xW (d + 10) (none, d + 10, none) xr_244 (4, [(0, xR_ x0)], [], M) (xQv R) := by
  unfold f244_4b at h
  refine xe_alr (ins := .aload_n 0) (len := 1) (i := 0) (by decide +kernel) rfl rfl rfl rfl rfl ?_
  refine xe_iconst (n := 0) (by decide +kernel) rfl ?_
  obtain ⟨_, e102, h⟩ := xbnd h
  obtain ⟨R103, e101, h⟩ := xbnd h
  refine xs_cv (i := 340) (j := 242) (ar := [xI (0)]) (rest := []) (r2 := xr_242) (by decide +kernel) (by decide +kernel) (by decide +kernel) xr_242_e rfl (by decide) (by decide) e102 ?_
  refine xc_i (k242 (d := d + 7)  (show xin (0) by decide) e101) rfl (fun hi104 => ?_)
  refine xe_ifeq (off := 30) (t := 39) (by decide +kernel) (by decide) rfl hi104 (fun c105 => ?_) (fun c105 => ?_)
  · rw [if_pos c105] at h
    cases h
    exact xe_ret_v (by decide +kernel) rfl ⟨rfl, rfl⟩
  · rw [if_neg c105] at h
    refine xe_alr (ins := .aload_n 0) (len := 1) (i := 0) (by decide +kernel) rfl rfl rfl rfl rfl ?_
    obtain ⟨v106, e107, h⟩ := xbnd h
    refine xs_gi (i := 105) (c := 15) (k := 3) (by decide +kernel) (by decide) (by decide +kernel) e107 rfl ?_
    refine xe_isr (ins := .istore_n 1) (len := 1) (i := 1) (by decide +kernel) rfl rfl rfl (by decide) (xk_k (show ¬ (0 : Nat) = 1 by decide) (Or.inr (xR_cat _)) xk_n) rfl ?_
    refine xe_alr (ins := .aload_n 0) (len := 1) (i := 0) (by decide +kernel) rfl rfl rfl rfl rfl ?_
    obtain ⟨_, e109, h⟩ := xbnd h
    obtain ⟨M110, e108, h⟩ := xbnd h
    refine xs_cv (i := 118) (j := 213) (ar := []) (rest := []) (r2 := xr_213) (by decide +kernel) (by decide +kernel) (by decide +kernel) xr_213_e rfl (by decide) (by decide) e109 ?_
    refine xc_v (k213 (d := d + 3)   e108) rfl ?_
    refine xe_alr (ins := .aload_n 0) (len := 1) (i := 0) (by decide +kernel) rfl rfl rfl rfl rfl ?_
    obtain ⟨_, e113, h⟩ := xbnd h
    obtain ⟨M114, e112, h⟩ := xbnd h
    refine xs_cv (i := 331) (j := 241) (ar := []) (rest := []) (r2 := xr_241) (by decide +kernel) (by decide +kernel) (by decide +kernel) xr_241_e rfl (by decide) (by decide) e113 ?_
    refine xc_v (k241 (d := d + 1) (fun he => hq243 (Nat.le_trans (by omega) he))  e112) rfl ?_
    refine xe_alr (ins := .aload_n 0) (len := 1) (i := 0) (by decide +kernel) rfl rfl rfl rfl rfl ?_
    obtain ⟨_, e117, h⟩ := xbnd h
    obtain ⟨M118, e116, h⟩ := xbnd h
    refine xs_cv (i := 337) (j := 245) (ar := []) (rest := []) (r2 := xr_245) (by decide +kernel) (by decide +kernel) (by decide +kernel) xr_245_e rfl (by decide) (by decide) e117 ?_
    refine xc_v (k245 (d := d + 0) (fun he => hq243 (Nat.le_trans (by omega) he))  e116) rfl ?_
    refine xe_alr (ins := .aload_n 0) (len := 1) (i := 0) (by decide +kernel) rfl rfl rfl rfl rfl ?_
    refine xe_iconst (n := 3) (by decide +kernel) rfl ?_
    refine xe_ldn (ins := .iload_n 1) (len := 1) (by decide +kernel) rfl rfl rfl rfl ?_
    refine xe_i2l (by decide +kernel) rfl (xq_gi_in e107) ?_
    obtain ⟨_, e121, h⟩ := xbnd h
    obtain ⟨M122, e120, h⟩ := xbnd h
    refine xs_cv (i := 324) (j := 240) (ar := [xZ (v106), xI (3)]) (rest := []) (r2 := xr_240) (by decide +kernel) (by decide +kernel) (by decide +kernel) xr_240_e rfl (by decide) (by decide) e121 ?_
    refine xc_v (k240 (d := d + 8)  (show xin (3) by decide) (xin_N (xq_gi_in e107)) e120) rfl ?_
    refine xe_goto (off := -32) (nx := 4) (by decide +kernel) (by decide) ?_
    refine xW_lv rfl (l := [(0, xR_ (x0))]) (xsb_of ⟨rfl, trivial⟩ (show [1, 0].Nodup by decide)) ?_
    exact hr4  h
def f244_4 (q243 : Nat → xj_M → Option (xj_M))  (f : Nat) : Nat → Nat → xj_M → Option (xj_M)
  | 0, _, _ => none
  | n + 1, x0, M => f244_4b q243  (f244_4 q243  f n) f x0 M
theorem k244_4 {d f : Nat} {q243 : Nat → xj_M → Option (xj_M)}  (hq243 : ∀ {e : Nat} {a0 : Nat} {M : xj_M} {R : xj_M}, d ≤ e → q243 a0 M = some R → xT e 243 [xR_ a0] M (xQv R))  : ∀ {n : Nat} {x0 : Nat} {M : xj_M} {R : xj_M}, f244_4 q243  f n x0 M = some R → xW (d + 10) (none, d + 10, none) xr_244 (4, [(0, xR_ x0)], [], M) (xQv R) := by
  intro n
  induction n with
  | zero => intros; rename_i h; cases h
  | succ n ih => intros; rename_i h; exact k244_4b hq243  ih  h
def f244 (q243 : Nat → xj_M → Option (xj_M)) (f : Nat) (a0 : Nat) (M : xj_M) : Option (xj_M) := ((xq_is 15 (a0) M).bind fun _ => ((f245 q243 f (a0) M).bind fun M126 => f244_4 q243  f f (a0) M126))
theorem k244 {d f : Nat} {q243 : Nat → xj_M → Option (xj_M)} (hq243 : ∀ {e : Nat} {a0 : Nat} {M : xj_M} {R : xj_M}, d ≤ e → q243 a0 M = some R → xT e 243 [xR_ a0] M (xQv R)) {a0 : Nat} {M : xj_M} {R : xj_M}  (h : f244 q243 f a0 M = some R) : xT (d + 11) 244 [xR_ a0] M (xQv R) := by
  refine xT_m xr_244_e (X := (none, d + 10, none)) rfl (xa_1 (xR_cat _) xa_n) (by decide) ?_
  unfold f244 at h
  refine xe_alr (ins := .aload_n 0) (len := 1) (i := 0) (by decide +kernel) rfl rfl rfl rfl rfl ?_
  obtain ⟨_, e125, h⟩ := xbnd h
  obtain ⟨M126, e124, h⟩ := xbnd h
  refine xs_cv (i := 337) (j := 245) (ar := []) (rest := []) (r2 := xr_245) (by decide +kernel) (by decide +kernel) (by decide +kernel) xr_245_e rfl (by decide) (by decide) e125 ?_
  refine xc_v (k245 (d := d + 0) (fun he => hq243 (Nat.le_trans (by omega) he))  e124) rfl ?_
  refine xW_lv rfl (l := [(0, xR_ (a0))]) (xsb_of ⟨rfl, trivial⟩ (show [0].Nodup by decide)) ?_
  exact k244_4 hq243   h
-- ChangeHouseModel.readAtom
def xr_249 : xj_mR := (15, yX15_readAtom, cX15_readAtom, 8, (Option.none : Option Jvm.ClassFile.FieldType), 4, false, (9, 65), (1, 12))
set_option maxRecDepth 20000 in
theorem xr_249_e : xj_row 249 = some xr_249 := rfl
def f249_146   (f : Nat)  (M : xj_M) : Option (xj_M) := (some M)
theorem k249_146 {d f : Nat}      {M : xj_M} {R : xj_M}  (h : f249_146   f  M = some R) : xW (d + 9) (none, d + 9, none) xr_249 (146, [], [], M) (xQv R) := by
  unfold f249_146 at h
  cases h
  exact xe_ret_v (by decide +kernel) rfl ⟨rfl, rfl⟩
def f249_111   (f : Nat) (x0 : Nat) (x1 : Int) (x5 : Int) (x6 : Int) (x7 : Int) (M : xj_M) : Option (xj_M) := ((xq_is 15 (x0) M).bind fun _ => ((f222  f (x0) (41) M).bind fun M103 => ((xq_gr 15 22 (x0) M103).bind fun v105 => ((xq_gr 14 29 (v105) M103).bind fun v107 => ((xq_si (v107) (x1) (x7) M103).bind fun M109 => ((xq_is 15 (x0) M109).bind fun _ => ((f211  f (x0) M109).bind fun R113 => (if ¬ (R113.1) = 0 then f249_146   f  R113.2 else ((xq_is 15 (x0) R113.2).bind fun _ => ((f229  f (x0) (x6) (x5) (x7) (4) R113.2).bind fun M118 => f249_146   f  M118))))))))))
theorem k249_111 {d f : Nat}     {x0 : Nat} {x1 : Int} {x5 : Int} {x6 : Int} {x7 : Int} {M : xj_M} {R : xj_M} (hx1 : xin x1) (hx5 : xin x5) (hx6 : xin x6) (hx7 : xin x7) (h : f249_111   f x0 x1 x5 x6 x7 M = some R) : xW (d + 9) (none, d + 9, none) xr_249 (111, [(0, xR_ x0), (1, xI x1), (5, xI x5), (6, xI x6), (7, xI x7)], [], M) (xQv R) := by
  unfold f249_111 at h
  refine xe_alr (ins := .aload_n 0) (len := 1) (i := 0) (by decide +kernel) rfl rfl rfl rfl rfl ?_
  refine xe_bipush (n := 41) (by decide +kernel) (by decide) rfl ?_
  obtain ⟨_, e102, h⟩ := xbnd h
  obtain ⟨M103, e101, h⟩ := xbnd h
  refine xs_cv (i := 248) (j := 222) (ar := [xI (41)]) (rest := []) (r2 := xr_222) (by decide +kernel) (by decide +kernel) (by decide +kernel) xr_222_e rfl (by decide) (by decide) e102 ?_
  refine xc_v (k222 (d := d + 1)  (show xin (41) by decide) e101) rfl ?_
  refine xe_alr (ins := .aload_n 0) (len := 1) (i := 0) (by decide +kernel) rfl rfl rfl rfl rfl ?_
  obtain ⟨v105, e106, h⟩ := xbnd h
  refine xs_gr (i := 197) (c := 15) (k := 22) (by decide +kernel) (by decide) (by decide +kernel) e106 rfl ?_
  obtain ⟨v107, e108, h⟩ := xbnd h
  refine xs_gr (i := 373) (c := 14) (k := 29) (by decide +kernel) (by decide) (by decide +kernel) e108 rfl ?_
  refine xe_ldn (ins := .iload_n 1) (len := 1) (by decide +kernel) rfl rfl rfl rfl ?_
  refine xe_ldn (ins := .iload 7) (len := 2) (by decide +kernel) rfl rfl rfl rfl ?_
  obtain ⟨M109, e110, h⟩ := xbnd h
  refine xs_iast (by decide +kernel) hx1 e110 rfl ?_
  refine xe_alr (ins := .aload_n 0) (len := 1) (i := 0) (by decide +kernel) rfl rfl rfl rfl rfl ?_
  obtain ⟨_, e112, h⟩ := xbnd h
  obtain ⟨R113, e111, h⟩ := xbnd h
  refine xs_cv (i := 28) (j := 211) (ar := []) (rest := []) (r2 := xr_211) (by decide +kernel) (by decide +kernel) (by decide +kernel) xr_211_e rfl (by decide) (by decide) e112 ?_
  refine xc_i (k211 (d := d + 8)   e111) rfl (fun hi114 => ?_)
  refine xe_ifne (off := 14) (t := 146) (by decide +kernel) (by decide) rfl hi114 (fun c115 => ?_) (fun c115 => ?_)
  · rw [if_pos c115] at h
    refine xW_lv rfl (l := []) (xsb_of trivial (show [0, 1, 5, 6, 7].Nodup by decide)) ?_
    exact k249_146    h
  · rw [if_neg c115] at h
    refine xe_alr (ins := .aload_n 0) (len := 1) (i := 0) (by decide +kernel) rfl rfl rfl rfl rfl ?_
    refine xe_ldn (ins := .iload 6) (len := 2) (by decide +kernel) rfl rfl rfl rfl ?_
    refine xe_ldn (ins := .iload 5) (len := 2) (by decide +kernel) rfl rfl rfl rfl ?_
    refine xe_ldn (ins := .iload 7) (len := 2) (by decide +kernel) rfl rfl rfl rfl ?_
    refine xe_iconst (n := 4) (by decide +kernel) rfl ?_
    obtain ⟨_, e117, h⟩ := xbnd h
    obtain ⟨M118, e116, h⟩ := xbnd h
    refine xs_cv (i := 255) (j := 229) (ar := [xI (4), xI (x7), xI (x5), xI (x6)]) (rest := []) (r2 := xr_229) (by decide +kernel) (by decide +kernel) (by decide +kernel) xr_229_e rfl (by decide) (by decide) e117 ?_
    refine xc_v (k229 (d := d + 8)  hx6 hx5 hx7 (show xin (4) by decide) e116) rfl ?_
    refine xW_lv rfl (l := []) (xsb_of trivial (show [0, 1, 5, 6, 7].Nodup by decide)) ?_
    exact k249_146    h
def f249_79b  (r79 : Nat → Int → Int → Int → Int → xj_M → Option (xj_M)) (f : Nat) (x0 : Nat) (x1 : Int) (x5 : Int) (x6 : Int) (x7 : Int) (M : xj_M) : Option (xj_M) := ((xq_is 15 (x0) M).bind fun _ => ((f220  f (x0) (44) M).bind fun R122 => (if (R122.1) = 0 then f249_111   f (x0) (x1) (x5) (x6) (x7) R122.2 else (if (4) ≤ (x7) then f249_111   f (x0) (x1) (x5) (x6) (x7) R122.2 else ((xq_is 15 (x0) R122.2).bind fun _ => ((f213  f (x0) R122.2).bind fun M128 => ((xq_is 15 (x0) M128).bind fun _ => ((f250  f (x0) (x1) (x7) M128).bind fun M132 => r79 (x0) (x1) (x5) (x6) (xwr ((x7) + (1))) M132))))))))
theorem k249_79b {d f : Nat}  {r79 : Nat → Int → Int → Int → Int → xj_M → Option (xj_M)}  (hr79 : ∀ {x0 : Nat} {x1 : Int} {x5 : Int} {x6 : Int} {x7 : Int} {M : xj_M} {R : xj_M}, xin x1 → xin x5 → xin x6 → xin x7 → r79 x0 x1 x5 x6 x7 M = some R → xW (d + 9) (none, d + 9, none) xr_249 (79, [(0, xR_ x0), (1, xI x1), (5, xI x5), (6, xI x6), (7, xI x7)], [], M) (xQv R)) {x0 : Nat} {x1 : Int} {x5 : Int} {x6 : Int} {x7 : Int} {M : xj_M} {R : xj_M} (hx1 : xin x1) (hx5 : xin x5) (hx6 : xin x6) (hx7 : xin x7) (h : f249_79b  r79 f x0 x1 x5 x6 x7 M = some R) : xW (d + 9) (none, d + 9, none) xr_249 (79, [(0, xR_ x0), (1, xI x1), (5, xI x5), (6, xI x6), (7, xI x7)], [], M) (xQv R) := by
  unfold f249_79b at h
  refine xe_alr (ins := .aload_n 0) (len := 1) (i := 0) (by decide +kernel) rfl rfl rfl rfl rfl ?_
  refine xe_bipush (n := 44) (by decide +kernel) (by decide) rfl ?_
  obtain ⟨_, e121, h⟩ := xbnd h
  obtain ⟨R122, e120, h⟩ := xbnd h
  refine xs_cv (i := 115) (j := 220) (ar := [xI (44)]) (rest := []) (r2 := xr_220) (by decide +kernel) (by decide +kernel) (by decide +kernel) xr_220_e rfl (by decide) (by decide) e121 ?_
  refine xc_i (k220 (d := d + 7)  (show xin (44) by decide) e120) rfl (fun hi123 => ?_)
  refine xe_ifeq (off := 26) (t := 111) (by decide +kernel) (by decide) rfl hi123 (fun c124 => ?_) (fun c124 => ?_)
  · rw [if_pos c124] at h
    refine xW_lv rfl (l := [(0, xR_ (x0)), (1, xI (x1)), (5, xI (x5)), (6, xI (x6)), (7, xI (x7))]) (xsb_of ⟨rfl, rfl, rfl, rfl, rfl, trivial⟩ (show [0, 1, 5, 6, 7].Nodup by decide)) ?_
    exact k249_111   hx1 hx5 hx6 hx7 h
  · rw [if_neg c124] at h
    refine xe_ldn (ins := .iload 7) (len := 2) (by decide +kernel) rfl rfl rfl rfl ?_
    refine xe_iconst (n := 4) (by decide +kernel) rfl ?_
    refine xe_icmpge (off := 20) (t := 111) (by decide +kernel) (by decide) rfl hx7 (show xin (4) by decide) (fun c125 => ?_) (fun c125 => ?_)
    · rw [if_pos c125] at h
      refine xW_lv rfl (l := [(0, xR_ (x0)), (1, xI (x1)), (5, xI (x5)), (6, xI (x6)), (7, xI (x7))]) (xsb_of ⟨rfl, rfl, rfl, rfl, rfl, trivial⟩ (show [0, 1, 5, 6, 7].Nodup by decide)) ?_
      exact k249_111   hx1 hx5 hx6 hx7 h
    · rw [if_neg c125] at h
      refine xe_alr (ins := .aload_n 0) (len := 1) (i := 0) (by decide +kernel) rfl rfl rfl rfl rfl ?_
      obtain ⟨_, e127, h⟩ := xbnd h
      obtain ⟨M128, e126, h⟩ := xbnd h
      refine xs_cv (i := 118) (j := 213) (ar := []) (rest := []) (r2 := xr_213) (by decide +kernel) (by decide +kernel) (by decide +kernel) xr_213_e rfl (by decide) (by decide) e127 ?_
      refine xc_v (k213 (d := d + 2)   e126) rfl ?_
      refine xe_alr (ins := .aload_n 0) (len := 1) (i := 0) (by decide +kernel) rfl rfl rfl rfl rfl ?_
      refine xe_ldn (ins := .iload_n 1) (len := 1) (by decide +kernel) rfl rfl rfl rfl ?_
      refine xe_ldn (ins := .iload 7) (len := 2) (by decide +kernel) rfl rfl rfl rfl ?_
      obtain ⟨_, e131, h⟩ := xbnd h
      obtain ⟨M132, e130, h⟩ := xbnd h
      refine xs_cv (i := 369) (j := 250) (ar := [xI (x7), xI (x1)]) (rest := []) (r2 := xr_250) (by decide +kernel) (by decide +kernel) (by decide +kernel) xr_250_e rfl (by decide) (by decide) e131 ?_
      refine xc_v (k250 (d := d + 0)  hx1 hx7 e130) rfl ?_
      refine xe_iincr (i := 7) (n := 1) (by decide +kernel) (by decide) rfl (xk_k (show ¬ (0 : Nat) = 7 by decide) (Or.inl (show ¬ (0 + 1 : Nat) = 7 by decide)) (xk_k (show ¬ (1 : Nat) = 7 by decide) (Or.inl (show ¬ (1 + 1 : Nat) = 7 by decide)) (xk_k (show ¬ (5 : Nat) = 7 by decide) (Or.inl (show ¬ (5 + 1 : Nat) = 7 by decide)) (xk_k (show ¬ (6 : Nat) = 7 by decide) (Or.inr (xI_cat _)) (xk_d rfl xk_n))))) rfl ?_
      refine xe_goto (off := -29) (nx := 79) (by decide +kernel) (by decide) ?_
      refine xW_lv rfl (l := [(0, xR_ (x0)), (1, xI (x1)), (5, xI (x5)), (6, xI (x6)), (7, xI (xwr ((x7) + (1))))]) (xsb_of ⟨rfl, rfl, rfl, rfl, rfl, trivial⟩ (show [7, 0, 1, 5, 6].Nodup by decide)) ?_
      exact hr79 hx1 hx5 hx6 (xin_wr _) h
def f249_79   (f : Nat) : Nat → Nat → Int → Int → Int → Int → xj_M → Option (xj_M)
  | 0, _, _, _, _, _, _ => none
  | n + 1, x0, x1, x5, x6, x7, M => f249_79b   (f249_79   f n) f x0 x1 x5 x6 x7 M
theorem k249_79 {d f : Nat}     : ∀ {n : Nat} {x0 : Nat} {x1 : Int} {x5 : Int} {x6 : Int} {x7 : Int} {M : xj_M} {R : xj_M}, xin x1 → xin x5 → xin x6 → xin x7 → f249_79   f n x0 x1 x5 x6 x7 M = some R → xW (d + 9) (none, d + 9, none) xr_249 (79, [(0, xR_ x0), (1, xI x1), (5, xI x5), (6, xI x6), (7, xI x7)], [], M) (xQv R) := by
  intro n
  induction n with
  | zero => intros; rename_i h; cases h
  | succ n ih => intros; rename_i h; exact k249_79b   ih (by assumption) (by assumption) (by assumption) (by assumption) h
def f249_48   (f : Nat) (x0 : Nat) (x1 : Int) (x5 : Int) (y0 : Int) (M : xj_M) : Option (xj_M) := ((xq_gr 15 22 (x0) M).bind fun v134 => ((xq_gr 14 28 (v134) M).bind fun v136 => ((xq_si (v136) (x1) (y0) M).bind fun M138 => ((xq_is 15 (x0) M138).bind fun _ => ((f222  f (x0) (40) M138).bind fun M142 => ((xq_is 15 (x0) M142).bind fun _ => ((f250  f (x0) (x1) (0) M142).bind fun M146 => f249_79   f f (x0) (x1) (x5) (y0) (xwr ((0) + (1))) M146)))))))
theorem k249_48 {d f : Nat}     {x0 : Nat} {x1 : Int} {x5 : Int} {y0 : Int} {M : xj_M} {R : xj_M} (hx1 : xin x1) (hx5 : xin x5) (hy0 : xin y0) (h : f249_48   f x0 x1 x5 y0 M = some R) : xW (d + 9) (none, d + 9, none) xr_249 (48, [(0, xR_ x0), (1, xI x1), (5, xI x5)], [xI y0], M) (xQv R) := by
  unfold f249_48 at h
  refine xe_isr (ins := .istore 6) (len := 2) (i := 6) (by decide +kernel) rfl rfl rfl (by decide) (xk_k (show ¬ (0 : Nat) = 6 by decide) (Or.inl (show ¬ (0 + 1 : Nat) = 6 by decide)) (xk_k (show ¬ (1 : Nat) = 6 by decide) (Or.inl (show ¬ (1 + 1 : Nat) = 6 by decide)) (xk_k (show ¬ (5 : Nat) = 6 by decide) (Or.inr (xI_cat _)) xk_n))) rfl ?_
  refine xe_alr (ins := .aload_n 0) (len := 1) (i := 0) (by decide +kernel) rfl rfl rfl rfl rfl ?_
  obtain ⟨v134, e135, h⟩ := xbnd h
  refine xs_gr (i := 197) (c := 15) (k := 22) (by decide +kernel) (by decide) (by decide +kernel) e135 rfl ?_
  obtain ⟨v136, e137, h⟩ := xbnd h
  refine xs_gr (i := 363) (c := 14) (k := 28) (by decide +kernel) (by decide) (by decide +kernel) e137 rfl ?_
  refine xe_ldn (ins := .iload_n 1) (len := 1) (by decide +kernel) rfl rfl rfl rfl ?_
  refine xe_ldn (ins := .iload 6) (len := 2) (by decide +kernel) rfl rfl rfl rfl ?_
  obtain ⟨M138, e139, h⟩ := xbnd h
  refine xs_iast (by decide +kernel) hx1 e139 rfl ?_
  refine xe_alr (ins := .aload_n 0) (len := 1) (i := 0) (by decide +kernel) rfl rfl rfl rfl rfl ?_
  refine xe_bipush (n := 40) (by decide +kernel) (by decide) rfl ?_
  obtain ⟨_, e141, h⟩ := xbnd h
  obtain ⟨M142, e140, h⟩ := xbnd h
  refine xs_cv (i := 248) (j := 222) (ar := [xI (40)]) (rest := []) (r2 := xr_222) (by decide +kernel) (by decide +kernel) (by decide +kernel) xr_222_e rfl (by decide) (by decide) e141 ?_
  refine xc_v (k222 (d := d + 1)  (show xin (40) by decide) e140) rfl ?_
  refine xe_iconst (n := 0) (by decide +kernel) rfl ?_
  refine xe_isr (ins := .istore 7) (len := 2) (i := 7) (by decide +kernel) rfl rfl rfl (by decide) (xk_k (show ¬ (6 : Nat) = 7 by decide) (Or.inr (xI_cat _)) (xk_k (show ¬ (0 : Nat) = 7 by decide) (Or.inl (show ¬ (0 + 1 : Nat) = 7 by decide)) (xk_k (show ¬ (1 : Nat) = 7 by decide) (Or.inl (show ¬ (1 + 1 : Nat) = 7 by decide)) (xk_k (show ¬ (5 : Nat) = 7 by decide) (Or.inl (show ¬ (5 + 1 : Nat) = 7 by decide)) xk_n)))) rfl ?_
  refine xe_alr (ins := .aload_n 0) (len := 1) (i := 0) (by decide +kernel) rfl rfl rfl rfl rfl ?_
  refine xe_ldn (ins := .iload_n 1) (len := 1) (by decide +kernel) rfl rfl rfl rfl ?_
  refine xe_iconst (n := 0) (by decide +kernel) rfl ?_
  obtain ⟨_, e145, h⟩ := xbnd h
  obtain ⟨M146, e144, h⟩ := xbnd h
  refine xs_cv (i := 369) (j := 250) (ar := [xI (0), xI (x1)]) (rest := []) (r2 := xr_250) (by decide +kernel) (by decide +kernel) (by decide +kernel) xr_250_e rfl (by decide) (by decide) e145 ?_
  refine xc_v (k250 (d := d + 0)  hx1 (show xin (0) by decide) e144) rfl ?_
  refine xe_iincr (i := 7) (n := 1) (by decide +kernel) (by decide) rfl (xk_d rfl (xk_k (show ¬ (6 : Nat) = 7 by decide) (Or.inr (xI_cat _)) (xk_k (show ¬ (0 : Nat) = 7 by decide) (Or.inl (show ¬ (0 + 1 : Nat) = 7 by decide)) (xk_k (show ¬ (1 : Nat) = 7 by decide) (Or.inl (show ¬ (1 + 1 : Nat) = 7 by decide)) (xk_k (show ¬ (5 : Nat) = 7 by decide) (Or.inl (show ¬ (5 + 1 : Nat) = 7 by decide)) xk_n))))) rfl ?_
  refine xW_lv rfl (l := [(0, xR_ (x0)), (1, xI (x1)), (5, xI (x5)), (6, xI (y0)), (7, xI (xwr ((0) + (1))))]) (xsb_of ⟨rfl, rfl, rfl, rfl, rfl, trivial⟩ (show [7, 6, 0, 1, 5].Nodup by decide)) ?_
  exact k249_79   hx1 hx5 hy0 (xin_wr _) h
def f249  (f : Nat) (a0 : Nat) (a1 : Int) (a2 : Int) (a3 : Int) (a4 : Int) (M : xj_M) : Option (xj_M) := ((xq_gr 15 22 (a0) M).bind fun v148 => ((xq_gr 14 27 (v148) M).bind fun v150 => ((xq_si (v150) (a1) (a2) M).bind fun M152 => ((xq_gi 15 23 (a0) M152).bind fun v154 => (if ¬ (v154) = (24) then ((xq_is 15 (a0) M152).bind fun _ => ((f211  f (a0) M152).bind fun R159 => (if (R159.1) = 0 then ((xq_is 15 (a0) R159.2).bind fun _ => ((f230  f (a0) (a3) (a4) R159.2).bind fun R164 => f249_48   f (a0) (a1) (a4) (R164.1) R164.2)) else f249_48   f (a0) (a1) (a4) (-1) R159.2))) else ((xq_gr 15 22 (a0) M152).bind fun v166 => ((xq_is 14 (v166) M152).bind fun _ => ((f205  f (v166) (a3) M152).bind fun R170 => f249_48   f (a0) (a1) (a4) (R170.1) R170.2))))))))
theorem k249 {d f : Nat}   {a0 : Nat} {a1 : Int} {a2 : Int} {a3 : Int} {a4 : Int} {M : xj_M} {R : xj_M} (ha1 : xin a1) (ha2 : xin a2) (ha3 : xiN a3) (ha4 : xin a4) (h : f249  f a0 a1 a2 a3 a4 M = some R) : xT (d + 10) 249 [xR_ a0, xI a1, xI a2, xZ a3, xI a4] M (xQv R) := by
  refine xT_m xr_249_e (X := (none, d + 9, none)) rfl (xa_1 (xR_cat _) (xa_1 (xI_cat _) (xa_1 (xI_cat _) (xa_2 (xZ_cat _) (xa_1 (xI_cat _) xa_n))))) (by decide) ?_
  unfold f249 at h
  refine xe_alr (ins := .aload_n 0) (len := 1) (i := 0) (by decide +kernel) rfl rfl rfl rfl rfl ?_
  obtain ⟨v148, e149, h⟩ := xbnd h
  refine xs_gr (i := 197) (c := 15) (k := 22) (by decide +kernel) (by decide) (by decide +kernel) e149 rfl ?_
  obtain ⟨v150, e151, h⟩ := xbnd h
  refine xs_gr (i := 357) (c := 14) (k := 27) (by decide +kernel) (by decide) (by decide +kernel) e151 rfl ?_
  refine xe_ldn (ins := .iload_n 1) (len := 1) (by decide +kernel) rfl rfl rfl rfl ?_
  refine xe_ldn (ins := .iload_n 2) (len := 1) (by decide +kernel) rfl rfl rfl rfl ?_
  obtain ⟨M152, e153, h⟩ := xbnd h
  refine xs_iast (by decide +kernel) ha1 e153 rfl ?_
  refine xe_alr (ins := .aload_n 0) (len := 1) (i := 0) (by decide +kernel) rfl rfl rfl rfl rfl ?_
  obtain ⟨v154, e155, h⟩ := xbnd h
  refine xs_gi (i := 259) (c := 15) (k := 23) (by decide +kernel) (by decide) (by decide +kernel) e155 rfl ?_
  refine xe_bipush (n := 24) (by decide +kernel) (by decide) rfl ?_
  refine xe_icmpne (off := 14) (t := 30) (by decide +kernel) (by decide) rfl (xq_gi_in e155) (show xin (24) by decide) (fun c156 => ?_) (fun c156 => ?_)
  · rw [if_pos c156] at h
    refine xe_alr (ins := .aload_n 0) (len := 1) (i := 0) (by decide +kernel) rfl rfl rfl rfl rfl ?_
    obtain ⟨_, e158, h⟩ := xbnd h
    obtain ⟨R159, e157, h⟩ := xbnd h
    refine xs_cv (i := 28) (j := 211) (ar := []) (rest := []) (r2 := xr_211) (by decide +kernel) (by decide +kernel) (by decide +kernel) xr_211_e rfl (by decide) (by decide) e158 ?_
    refine xc_i (k211 (d := d + 8)   e157) rfl (fun hi160 => ?_)
    refine xe_ifeq (off := 7) (t := 41) (by decide +kernel) (by decide) rfl hi160 (fun c161 => ?_) (fun c161 => ?_)
    · rw [if_pos c161] at h
      refine xe_alr (ins := .aload_n 0) (len := 1) (i := 0) (by decide +kernel) rfl rfl rfl rfl rfl ?_
      refine xe_ldn (ins := .lload_n 3) (len := 1) (by decide +kernel) rfl rfl rfl rfl ?_
      refine xe_ldn (ins := .iload 5) (len := 2) (by decide +kernel) rfl rfl rfl rfl ?_
      obtain ⟨_, e163, h⟩ := xbnd h
      obtain ⟨R164, e162, h⟩ := xbnd h
      refine xs_cv (i := 241) (j := 230) (ar := [xI (a4), xZ (a3)]) (rest := []) (r2 := xr_230) (by decide +kernel) (by decide +kernel) (by decide +kernel) xr_230_e rfl (by decide) (by decide) e163 ?_
      refine xc_i (k230 (d := d + 7)  ha3 ha4 e162) rfl (fun hi165 => ?_)
      refine xW_lv rfl (l := [(0, xR_ (a0)), (1, xI (a1)), (5, xI (a4))]) (xsb_of ⟨rfl, rfl, rfl, trivial⟩ (show [0, 1, 2, 3, 5].Nodup by decide)) ?_
      exact k249_48   ha1 ha4 hi165 h
    · rw [if_neg c161] at h
      refine xe_iconst (n := -1) (by decide +kernel) rfl ?_
      refine xe_goto (off := 10) (nx := 48) (by decide +kernel) (by decide) ?_
      refine xW_lv rfl (l := [(0, xR_ (a0)), (1, xI (a1)), (5, xI (a4))]) (xsb_of ⟨rfl, rfl, rfl, trivial⟩ (show [0, 1, 2, 3, 5].Nodup by decide)) ?_
      exact k249_48   ha1 ha4 (show xin (-1) by decide) h
  · rw [if_neg c156] at h
    refine xe_alr (ins := .aload_n 0) (len := 1) (i := 0) (by decide +kernel) rfl rfl rfl rfl rfl ?_
    obtain ⟨v166, e167, h⟩ := xbnd h
    refine xs_gr (i := 197) (c := 15) (k := 22) (by decide +kernel) (by decide) (by decide +kernel) e167 rfl ?_
    refine xe_ldn (ins := .lload_n 3) (len := 1) (by decide +kernel) rfl rfl rfl rfl ?_
    obtain ⟨_, e169, h⟩ := xbnd h
    obtain ⟨R170, e168, h⟩ := xbnd h
    refine xs_cv (i := 213) (j := 205) (ar := [xZ (a3)]) (rest := []) (r2 := xr_205) (by decide +kernel) (by decide +kernel) (by decide +kernel) xr_205_e rfl (by decide) (by decide) e169 ?_
    refine xc_i (k205 (d := d + 8)  ha3 e168) rfl (fun hi171 => ?_)
    refine xe_goto (off := 21) (nx := 48) (by decide +kernel) (by decide) ?_
    refine xW_lv rfl (l := [(0, xR_ (a0)), (1, xI (a1)), (5, xI (a4))]) (xsb_of ⟨rfl, rfl, rfl, trivial⟩ (show [0, 1, 2, 3, 5].Nodup by decide)) ?_
    exact k249_48   ha1 ha4 hi171 h
-- ChangeHouseModel.operand
def xr_338 : xj_mR := (15, yX15_operand, cX15_operand, 2, (Option.some Jvm.ClassFile.FieldType.int), 0, false, (10, 109), (1, 12))
set_option maxRecDepth 20000 in
theorem xr_338_e : xj_row 338 = some xr_338 := rfl
def f338_116 (q334 : Nat → xj_M → Option (Int × xj_M))  (f : Nat) (x0 : Nat) (M : xj_M) : Option (Int × xj_M) := ((xq_gl 15 9 (x0) M).bind fun v101 => ((xq_is 15 (x0) M).bind fun _ => ((f340  f (x0) (v101) M).bind fun R105 => (some (R105.1, R105.2)))))
theorem k338_116 {d f : Nat} {q334 : Nat → xj_M → Option (Int × xj_M)}  (hq334 : ∀ {e : Nat} {a0 : Nat} {M : xj_M} {R : Int × xj_M}, d ≤ e → q334 a0 M = some R → xT e 334 [xR_ a0] M (xQi R))  {x0 : Nat} {M : xj_M} {R : Int × xj_M}  (h : f338_116 q334  f x0 M = some R) : xW (d + 10) (none, d + 10, none) xr_338 (116, [(0, xR_ x0)], [], M) (xQi R) := by
  unfold f338_116 at h
  refine xe_alr (ins := .aload_n 0) (len := 1) (i := 0) (by decide +kernel) rfl rfl rfl rfl rfl ?_
  refine xe_alr (ins := .aload_n 0) (len := 1) (i := 0) (by decide +kernel) rfl rfl rfl rfl rfl ?_
  obtain ⟨v101, e102, h⟩ := xbnd h
  refine xs_gl (i := 71) (c := 15) (k := 9) (by decide +kernel) (by decide) (by decide +kernel) e102 rfl ?_
  obtain ⟨_, e104, h⟩ := xbnd h
  obtain ⟨R105, e103, h⟩ := xbnd h
  refine xs_cv (i := 992) (j := 340) (ar := [xZ (v101)]) (rest := []) (r2 := xr_340) (by decide +kernel) (by decide +kernel) (by decide +kernel) xr_340_e rfl (by decide) (by decide) e104 ?_
  refine xc_i (k340 (d := d + 0)  (xq_gl_in e102) e103) rfl (fun hi106 => ?_)
  cases h
  exact xe_ret_i (ty := .int) (by decide +kernel) rfl rfl ⟨rfl, rfl, hi106⟩
def f338_148 (q334 : Nat → xj_M → Option (Int × xj_M))  (f : Nat) (y0 : Int) (M : xj_M) : Option (Int × xj_M) := (some (y0, M))
theorem k338_148 {d f : Nat} {q334 : Nat → xj_M → Option (Int × xj_M)}  (hq334 : ∀ {e : Nat} {a0 : Nat} {M : xj_M} {R : Int × xj_M}, d ≤ e → q334 a0 M = some R → xT e 334 [xR_ a0] M (xQi R))  {y0 : Int} {M : xj_M} {R : Int × xj_M} (hy0 : xin y0) (h : f338_148 q334  f y0 M = some R) : xW (d + 10) (none, d + 10, none) xr_338 (148, [], [xI y0], M) (xQi R) := by
  unfold f338_148 at h
  cases h
  exact xe_ret_i (ty := .int) (by decide +kernel) rfl rfl ⟨rfl, rfl, hy0⟩
def f338 (q334 : Nat → xj_M → Option (Int × xj_M)) (f : Nat) (a0 : Nat) (M : xj_M) : Option (Int × xj_M) := ((xq_is 15 (a0) M).bind fun _ => ((f211  f (a0) M).bind fun R109 => (if (R109.1) = 0 then ((xq_is 15 (a0) R109.2).bind fun _ => ((f221  f (a0) (3) R109.2).bind fun R114 => (if (R114.1) = 0 then ((xq_is 15 (a0) R114.2).bind fun _ => ((f220  f (a0) (40) R114.2).bind fun R119 => (if (R119.1) = 0 then ((xq_gl 15 20 (a0) R119.2).bind fun v122 => ((xq_is 15 (a0) R119.2).bind fun _ => ((f225  f (a0) (v122) R119.2).bind fun R126 => (if (R126.1) = 0 then ((xq_gl 15 17 (a0) R126.2).bind fun v129 => ((xq_is 15 (a0) R126.2).bind fun _ => ((f225  f (a0) (v129) R126.2).bind fun R133 => (if ¬ (R133.1) = 0 then f338_116 q334  f (a0) R133.2 else ((xq_gl 15 16 (a0) R133.2).bind fun v136 => ((xq_is 15 (a0) R133.2).bind fun _ => ((f225  f (a0) (v136) R133.2).bind fun R140 => (if ¬ (R140.1) = 0 then f338_116 q334  f (a0) R140.2 else ((xq_gl 15 18 (a0) R140.2).bind fun v143 => ((xq_is 15 (a0) R140.2).bind fun _ => ((f225  f (a0) (v143) R140.2).bind fun R147 => (if ¬ (R147.1) = 0 then f338_116 q334  f (a0) R147.2 else ((xq_gl 15 19 (a0) R147.2).bind fun v150 => ((xq_is 15 (a0) R147.2).bind fun _ => ((f225  f (a0) (v150) R147.2).bind fun R154 => (if (R154.1) = 0 then ((xq_is 15 (a0) R154.2).bind fun _ => ((f227  f (a0) R154.2).bind fun R159 => (if (R159.1) = 0 then f338_148 q334  f (0) R159.2 else ((xq_gl 15 21 (a0) R159.2).bind fun v162 => ((xq_is 15 (a0) R159.2).bind fun _ => ((f331  f (a0) (1) (0) (0) (0) (v162) R159.2).bind fun R166 => f338_148 q334  f (R166.1) R166.2)))))) else f338_116 q334  f (a0) R154.2)))))))))))))))) else ((xq_is 15 (a0) R126.2).bind fun _ => ((f339 q334 f (a0) R126.2).bind fun R170 => (some (R170.1, R170.2)))))))) else ((xq_is 15 (a0) R119.2).bind fun _ => ((f336  f (a0) R119.2).bind fun M174 => ((xq_is 15 (a0) M174).bind fun _ => ((q334 (a0) M174).bind fun R178 => ((xq_is 15 (a0) R178.2).bind fun _ => ((f337  f (a0) R178.2).bind fun M182 => (some (R178.1, M182))))))))))) else ((xq_is 15 (a0) R114.2).bind fun _ => ((f332  f (a0) R114.2).bind fun R186 => ((xq_is 15 (a0) R186.2).bind fun _ => ((f331  f (a0) (2) (R186.1) (0) (0) (0) R186.2).bind fun R190 => (some (R190.1, R190.2))))))))) else (some (0, R109.2)))))
theorem k338 {d f : Nat} {q334 : Nat → xj_M → Option (Int × xj_M)} (hq334 : ∀ {e : Nat} {a0 : Nat} {M : xj_M} {R : Int × xj_M}, d ≤ e → q334 a0 M = some R → xT e 334 [xR_ a0] M (xQi R)) {a0 : Nat} {M : xj_M} {R : Int × xj_M}  (h : f338 q334 f a0 M = some R) : xT (d + 11) 338 [xR_ a0] M (xQi R) := by
  refine xT_m xr_338_e (X := (none, d + 10, none)) rfl (xa_1 (xR_cat _) xa_n) (by decide) ?_
  unfold f338 at h
  refine xe_alr (ins := .aload_n 0) (len := 1) (i := 0) (by decide +kernel) rfl rfl rfl rfl rfl ?_
  obtain ⟨_, e108, h⟩ := xbnd h
  obtain ⟨R109, e107, h⟩ := xbnd h
  refine xs_cv (i := 28) (j := 211) (ar := []) (rest := []) (r2 := xr_211) (by decide +kernel) (by decide +kernel) (by decide +kernel) xr_211_e rfl (by decide) (by decide) e108 ?_
  refine xc_i (k211 (d := d + 9)   e107) rfl (fun hi110 => ?_)
  refine xe_ifeq (off := 5) (t := 9) (by decide +kernel) (by decide) rfl hi110 (fun c111 => ?_) (fun c111 => ?_)
  · rw [if_pos c111] at h
    refine xe_alr (ins := .aload_n 0) (len := 1) (i := 0) (by decide +kernel) rfl rfl rfl rfl rfl ?_
    refine xe_iconst (n := 3) (by decide +kernel) rfl ?_
    obtain ⟨_, e113, h⟩ := xbnd h
    obtain ⟨R114, e112, h⟩ := xbnd h
    refine xs_cv (i := 153) (j := 221) (ar := [xI (3)]) (rest := []) (r2 := xr_221) (by decide +kernel) (by decide +kernel) (by decide +kernel) xr_221_e rfl (by decide) (by decide) e113 ?_
    refine xc_i (k221 (d := d + 8)  (show xin (3) by decide) e112) rfl (fun hi115 => ?_)
    refine xe_ifeq (off := 18) (t := 32) (by decide +kernel) (by decide) rfl hi115 (fun c116 => ?_) (fun c116 => ?_)
    · rw [if_pos c116] at h
      refine xe_alr (ins := .aload_n 0) (len := 1) (i := 0) (by decide +kernel) rfl rfl rfl rfl rfl ?_
      refine xe_bipush (n := 40) (by decide +kernel) (by decide) rfl ?_
      obtain ⟨_, e118, h⟩ := xbnd h
      obtain ⟨R119, e117, h⟩ := xbnd h
      refine xs_cv (i := 115) (j := 220) (ar := [xI (40)]) (rest := []) (r2 := xr_220) (by decide +kernel) (by decide +kernel) (by decide +kernel) xr_220_e rfl (by decide) (by decide) e118 ?_
      refine xc_i (k220 (d := d + 8)  (show xin (40) by decide) e117) rfl (fun hi120 => ?_)
      refine xe_ifeq (off := 18) (t := 56) (by decide +kernel) (by decide) rfl hi120 (fun c121 => ?_) (fun c121 => ?_)
      · rw [if_pos c121] at h
        refine xe_alr (ins := .aload_n 0) (len := 1) (i := 0) (by decide +kernel) rfl rfl rfl rfl rfl ?_
        refine xe_alr (ins := .aload_n 0) (len := 1) (i := 0) (by decide +kernel) rfl rfl rfl rfl rfl ?_
        obtain ⟨v122, e123, h⟩ := xbnd h
        refine xs_gl (i := 986) (c := 15) (k := 20) (by decide +kernel) (by decide) (by decide +kernel) e123 rfl ?_
        obtain ⟨_, e125, h⟩ := xbnd h
        obtain ⟨R126, e124, h⟩ := xbnd h
        refine xs_cv (i := 229) (j := 225) (ar := [xZ (v122)]) (rest := []) (r2 := xr_225) (by decide +kernel) (by decide +kernel) (by decide +kernel) xr_225_e rfl (by decide) (by decide) e125 ?_
        refine xc_i (k225 (d := d + 7)  (xq_gl_in e123) e124) rfl (fun hi127 => ?_)
        refine xe_ifeq (off := 8) (t := 72) (by decide +kernel) (by decide) rfl hi127 (fun c128 => ?_) (fun c128 => ?_)
        · rw [if_pos c128] at h
          refine xe_alr (ins := .aload_n 0) (len := 1) (i := 0) (by decide +kernel) rfl rfl rfl rfl rfl ?_
          refine xe_alr (ins := .aload_n 0) (len := 1) (i := 0) (by decide +kernel) rfl rfl rfl rfl rfl ?_
          obtain ⟨v129, e130, h⟩ := xbnd h
          refine xs_gl (i := 144) (c := 15) (k := 17) (by decide +kernel) (by decide) (by decide +kernel) e130 rfl ?_
          obtain ⟨_, e132, h⟩ := xbnd h
          obtain ⟨R133, e131, h⟩ := xbnd h
          refine xs_cv (i := 229) (j := 225) (ar := [xZ (v129)]) (rest := []) (r2 := xr_225) (by decide +kernel) (by decide +kernel) (by decide +kernel) xr_225_e rfl (by decide) (by decide) e132 ?_
          refine xc_i (k225 (d := d + 7)  (xq_gl_in e130) e131) rfl (fun hi134 => ?_)
          refine xe_ifne (off := 36) (t := 116) (by decide +kernel) (by decide) rfl hi134 (fun c135 => ?_) (fun c135 => ?_)
          · rw [if_pos c135] at h
            refine xW_lv rfl (l := [(0, xR_ (a0))]) (xsb_of ⟨rfl, trivial⟩ (show [0].Nodup by decide)) ?_
            exact k338_116 hq334   h
          · rw [if_neg c135] at h
            refine xe_alr (ins := .aload_n 0) (len := 1) (i := 0) (by decide +kernel) rfl rfl rfl rfl rfl ?_
            refine xe_alr (ins := .aload_n 0) (len := 1) (i := 0) (by decide +kernel) rfl rfl rfl rfl rfl ?_
            obtain ⟨v136, e137, h⟩ := xbnd h
            refine xs_gl (i := 141) (c := 15) (k := 16) (by decide +kernel) (by decide) (by decide +kernel) e137 rfl ?_
            obtain ⟨_, e139, h⟩ := xbnd h
            obtain ⟨R140, e138, h⟩ := xbnd h
            refine xs_cv (i := 229) (j := 225) (ar := [xZ (v136)]) (rest := []) (r2 := xr_225) (by decide +kernel) (by decide +kernel) (by decide +kernel) xr_225_e rfl (by decide) (by decide) e139 ?_
            refine xc_i (k225 (d := d + 7)  (xq_gl_in e137) e138) rfl (fun hi141 => ?_)
            refine xe_ifne (off := 25) (t := 116) (by decide +kernel) (by decide) rfl hi141 (fun c142 => ?_) (fun c142 => ?_)
            · rw [if_pos c142] at h
              refine xW_lv rfl (l := [(0, xR_ (a0))]) (xsb_of ⟨rfl, trivial⟩ (show [0].Nodup by decide)) ?_
              exact k338_116 hq334   h
            · rw [if_neg c142] at h
              refine xe_alr (ins := .aload_n 0) (len := 1) (i := 0) (by decide +kernel) rfl rfl rfl rfl rfl ?_
              refine xe_alr (ins := .aload_n 0) (len := 1) (i := 0) (by decide +kernel) rfl rfl rfl rfl rfl ?_
              obtain ⟨v143, e144, h⟩ := xbnd h
              refine xs_gl (i := 147) (c := 15) (k := 18) (by decide +kernel) (by decide) (by decide +kernel) e144 rfl ?_
              obtain ⟨_, e146, h⟩ := xbnd h
              obtain ⟨R147, e145, h⟩ := xbnd h
              refine xs_cv (i := 229) (j := 225) (ar := [xZ (v143)]) (rest := []) (r2 := xr_225) (by decide +kernel) (by decide +kernel) (by decide +kernel) xr_225_e rfl (by decide) (by decide) e146 ?_
              refine xc_i (k225 (d := d + 7)  (xq_gl_in e144) e145) rfl (fun hi148 => ?_)
              refine xe_ifne (off := 14) (t := 116) (by decide +kernel) (by decide) rfl hi148 (fun c149 => ?_) (fun c149 => ?_)
              · rw [if_pos c149] at h
                refine xW_lv rfl (l := [(0, xR_ (a0))]) (xsb_of ⟨rfl, trivial⟩ (show [0].Nodup by decide)) ?_
                exact k338_116 hq334   h
              · rw [if_neg c149] at h
                refine xe_alr (ins := .aload_n 0) (len := 1) (i := 0) (by decide +kernel) rfl rfl rfl rfl rfl ?_
                refine xe_alr (ins := .aload_n 0) (len := 1) (i := 0) (by decide +kernel) rfl rfl rfl rfl rfl ?_
                obtain ⟨v150, e151, h⟩ := xbnd h
                refine xs_gl (i := 150) (c := 15) (k := 19) (by decide +kernel) (by decide) (by decide +kernel) e151 rfl ?_
                obtain ⟨_, e153, h⟩ := xbnd h
                obtain ⟨R154, e152, h⟩ := xbnd h
                refine xs_cv (i := 229) (j := 225) (ar := [xZ (v150)]) (rest := []) (r2 := xr_225) (by decide +kernel) (by decide +kernel) (by decide +kernel) xr_225_e rfl (by decide) (by decide) e153 ?_
                refine xc_i (k225 (d := d + 7)  (xq_gl_in e151) e152) rfl (fun hi155 => ?_)
                refine xe_ifeq (off := 12) (t := 125) (by decide +kernel) (by decide) rfl hi155 (fun c156 => ?_) (fun c156 => ?_)
                · rw [if_pos c156] at h
                  refine xe_alr (ins := .aload_n 0) (len := 1) (i := 0) (by decide +kernel) rfl rfl rfl rfl rfl ?_
                  obtain ⟨_, e158, h⟩ := xbnd h
                  obtain ⟨R159, e157, h⟩ := xbnd h
                  refine xs_cv (i := 328) (j := 227) (ar := []) (rest := []) (r2 := xr_227) (by decide +kernel) (by decide +kernel) (by decide +kernel) xr_227_e rfl (by decide) (by decide) e158 ?_
                  refine xc_i (k227 (d := d + 2)   e157) rfl (fun hi160 => ?_)
                  refine xe_ifeq (off := 18) (t := 147) (by decide +kernel) (by decide) rfl hi160 (fun c161 => ?_) (fun c161 => ?_)
                  · rw [if_pos c161] at h
                    refine xe_iconst (n := 0) (by decide +kernel) rfl ?_
                    refine xW_lv rfl (l := []) (xsb_of trivial (show [0].Nodup by decide)) ?_
                    exact k338_148 hq334  (show xin (0) by decide) h
                  · rw [if_neg c161] at h
                    refine xe_alr (ins := .aload_n 0) (len := 1) (i := 0) (by decide +kernel) rfl rfl rfl rfl rfl ?_
                    refine xe_iconst (n := 1) (by decide +kernel) rfl ?_
                    refine xe_iconst (n := 0) (by decide +kernel) rfl ?_
                    refine xe_iconst (n := 0) (by decide +kernel) rfl ?_
                    refine xe_iconst (n := 0) (by decide +kernel) rfl ?_
                    refine xe_alr (ins := .aload_n 0) (len := 1) (i := 0) (by decide +kernel) rfl rfl rfl rfl rfl ?_
                    obtain ⟨v162, e163, h⟩ := xbnd h
                    refine xs_gl (i := 160) (c := 15) (k := 21) (by decide +kernel) (by decide) (by decide +kernel) e163 rfl ?_
                    obtain ⟨_, e165, h⟩ := xbnd h
                    obtain ⟨R166, e164, h⟩ := xbnd h
                    refine xs_cv (i := 973) (j := 331) (ar := [xZ (v162), xI (0), xI (0), xI (0), xI (1)]) (rest := []) (r2 := xr_331) (by decide +kernel) (by decide +kernel) (by decide +kernel) xr_331_e rfl (by decide) (by decide) e165 ?_
                    refine xc_i (k331 (d := d + 9)  (show xin (1) by decide) (show xin (0) by decide) (show xin (0) by decide) (show xin (0) by decide) (xq_gl_in e163) e164) rfl (fun hi167 => ?_)
                    refine xe_goto (off := 4) (nx := 148) (by decide +kernel) (by decide) ?_
                    refine xW_lv rfl (l := []) (xsb_of trivial (show [0].Nodup by decide)) ?_
                    exact k338_148 hq334  hi167 h
                · rw [if_neg c156] at h
                  refine xW_lv rfl (l := [(0, xR_ (a0))]) (xsb_of ⟨rfl, trivial⟩ (show [0].Nodup by decide)) ?_
                  exact k338_116 hq334   h
        · rw [if_neg c128] at h
          refine xe_alr (ins := .aload_n 0) (len := 1) (i := 0) (by decide +kernel) rfl rfl rfl rfl rfl ?_
          obtain ⟨_, e169, h⟩ := xbnd h
          obtain ⟨R170, e168, h⟩ := xbnd h
          refine xs_cv (i := 989) (j := 339) (ar := []) (rest := []) (r2 := xr_339) (by decide +kernel) (by decide +kernel) (by decide +kernel) xr_339_e rfl (by decide) (by decide) e169 ?_
          refine xc_i (k339 (d := d + 0) (fun he => hq334 (Nat.le_trans (by omega) he))  e168) rfl (fun hi171 => ?_)
          cases h
          exact xe_ret_i (ty := .int) (by decide +kernel) rfl rfl ⟨rfl, rfl, hi171⟩
      · rw [if_neg c121] at h
        refine xe_alr (ins := .aload_n 0) (len := 1) (i := 0) (by decide +kernel) rfl rfl rfl rfl rfl ?_
        obtain ⟨_, e173, h⟩ := xbnd h
        obtain ⟨M174, e172, h⟩ := xbnd h
        refine xs_cv (i := 980) (j := 336) (ar := []) (rest := []) (r2 := xr_336) (by decide +kernel) (by decide +kernel) (by decide +kernel) xr_336_e rfl (by decide) (by decide) e173 ?_
        refine xc_v (k336 (d := d + 1)   e172) rfl ?_
        refine xe_alr (ins := .aload_n 0) (len := 1) (i := 0) (by decide +kernel) rfl rfl rfl rfl rfl ?_
        obtain ⟨_, e177, h⟩ := xbnd h
        obtain ⟨R178, e176, h⟩ := xbnd h
        refine xs_cv (i := 967) (j := 334) (ar := []) (rest := []) (r2 := xr_334) (by decide +kernel) (by decide +kernel) (by decide +kernel) xr_334_e rfl (by decide) (by decide) e177 ?_
        refine xc_i (hq334 (by omega)  e176) rfl (fun hi179 => ?_)
        refine xe_isr (ins := .istore_n 1) (len := 1) (i := 1) (by decide +kernel) rfl rfl rfl (by decide) (xk_k (show ¬ (0 : Nat) = 1 by decide) (Or.inr (xR_cat _)) xk_n) rfl ?_
        refine xe_alr (ins := .aload_n 0) (len := 1) (i := 0) (by decide +kernel) rfl rfl rfl rfl rfl ?_
        obtain ⟨_, e181, h⟩ := xbnd h
        obtain ⟨M182, e180, h⟩ := xbnd h
        refine xs_cv (i := 983) (j := 337) (ar := []) (rest := []) (r2 := xr_337) (by decide +kernel) (by decide +kernel) (by decide +kernel) xr_337_e rfl (by decide) (by decide) e181 ?_
        refine xc_v (k337 (d := d + 1)   e180) rfl ?_
        refine xe_ldn (ins := .iload_n 1) (len := 1) (by decide +kernel) rfl rfl rfl rfl ?_
        cases h
        exact xe_ret_i (ty := .int) (by decide +kernel) rfl rfl ⟨rfl, rfl, hi179⟩
    · rw [if_neg c116] at h
      refine xe_alr (ins := .aload_n 0) (len := 1) (i := 0) (by decide +kernel) rfl rfl rfl rfl rfl ?_
      obtain ⟨_, e185, h⟩ := xbnd h
      obtain ⟨R186, e184, h⟩ := xbnd h
      refine xs_cv (i := 961) (j := 332) (ar := []) (rest := []) (r2 := xr_332) (by decide +kernel) (by decide +kernel) (by decide +kernel) xr_332_e rfl (by decide) (by decide) e185 ?_
      refine xc_i (k332 (d := d + 2)   e184) rfl (fun hi187 => ?_)
      refine xe_isr (ins := .istore_n 1) (len := 1) (i := 1) (by decide +kernel) rfl rfl rfl (by decide) (xk_k (show ¬ (0 : Nat) = 1 by decide) (Or.inr (xR_cat _)) xk_n) rfl ?_
      refine xe_alr (ins := .aload_n 0) (len := 1) (i := 0) (by decide +kernel) rfl rfl rfl rfl rfl ?_
      refine xe_iconst (n := 2) (by decide +kernel) rfl ?_
      refine xe_ldn (ins := .iload_n 1) (len := 1) (by decide +kernel) rfl rfl rfl rfl ?_
      refine xe_iconst (n := 0) (by decide +kernel) rfl ?_
      refine xe_iconst (n := 0) (by decide +kernel) rfl ?_
      refine xe_lconst (n := 0) (z := 0) (by decide +kernel) rfl rfl ?_
      obtain ⟨_, e189, h⟩ := xbnd h
      obtain ⟨R190, e188, h⟩ := xbnd h
      refine xs_cv (i := 973) (j := 331) (ar := [xZ (0), xI (0), xI (0), xI (R186.1), xI (2)]) (rest := []) (r2 := xr_331) (by decide +kernel) (by decide +kernel) (by decide +kernel) xr_331_e rfl (by decide) (by decide) e189 ?_
      refine xc_i (k331 (d := d + 9)  (show xin (2) by decide) hi187 (show xin (0) by decide) (show xin (0) by decide) (show xiN (0) by decide) e188) rfl (fun hi191 => ?_)
      cases h
      exact xe_ret_i (ty := .int) (by decide +kernel) rfl rfl ⟨rfl, rfl, hi191⟩
  · rw [if_neg c111] at h
    refine xe_iconst (n := 0) (by decide +kernel) rfl ?_
    cases h
    exact xe_ret_i (ty := .int) (by decide +kernel) rfl rfl ⟨rfl, rfl, (show xin (0) by decide)⟩
