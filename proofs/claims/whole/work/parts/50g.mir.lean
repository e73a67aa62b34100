/-! Mirrors (written by mk_mir.py) -/
-- ChangeHouseModel.become
def xr_312 : xj_mR := (15, yX15_become, cX15_become, 6, (Option.none : Option Jvm.ClassFile.FieldType), 2, false, (10, 185), (1, 12))
set_option maxRecDepth 20000 in
theorem xr_312_e : xj_row 312 = some xr_312 := rfl
def f312_222   (f : Nat)  (M : xj_M) : Option (xj_M) := (some M)
theorem k312_222 {d f : Nat}      {M : xj_M} {R : xj_M}  (h : f312_222   f  M = some R) : xW (d + 4) (none, d + 4, none) xr_312 (222, [], [], M) (xQv R) := by
  unfold f312_222 at h
  cases h
  exact xe_ret_v (by decide +kernel) rfl ⟨rfl, rfl⟩
def f312_201b  (r201 : Nat → Int → xj_M → Option (xj_M)) (f : Nat) (x1 : Nat) (x5 : Int) (M : xj_M) : Option (xj_M) := (if (16) ≤ (x5) then f312_222   f  M else ((xq_gr 13 21 (x1) M).bind fun v102 => ((xq_si (v102) (x5) (0) M).bind fun M104 => r201 (x1) (xwr ((x5) + (1))) M104)))
theorem k312_201b {d f : Nat}  {r201 : Nat → Int → xj_M → Option (xj_M)}  (hr201 : ∀ {x1 : Nat} {x5 : Int} {M : xj_M} {R : xj_M}, xin x5 → r201 x1 x5 M = some R → xW (d + 4) (none, d + 4, none) xr_312 (201, [(1, xR_ x1), (5, xI x5)], [], M) (xQv R)) {x1 : Nat} {x5 : Int} {M : xj_M} {R : xj_M} (hx5 : xin x5) (h : f312_201b  r201 f x1 x5 M = some R) : xW (d + 4) (none, d + 4, none) xr_312 (201, [(1, xR_ x1), (5, xI x5)], [], M) (xQv R) := by
  unfold f312_201b at h
  refine xe_ldn (ins := .iload 5) (len := 2) (by decide +kernel) rfl rfl rfl rfl ?_
  refine xe_bipush (n := 16) (by decide +kernel) (by decide) rfl ?_
  refine xe_icmpge (off := 17) (t := 222) (by decide +kernel) (by decide) rfl hx5 (show xin (16) by decide) (fun c101 => ?_) (fun c101 => ?_)
  · rw [if_pos c101] at h
    refine xW_lv rfl (l := []) (xsb_of trivial (show [1, 5].Nodup by decide)) ?_
    exact k312_222    h
  · rw [if_neg c101] at h
    refine xe_alr (ins := .aload_n 1) (len := 1) (i := 1) (by decide +kernel) rfl rfl rfl rfl rfl ?_
    obtain ⟨v102, e103, h⟩ := xbnd h
    refine xs_gr (i := 749) (c := 13) (k := 21) (by decide +kernel) (by decide) (by decide +kernel) e103 rfl ?_
    refine xe_ldn (ins := .iload 5) (len := 2) (by decide +kernel) rfl rfl rfl rfl ?_
    refine xe_iconst (n := 0) (by decide +kernel) rfl ?_
    obtain ⟨M104, e105, h⟩ := xbnd h
    refine xs_iast (by decide +kernel) hx5 e105 rfl ?_
    refine xe_iincr (i := 5) (n := 1) (by decide +kernel) (by decide) rfl (xk_k (show ¬ (1 : Nat) = 5 by decide) (Or.inl (show ¬ (1 + 1 : Nat) = 5 by decide)) (xk_d rfl xk_n)) rfl ?_
    refine xe_goto (off := -18) (nx := 201) (by decide +kernel) (by decide) ?_
    refine xW_lv rfl (l := [(1, xR_ (x1)), (5, xI (xwr ((x5) + (1))))]) (xsb_of ⟨rfl, rfl, trivial⟩ (show [5, 1].Nodup by decide)) ?_
    exact hr201 (xin_wr _) h
def f312_201   (f : Nat) : Nat → Nat → Int → xj_M → Option (xj_M)
  | 0, _, _, _ => none
  | n + 1, x1, x5, M => f312_201b   (f312_201   f n) f x1 x5 M
theorem k312_201 {d f : Nat}     : ∀ {n : Nat} {x1 : Nat} {x5 : Int} {M : xj_M} {R : xj_M}, xin x5 → f312_201   f n x1 x5 M = some R → xW (d + 4) (none, d + 4, none) xr_312 (201, [(1, xR_ x1), (5, xI x5)], [], M) (xQv R) := by
  intro n
  induction n with
  | zero => intros; rename_i h; cases h
  | succ n ih => intros; rename_i h; exact k312_201b   ih (by assumption) h
def f312_180   (f : Nat) (x1 : Nat) (x2 : Int) (x4 : Int) (M : xj_M) : Option (xj_M) := ((xq_pi 13 2 (x1) (x2) M).bind fun M106 => ((xq_is 13 (x1) M106).bind fun _ => ((f202  f (x1) M106).bind fun M110 => ((xq_is 13 (x1) M110).bind fun _ => ((f203  f (x1) M110).bind fun M114 => (if (x4) = 0 then f312_222   f  M114 else f312_201   f f (x1) (0) M114))))))
theorem k312_180 {d f : Nat}     {x1 : Nat} {x2 : Int} {x4 : Int} {M : xj_M} {R : xj_M} (hx2 : xin x2) (hx4 : xin x4) (h : f312_180   f x1 x2 x4 M = some R) : xW (d + 4) (none, d + 4, none) xr_312 (180, [(1, xR_ x1), (2, xI x2), (4, xI x4)], [], M) (xQv R) := by
  unfold f312_180 at h
  refine xe_alr (ins := .aload_n 1) (len := 1) (i := 1) (by decide +kernel) rfl rfl rfl rfl rfl ?_
  refine xe_ldn (ins := .iload_n 2) (len := 1) (by decide +kernel) rfl rfl rfl rfl ?_
  obtain ⟨M106, e107, h⟩ := xbnd h
  refine xs_p (i := 740) (c := 13) (k := 2) (by decide +kernel) (by decide +kernel) (by decide +kernel) e107 rfl ?_
  refine xe_alr (ins := .aload_n 1) (len := 1) (i := 1) (by decide +kernel) rfl rfl rfl rfl rfl ?_
  obtain ⟨_, e109, h⟩ := xbnd h
  obtain ⟨M110, e108, h⟩ := xbnd h
  refine xs_cv (i := 725) (j := 202) (ar := []) (rest := []) (r2 := xr_202) (by decide +kernel) (by decide +kernel) (by decide +kernel) xr_202_e rfl (by decide) (by decide) e109 ?_
  refine xc_v (k202 (d := d + 3)   e108) rfl ?_
  refine xe_alr (ins := .aload_n 1) (len := 1) (i := 1) (by decide +kernel) rfl rfl rfl rfl rfl ?_
  obtain ⟨_, e113, h⟩ := xbnd h
  obtain ⟨M114, e112, h⟩ := xbnd h
  refine xs_cv (i := 751) (j := 203) (ar := []) (rest := []) (r2 := xr_203) (by decide +kernel) (by decide +kernel) (by decide +kernel) xr_203_e rfl (by decide) (by decide) e113 ?_
  refine xc_v (k203 (d := d + 3)   e112) rfl ?_
  refine xe_ldn (ins := .iload 4) (len := 2) (by decide +kernel) rfl rfl rfl rfl ?_
  refine xe_ifeq (off := 27) (t := 222) (by decide +kernel) (by decide) rfl hx4 (fun c116 => ?_) (fun c116 => ?_)
  · rw [if_pos c116] at h
    refine xW_lv rfl (l := []) (xsb_of trivial (show [1, 2, 4].Nodup by decide)) ?_
    exact k312_222    h
  · rw [if_neg c116] at h
    refine xe_iconst (n := 0) (by decide +kernel) rfl ?_
    refine xe_isr (ins := .istore 5) (len := 2) (i := 5) (by decide +kernel) rfl rfl rfl (by decide) (xk_k (show ¬ (1 : Nat) = 5 by decide) (Or.inl (show ¬ (1 + 1 : Nat) = 5 by decide)) (xk_k (show ¬ (2 : Nat) = 5 by decide) (Or.inl (show ¬ (2 + 1 : Nat) = 5 by decide)) (xk_k (show ¬ (4 : Nat) = 5 by decide) (Or.inr (xI_cat _)) xk_n))) rfl ?_
    refine xW_lv rfl (l := [(1, xR_ (x1)), (5, xI (0))]) (xsb_of ⟨rfl, rfl, trivial⟩ (show [5, 1, 2, 4].Nodup by decide)) ?_
    exact k312_201   (show xin (0) by decide) h
def f312_122b  (r122 : Nat → Int → Int → xj_M → Option (xj_M)) (f : Nat) (x1 : Nat) (x2 : Int) (x4 : Int) (M : xj_M) : Option (xj_M) := ((xq_gi 13 16 (x1) M).bind fun v117 => (if (v117) ≤ 0 then f312_180   f (x1) (x2) (x4) M else ((xq_gr 13 11 (x1) M).bind fun v120 => ((xq_gi 13 16 (x1) M).bind fun v122 => ((xq_ai 3 (v120) (xwr ((v122) - (1))) M).bind fun v124 => (if (v124) ≤ (x2) then f312_180   f (x1) (x2) (x4) M else ((xq_gi 13 16 (x1) M).bind fun v127 => ((xq_pi 13 16 (x1) (xwr ((v127) - (1))) M).bind fun M129 => ((xq_gr 13 18 (x1) M129).bind fun v131 => ((xq_gr 13 12 (x1) M129).bind fun v133 => ((xq_gi 13 16 (x1) M129).bind fun v135 => ((xq_ai 3 (v133) (v135) M129).bind fun v137 => ((xq_gr 13 13 (x1) M129).bind fun v139 => ((xq_gi 13 16 (x1) M129).bind fun v141 => ((xq_ai 3 (v139) (v141) M129).bind fun v143 => ((xq_si (v131) (v137) (v143) M129).bind fun M145 => r122 (x1) (x2) (x4) M145))))))))))))))))
theorem k312_122b {d f : Nat}  {r122 : Nat → Int → Int → xj_M → Option (xj_M)}  (hr122 : ∀ {x1 : Nat} {x2 : Int} {x4 : Int} {M : xj_M} {R : xj_M}, xin x2 → xin x4 → r122 x1 x2 x4 M = some R → xW (d + 4) (none, d + 4, none) xr_312 (122, [(1, xR_ x1), (2, xI x2), (4, xI x4)], [], M) (xQv R)) {x1 : Nat} {x2 : Int} {x4 : Int} {M : xj_M} {R : xj_M} (hx2 : xin x2) (hx4 : xin x4) (h : f312_122b  r122 f x1 x2 x4 M = some R) : xW (d + 4) (none, d + 4, none) xr_312 (122, [(1, xR_ x1), (2, xI x2), (4, xI x4)], [], M) (xQv R) := by
  unfold f312_122b at h
  refine xe_alr (ins := .aload_n 1) (len := 1) (i := 1) (by decide +kernel) rfl rfl rfl rfl rfl ?_
  obtain ⟨v117, e118, h⟩ := xbnd h
  refine xs_gi (i := 847) (c := 13) (k := 16) (by decide +kernel) (by decide) (by decide +kernel) e118 rfl ?_
  refine xe_ifle (off := 54) (t := 180) (by decide +kernel) (by decide) rfl (xq_gi_in e118) (fun c119 => ?_) (fun c119 => ?_)
  · rw [if_pos c119] at h
    refine xW_lv rfl (l := [(1, xR_ (x1)), (2, xI (x2)), (4, xI (x4))]) (xsb_of ⟨rfl, rfl, rfl, trivial⟩ (show [1, 2, 4].Nodup by decide)) ?_
    exact k312_180   hx2 hx4 h
  · rw [if_neg c119] at h
    refine xe_alr (ins := .aload_n 1) (len := 1) (i := 1) (by decide +kernel) rfl rfl rfl rfl rfl ?_
    obtain ⟨v120, e121, h⟩ := xbnd h
    refine xs_gr (i := 844) (c := 13) (k := 11) (by decide +kernel) (by decide) (by decide +kernel) e121 rfl ?_
    refine xe_alr (ins := .aload_n 1) (len := 1) (i := 1) (by decide +kernel) rfl rfl rfl rfl rfl ?_
    obtain ⟨v122, e123, h⟩ := xbnd h
    refine xs_gi (i := 847) (c := 13) (k := 16) (by decide +kernel) (by decide) (by decide +kernel) e123 rfl ?_
    refine xe_iconst (n := 1) (by decide +kernel) rfl ?_
    refine xe_isub (by decide +kernel) rfl ?_
    obtain ⟨v124, e125, h⟩ := xbnd h
    refine xs_iald rfl (by decide +kernel) (xin_wr _) e125 rfl ?_
    refine xe_ldn (ins := .iload_n 2) (len := 1) (by decide +kernel) rfl rfl rfl rfl ?_
    refine xe_icmple (off := 39) (t := 180) (by decide +kernel) (by decide) rfl (xq_ai_in e125) hx2 (fun c126 => ?_) (fun c126 => ?_)
    · rw [if_pos c126] at h
      refine xW_lv rfl (l := [(1, xR_ (x1)), (2, xI (x2)), (4, xI (x4))]) (xsb_of ⟨rfl, rfl, rfl, trivial⟩ (show [1, 2, 4].Nodup by decide)) ?_
      exact k312_180   hx2 hx4 h
    · rw [if_neg c126] at h
      refine xe_alr (ins := .aload_n 1) (len := 1) (i := 1) (by decide +kernel) rfl rfl rfl rfl rfl ?_
      refine xe_dupr (by decide +kernel) rfl ?_
      obtain ⟨v127, e128, h⟩ := xbnd h
      refine xs_gi (i := 847) (c := 13) (k := 16) (by decide +kernel) (by decide) (by decide +kernel) e128 rfl ?_
      refine xe_iconst (n := 1) (by decide +kernel) rfl ?_
      refine xe_isub (by decide +kernel) rfl ?_
      obtain ⟨M129, e130, h⟩ := xbnd h
      refine xs_p (i := 847) (c := 13) (k := 16) (by decide +kernel) (by decide +kernel) (by decide +kernel) e130 rfl ?_
      refine xe_alr (ins := .aload_n 1) (len := 1) (i := 1) (by decide +kernel) rfl rfl rfl rfl rfl ?_
      obtain ⟨v131, e132, h⟩ := xbnd h
      refine xs_gr (i := 865) (c := 13) (k := 18) (by decide +kernel) (by decide) (by decide +kernel) e132 rfl ?_
      refine xe_alr (ins := .aload_n 1) (len := 1) (i := 1) (by decide +kernel) rfl rfl rfl rfl rfl ?_
      obtain ⟨v133, e134, h⟩ := xbnd h
      refine xs_gr (i := 850) (c := 13) (k := 12) (by decide +kernel) (by decide) (by decide +kernel) e134 rfl ?_
      refine xe_alr (ins := .aload_n 1) (len := 1) (i := 1) (by decide +kernel) rfl rfl rfl rfl rfl ?_
      obtain ⟨v135, e136, h⟩ := xbnd h
      refine xs_gi (i := 847) (c := 13) (k := 16) (by decide +kernel) (by decide) (by decide +kernel) e136 rfl ?_
      obtain ⟨v137, e138, h⟩ := xbnd h
      refine xs_iald rfl (by decide +kernel) (xq_gi_in e136) e138 rfl ?_
      refine xe_alr (ins := .aload_n 1) (len := 1) (i := 1) (by decide +kernel) rfl rfl rfl rfl rfl ?_
      obtain ⟨v139, e140, h⟩ := xbnd h
      refine xs_gr (i := 853) (c := 13) (k := 13) (by decide +kernel) (by decide) (by decide +kernel) e140 rfl ?_
      refine xe_alr (ins := .aload_n 1) (len := 1) (i := 1) (by decide +kernel) rfl rfl rfl rfl rfl ?_
      obtain ⟨v141, e142, h⟩ := xbnd h
      refine xs_gi (i := 847) (c := 13) (k := 16) (by decide +kernel) (by decide) (by decide +kernel) e142 rfl ?_
      obtain ⟨v143, e144, h⟩ := xbnd h
      refine xs_iald rfl (by decide +kernel) (xq_gi_in e142) e144 rfl ?_
      obtain ⟨M145, e146, h⟩ := xbnd h
      refine xs_iast (by decide +kernel) (xq_ai_in e138) e146 rfl ?_
      refine xe_goto (off := -55) (nx := 122) (by decide +kernel) (by decide) ?_
      refine xW_lv rfl (l := [(1, xR_ (x1)), (2, xI (x2)), (4, xI (x4))]) (xsb_of ⟨rfl, rfl, rfl, trivial⟩ (show [1, 2, 4].Nodup by decide)) ?_
      exact hr122 hx2 hx4 h
def f312_122   (f : Nat) : Nat → Nat → Int → Int → xj_M → Option (xj_M)
  | 0, _, _, _, _ => none
  | n + 1, x1, x2, x4, M => f312_122b   (f312_122   f n) f x1 x2 x4 M
theorem k312_122 {d f : Nat}     : ∀ {n : Nat} {x1 : Nat} {x2 : Int} {x4 : Int} {M : xj_M} {R : xj_M}, xin x2 → xin x4 → f312_122   f n x1 x2 x4 M = some R → xW (d + 4) (none, d + 4, none) xr_312 (122, [(1, xR_ x1), (2, xI x2), (4, xI x4)], [], M) (xQv R) := by
  intro n
  induction n with
  | zero => intros; rename_i h; cases h
  | succ n ih => intros; rename_i h; exact k312_122b   ih (by assumption) (by assumption) h
def f312_77b  (r77 : Nat → Int → Int → xj_M → Option (xj_M)) (f : Nat) (x1 : Nat) (x2 : Int) (x4 : Int) (M : xj_M) : Option (xj_M) := ((xq_gi 13 17 (x1) M).bind fun v147 => (if (v147) ≤ 0 then f312_122   f f (x1) (x2) (x4) M else ((xq_gr 13 14 (x1) M).bind fun v150 => ((xq_gi 13 17 (x1) M).bind fun v152 => ((xq_ai 3 (v150) (xwr ((v152) - (1))) M).bind fun v154 => (if (v154) ≤ (x2) then f312_122   f f (x1) (x2) (x4) M else ((xq_gi 13 17 (x1) M).bind fun v157 => ((xq_pi 13 17 (x1) (xwr ((v157) - (1))) M).bind fun M159 => ((xq_gi 13 4 (x1) M159).bind fun v161 => ((xq_pi 13 4 (x1) (xwr ((v161) - (1))) M159).bind fun M163 => r77 (x1) (x2) (x4) M163))))))))))
theorem k312_77b {d f : Nat}  {r77 : Nat → Int → Int → xj_M → Option (xj_M)}  (hr77 : ∀ {x1 : Nat} {x2 : Int} {x4 : Int} {M : xj_M} {R : xj_M}, xin x2 → xin x4 → r77 x1 x2 x4 M = some R → xW (d + 4) (none, d + 4, none) xr_312 (77, [(1, xR_ x1), (2, xI x2), (4, xI x4)], [], M) (xQv R)) {x1 : Nat} {x2 : Int} {x4 : Int} {M : xj_M} {R : xj_M} (hx2 : xin x2) (hx4 : xin x4) (h : f312_77b  r77 f x1 x2 x4 M = some R) : xW (d + 4) (none, d + 4, none) xr_312 (77, [(1, xR_ x1), (2, xI x2), (4, xI x4)], [], M) (xQv R) := by
  unfold f312_77b at h
  refine xe_alr (ins := .aload_n 1) (len := 1) (i := 1) (by decide +kernel) rfl rfl rfl rfl rfl ?_
  obtain ⟨v147, e148, h⟩ := xbnd h
  refine xs_gi (i := 737) (c := 13) (k := 17) (by decide +kernel) (by decide) (by decide +kernel) e148 rfl ?_
  refine xe_ifle (off := 41) (t := 122) (by decide +kernel) (by decide) rfl (xq_gi_in e148) (fun c149 => ?_) (fun c149 => ?_)
  · rw [if_pos c149] at h
    refine xW_lv rfl (l := [(1, xR_ (x1)), (2, xI (x2)), (4, xI (x4))]) (xsb_of ⟨rfl, rfl, rfl, trivial⟩ (show [1, 2, 4].Nodup by decide)) ?_
    exact k312_122   hx2 hx4 h
  · rw [if_neg c149] at h
    refine xe_alr (ins := .aload_n 1) (len := 1) (i := 1) (by decide +kernel) rfl rfl rfl rfl rfl ?_
    obtain ⟨v150, e151, h⟩ := xbnd h
    refine xs_gr (i := 734) (c := 13) (k := 14) (by decide +kernel) (by decide) (by decide +kernel) e151 rfl ?_
    refine xe_alr (ins := .aload_n 1) (len := 1) (i := 1) (by decide +kernel) rfl rfl rfl rfl rfl ?_
    obtain ⟨v152, e153, h⟩ := xbnd h
    refine xs_gi (i := 737) (c := 13) (k := 17) (by decide +kernel) (by decide) (by decide +kernel) e153 rfl ?_
    refine xe_iconst (n := 1) (by decide +kernel) rfl ?_
    refine xe_isub (by decide +kernel) rfl ?_
    obtain ⟨v154, e155, h⟩ := xbnd h
    refine xs_iald rfl (by decide +kernel) (xin_wr _) e155 rfl ?_
    refine xe_ldn (ins := .iload_n 2) (len := 1) (by decide +kernel) rfl rfl rfl rfl ?_
    refine xe_icmple (off := 26) (t := 122) (by decide +kernel) (by decide) rfl (xq_ai_in e155) hx2 (fun c156 => ?_) (fun c156 => ?_)
    · rw [if_pos c156] at h
      refine xW_lv rfl (l := [(1, xR_ (x1)), (2, xI (x2)), (4, xI (x4))]) (xsb_of ⟨rfl, rfl, rfl, trivial⟩ (show [1, 2, 4].Nodup by decide)) ?_
      exact k312_122   hx2 hx4 h
    · rw [if_neg c156] at h
      refine xe_alr (ins := .aload_n 1) (len := 1) (i := 1) (by decide +kernel) rfl rfl rfl rfl rfl ?_
      refine xe_dupr (by decide +kernel) rfl ?_
      obtain ⟨v157, e158, h⟩ := xbnd h
      refine xs_gi (i := 737) (c := 13) (k := 17) (by decide +kernel) (by decide) (by decide +kernel) e158 rfl ?_
      refine xe_iconst (n := 1) (by decide +kernel) rfl ?_
      refine xe_isub (by decide +kernel) rfl ?_
      obtain ⟨M159, e160, h⟩ := xbnd h
      refine xs_p (i := 737) (c := 13) (k := 17) (by decide +kernel) (by decide +kernel) (by decide +kernel) e160 rfl ?_
      refine xe_alr (ins := .aload_n 1) (len := 1) (i := 1) (by decide +kernel) rfl rfl rfl rfl rfl ?_
      refine xe_dupr (by decide +kernel) rfl ?_
      obtain ⟨v161, e162, h⟩ := xbnd h
      refine xs_gi (i := 746) (c := 13) (k := 4) (by decide +kernel) (by decide) (by decide +kernel) e162 rfl ?_
      refine xe_iconst (n := 1) (by decide +kernel) rfl ?_
      refine xe_isub (by decide +kernel) rfl ?_
      obtain ⟨M163, e164, h⟩ := xbnd h
      refine xs_p (i := 746) (c := 13) (k := 4) (by decide +kernel) (by decide +kernel) (by decide +kernel) e164 rfl ?_
      refine xe_goto (off := -42) (nx := 77) (by decide +kernel) (by decide) ?_
      refine xW_lv rfl (l := [(1, xR_ (x1)), (2, xI (x2)), (4, xI (x4))]) (xsb_of ⟨rfl, rfl, rfl, trivial⟩ (show [1, 2, 4].Nodup by decide)) ?_
      exact hr77 hx2 hx4 h
def f312_77   (f : Nat) : Nat → Nat → Int → Int → xj_M → Option (xj_M)
  | 0, _, _, _, _ => none
  | n + 1, x1, x2, x4, M => f312_77b   (f312_77   f n) f x1 x2 x4 M
theorem k312_77 {d f : Nat}     : ∀ {n : Nat} {x1 : Nat} {x2 : Int} {x4 : Int} {M : xj_M} {R : xj_M}, xin x2 → xin x4 → f312_77   f n x1 x2 x4 M = some R → xW (d + 4) (none, d + 4, none) xr_312 (77, [(1, xR_ x1), (2, xI x2), (4, xI x4)], [], M) (xQv R) := by
  intro n
  induction n with
  | zero => intros; rename_i h; cases h
  | succ n ih => intros; rename_i h; exact k312_77b   ih (by assumption) (by assumption) h
def f312_42b  (r42 : Nat → Int → Int → xj_M → Option (xj_M)) (f : Nat) (x1 : Nat) (x2 : Int) (x4 : Int) (M : xj_M) : Option (xj_M) := ((xq_gi 13 10 (x1) M).bind fun v165 => (if (v165) ≤ 0 then f312_77   f f (x1) (x2) (x4) M else ((xq_gr 13 5 (x1) M).bind fun v168 => ((xq_gi 13 10 (x1) M).bind fun v170 => ((xq_ai 3 (v168) (xwr ((v170) - (1))) M).bind fun v172 => (if (v172) ≤ (x2) then f312_77   f f (x1) (x2) (x4) M else ((xq_gi 13 10 (x1) M).bind fun v175 => ((xq_pi 13 10 (x1) (xwr ((v175) - (1))) M).bind fun M177 => r42 (x1) (x2) (x4) M177))))))))
theorem k312_42b {d f : Nat}  {r42 : Nat → Int → Int → xj_M → Option (xj_M)}  (hr42 : ∀ {x1 : Nat} {x2 : Int} {x4 : Int} {M : xj_M} {R : xj_M}, xin x2 → xin x4 → r42 x1 x2 x4 M = some R → xW (d + 4) (none, d + 4, none) xr_312 (42, [(1, xR_ x1), (2, xI x2), (4, xI x4)], [], M) (xQv R)) {x1 : Nat} {x2 : Int} {x4 : Int} {M : xj_M} {R : xj_M} (hx2 : xin x2) (hx4 : xin x4) (h : f312_42b  r42 f x1 x2 x4 M = some R) : xW (d + 4) (none, d + 4, none) xr_312 (42, [(1, xR_ x1), (2, xI x2), (4, xI x4)], [], M) (xQv R) := by
  unfold f312_42b at h
  refine xe_alr (ins := .aload_n 1) (len := 1) (i := 1) (by decide +kernel) rfl rfl rfl rfl rfl ?_
  obtain ⟨v165, e166, h⟩ := xbnd h
  refine xs_gi (i := 791) (c := 13) (k := 10) (by decide +kernel) (by decide) (by decide +kernel) e166 rfl ?_
  refine xe_ifle (off := 31) (t := 77) (by decide +kernel) (by decide) rfl (xq_gi_in e166) (fun c167 => ?_) (fun c167 => ?_)
  · rw [if_pos c167] at h
    refine xW_lv rfl (l := [(1, xR_ (x1)), (2, xI (x2)), (4, xI (x4))]) (xsb_of ⟨rfl, rfl, rfl, trivial⟩ (show [1, 2, 4].Nodup by decide)) ?_
    exact k312_77   hx2 hx4 h
  · rw [if_neg c167] at h
    refine xe_alr (ins := .aload_n 1) (len := 1) (i := 1) (by decide +kernel) rfl rfl rfl rfl rfl ?_
    obtain ⟨v168, e169, h⟩ := xbnd h
    refine xs_gr (i := 788) (c := 13) (k := 5) (by decide +kernel) (by decide) (by decide +kernel) e169 rfl ?_
    refine xe_alr (ins := .aload_n 1) (len := 1) (i := 1) (by decide +kernel) rfl rfl rfl rfl rfl ?_
    obtain ⟨v170, e171, h⟩ := xbnd h
    refine xs_gi (i := 791) (c := 13) (k := 10) (by decide +kernel) (by decide) (by decide +kernel) e171 rfl ?_
    refine xe_iconst (n := 1) (by decide +kernel) rfl ?_
    refine xe_isub (by decide +kernel) rfl ?_
    obtain ⟨v172, e173, h⟩ := xbnd h
    refine xs_iald rfl (by decide +kernel) (xin_wr _) e173 rfl ?_
    refine xe_ldn (ins := .iload_n 2) (len := 1) (by decide +kernel) rfl rfl rfl rfl ?_
    refine xe_icmple (off := 16) (t := 77) (by decide +kernel) (by decide) rfl (xq_ai_in e173) hx2 (fun c174 => ?_) (fun c174 => ?_)
    · rw [if_pos c174] at h
      refine xW_lv rfl (l := [(1, xR_ (x1)), (2, xI (x2)), (4, xI (x4))]) (xsb_of ⟨rfl, rfl, rfl, trivial⟩ (show [1, 2, 4].Nodup by decide)) ?_
      exact k312_77   hx2 hx4 h
    · rw [if_neg c174] at h
      refine xe_alr (ins := .aload_n 1) (len := 1) (i := 1) (by decide +kernel) rfl rfl rfl rfl rfl ?_
      refine xe_dupr (by decide +kernel) rfl ?_
      obtain ⟨v175, e176, h⟩ := xbnd h
      refine xs_gi (i := 791) (c := 13) (k := 10) (by decide +kernel) (by decide) (by decide +kernel) e176 rfl ?_
      refine xe_iconst (n := 1) (by decide +kernel) rfl ?_
      refine xe_isub (by decide +kernel) rfl ?_
      obtain ⟨M177, e178, h⟩ := xbnd h
      refine xs_p (i := 791) (c := 13) (k := 10) (by decide +kernel) (by decide +kernel) (by decide +kernel) e178 rfl ?_
      refine xe_goto (off := -32) (nx := 42) (by decide +kernel) (by decide) ?_
      refine xW_lv rfl (l := [(1, xR_ (x1)), (2, xI (x2)), (4, xI (x4))]) (xsb_of ⟨rfl, rfl, rfl, trivial⟩ (show [1, 2, 4].Nodup by decide)) ?_
      exact hr42 hx2 hx4 h
def f312_42   (f : Nat) : Nat → Nat → Int → Int → xj_M → Option (xj_M)
  | 0, _, _, _, _ => none
  | n + 1, x1, x2, x4, M => f312_42b   (f312_42   f n) f x1 x2 x4 M
theorem k312_42 {d f : Nat}     : ∀ {n : Nat} {x1 : Nat} {x2 : Int} {x4 : Int} {M : xj_M} {R : xj_M}, xin x2 → xin x4 → f312_42   f n x1 x2 x4 M = some R → xW (d + 4) (none, d + 4, none) xr_312 (42, [(1, xR_ x1), (2, xI x2), (4, xI x4)], [], M) (xQv R) := by
  intro n
  induction n with
  | zero => intros; rename_i h; cases h
  | succ n ih => intros; rename_i h; exact k312_42b   ih (by assumption) (by assumption) h
def f312_24   (f : Nat) (x0 : Nat) (x1 : Nat) (x2 : Int) (x3 : Int) (y0 : Int) (M : xj_M) : Option (xj_M) := ((xq_gr 13 0 (x1) M).bind fun v179 => ((xq_gr 15 80 (x0) M).bind fun v181 => ((xq_is 12 (v179) M).bind fun _ => ((f194  f (v179) (v181) M).bind fun M185 => ((xq_pi 13 1 (x1) (x3) M185).bind fun M187 => f312_42   f f (x1) (x2) (y0) M187)))))
theorem k312_24 {d f : Nat}     {x0 : Nat} {x1 : Nat} {x2 : Int} {x3 : Int} {y0 : Int} {M : xj_M} {R : xj_M} (hx2 : xin x2) (hx3 : xin x3) (hy0 : xin y0) (h : f312_24   f x0 x1 x2 x3 y0 M = some R) : xW (d + 4) (none, d + 4, none) xr_312 (24, [(0, xR_ x0), (1, xR_ x1), (2, xI x2), (3, xI x3)], [xI y0], M) (xQv R) := by
  unfold f312_24 at h
  refine xe_isr (ins := .istore 4) (len := 2) (i := 4) (by decide +kernel) rfl rfl rfl (by decide) (xk_k (show ¬ (0 : Nat) = 4 by decide) (Or.inl (show ¬ (0 + 1 : Nat) = 4 by decide)) (xk_k (show ¬ (1 : Nat) = 4 by decide) (Or.inl (show ¬ (1 + 1 : Nat) = 4 by decide)) (xk_k (show ¬ (2 : Nat) = 4 by decide) (Or.inl (show ¬ (2 + 1 : Nat) = 4 by decide)) (xk_k (show ¬ (3 : Nat) = 4 by decide) (Or.inr (xI_cat _)) xk_n)))) rfl ?_
  refine xe_alr (ins := .aload_n 1) (len := 1) (i := 1) (by decide +kernel) rfl rfl rfl rfl rfl ?_
  obtain ⟨v179, e180, h⟩ := xbnd h
  refine xs_gr (i := 679) (c := 13) (k := 0) (by decide +kernel) (by decide) (by decide +kernel) e180 rfl ?_
  refine xe_alr (ins := .aload_n 0) (len := 1) (i := 0) (by decide +kernel) rfl rfl rfl rfl rfl ?_
  obtain ⟨v181, e182, h⟩ := xbnd h
  refine xs_gr (i := 858) (c := 15) (k := 80) (by decide +kernel) (by decide) (by decide +kernel) e182 rfl ?_
  obtain ⟨_, e184, h⟩ := xbnd h
  obtain ⟨M185, e183, h⟩ := xbnd h
  refine xs_cv (i := 708) (j := 194) (ar := [xR_ (v181)]) (rest := []) (r2 := xr_194) (by decide +kernel) (by decide +kernel) (by decide +kernel) xr_194_e rfl (by decide) (by decide) e184 ?_
  refine xc_v (k194 (d := d + 3)   e183) rfl ?_
  refine xe_alr (ins := .aload_n 1) (len := 1) (i := 1) (by decide +kernel) rfl rfl rfl rfl rfl ?_
  refine xe_ldn (ins := .iload_n 3) (len := 1) (by decide +kernel) rfl rfl rfl rfl ?_
  obtain ⟨M187, e188, h⟩ := xbnd h
  refine xs_p (i := 671) (c := 13) (k := 1) (by decide +kernel) (by decide +kernel) (by decide +kernel) e188 rfl ?_
  refine xW_lv rfl (l := [(1, xR_ (x1)), (2, xI (x2)), (4, xI (y0))]) (xsb_of ⟨rfl, rfl, rfl, trivial⟩ (show [4, 0, 1, 2, 3].Nodup by decide)) ?_
  exact k312_42   hx2 hy0 h
def f312  (f : Nat) (a0 : Nat) (a1 : Nat) (a2 : Int) (M : xj_M) : Option (xj_M) := ((xq_gr 15 80 (a0) M).bind fun v189 => ((xq_is 15 (a0) M).bind fun _ => ((f311  f (a0) (a1) (a2) (v189) M).bind fun R193 => ((xq_gi 13 1 (a1) R193.2).bind fun v195 => (if (R193.1) = (v195) then f312_24   f (a0) (a1) (a2) (R193.1) (0) R193.2 else f312_24   f (a0) (a1) (a2) (R193.1) (1) R193.2)))))
theorem k312 {d f : Nat}   {a0 : Nat} {a1 : Nat} {a2 : Int} {M : xj_M} {R : xj_M} (ha2 : xin a2) (h : f312  f a0 a1 a2 M = some R) : xT (d + 5) 312 [xR_ a0, xR_ a1, xI a2] M (xQv R) := by
  refine xT_m xr_312_e (X := (none, d + 4, none)) rfl (xa_1 (xR_cat _) (xa_1 (xR_cat _) (xa_1 (xI_cat _) xa_n))) (by decide) ?_
  unfold f312 at h
  refine xe_alr (ins := .aload_n 0) (len := 1) (i := 0) (by decide +kernel) rfl rfl rfl rfl rfl ?_
  refine xe_alr (ins := .aload_n 1) (len := 1) (i := 1) (by decide +kernel) rfl rfl rfl rfl rfl ?_
  refine xe_ldn (ins := .iload_n 2) (len := 1) (by decide +kernel) rfl rfl rfl rfl ?_
  refine xe_alr (ins := .aload_n 0) (len := 1) (i := 0) (by decide +kernel) rfl rfl rfl rfl rfl ?_
  obtain ⟨v189, e190, h⟩ := xbnd h
  refine xs_gr (i := 858) (c := 15) (k := 80) (by decide +kernel) (by decide) (by decide +kernel) e190 rfl ?_
  obtain ⟨_, e192, h⟩ := xbnd h
  obtain ⟨R193, e191, h⟩ := xbnd h
  refine xs_cv (i := 861) (j := 311) (ar := [xR_ (v189), xI (a2), xR_ (a1)]) (rest := []) (r2 := xr_311) (by decide +kernel) (by decide +kernel) (by decide +kernel) xr_311_e rfl (by decide) (by decide) e192 ?_
  refine xc_i (k311 (d := d + 0)  ha2 e191) rfl (fun hi194 => ?_)
  refine xe_isr (ins := .istore_n 3) (len := 1) (i := 3) (by decide +kernel) rfl rfl rfl (by decide) (xk_k (show ¬ (0 : Nat) = 3 by decide) (Or.inl (show ¬ (0 + 1 : Nat) = 3 by decide)) (xk_k (show ¬ (1 : Nat) = 3 by decide) (Or.inl (show ¬ (1 + 1 : Nat) = 3 by decide)) (xk_k (show ¬ (2 : Nat) = 3 by decide) (Or.inr (xI_cat _)) xk_n))) rfl ?_
  refine xe_ldn (ins := .iload_n 3) (len := 1) (by decide +kernel) rfl rfl rfl rfl ?_
  refine xe_alr (ins := .aload_n 1) (len := 1) (i := 1) (by decide +kernel) rfl rfl rfl rfl rfl ?_
  obtain ⟨v195, e196, h⟩ := xbnd h
  refine xs_gi (i := 671) (c := 13) (k := 1) (by decide +kernel) (by decide) (by decide +kernel) e196 rfl ?_
  refine xe_icmpeq (off := 7) (t := 23) (by decide +kernel) (by decide) rfl hi194 (xq_gi_in e196) (fun c197 => ?_) (fun c197 => ?_)
  · rw [if_pos c197] at h
    refine xe_iconst (n := 0) (by decide +kernel) rfl ?_
    refine xW_lv rfl (l := [(0, xR_ (a0)), (1, xR_ (a1)), (2, xI (a2)), (3, xI (R193.1))]) (xsb_of ⟨rfl, rfl, rfl, rfl, trivial⟩ (show [3, 0, 1, 2].Nodup by decide)) ?_
    exact k312_24   ha2 hi194 (show xin (0) by decide) h
  · rw [if_neg c197] at h
    refine xe_iconst (n := 1) (by decide +kernel) rfl ?_
    refine xe_goto (off := 4) (nx := 24) (by decide +kernel) (by decide) ?_
    refine xW_lv rfl (l := [(0, xR_ (a0)), (1, xR_ (a1)), (2, xI (a2)), (3, xI (R193.1))]) (xsb_of ⟨rfl, rfl, rfl, rfl, trivial⟩ (show [3, 0, 1, 2].Nodup by decide)) ?_
    exact k312_24   ha2 hi194 (show xin (1) by decide) h
-- ChangeHouseModel.differences
def xr_328 : xj_mR := (15, yX15_differences, cX15_differences, 7, (Option.some Jvm.ClassFile.FieldType.int), 4, false, (11, 13), (1, 12))
set_option maxRecDepth 20000 in
theorem xr_328_e : xj_row 328 = some xr_328 := rfl
def f328_104  (r6 : Nat → Nat → Nat → Int → Int → Int → Int → xj_M → Option (Int × xj_M)) (f : Nat) (x0 : Nat) (x1 : Nat) (x2 : Nat) (x3 : Int) (x4 : Int) (x5 : Int) (x6 : Int) (M : xj_M) : Option (Int × xj_M) := r6 (x0) (x1) (x2) (x3) (x4) (x5) (xwr ((x6) + (1))) M
theorem k328_104 {d f : Nat}  {r6 : Nat → Nat → Nat → Int → Int → Int → Int → xj_M → Option (Int × xj_M)}  (hr6 : ∀ {x0 : Nat} {x1 : Nat} {x2 : Nat} {x3 : Int} {x4 : Int} {x5 : Int} {x6 : Int} {M : xj_M} {R : Int × xj_M}, xin x3 → xin x4 → xin x5 → xin x6 → r6 x0 x1 x2 x3 x4 x5 x6 M = some R → xW (d + 4) (none, d + 4, none) xr_328 (6, [(0, xR_ x0), (1, xR_ x1), (2, xR_ x2), (3, xI x3), (4, xI x4), (5, xI x5), (6, xI x6)], [], M) (xQi R)) {x0 : Nat} {x1 : Nat} {x2 : Nat} {x3 : Int} {x4 : Int} {x5 : Int} {x6 : Int} {M : xj_M} {R : Int × xj_M} (hx3 : xin x3) (hx4 : xin x4) (hx5 : xin x5) (hx6 : xin x6) (h : f328_104  r6 f x0 x1 x2 x3 x4 x5 x6 M = some R) : xW (d + 4) (none, d + 4, none) xr_328 (104, [(0, xR_ x0), (1, xR_ x1), (2, xR_ x2), (3, xI x3), (4, xI x4), (5, xI x5), (6, xI x6)], [], M) (xQi R) := by
  unfold f328_104 at h
  refine xe_iincr (i := 6) (n := 1) (by decide +kernel) (by decide) rfl (xk_k (show ¬ (0 : Nat) = 6 by decide) (Or.inl (show ¬ (0 + 1 : Nat) = 6 by decide)) (xk_k (show ¬ (1 : Nat) = 6 by decide) (Or.inl (show ¬ (1 + 1 : Nat) = 6 by decide)) (xk_k (show ¬ (2 : Nat) = 6 by decide) (Or.inl (show ¬ (2 + 1 : Nat) = 6 by decide)) (xk_k (show ¬ (3 : Nat) = 6 by decide) (Or.inl (show ¬ (3 + 1 : Nat) = 6 by decide)) (xk_k (show ¬ (4 : Nat) = 6 by decide) (Or.inl (show ¬ (4 + 1 : Nat) = 6 by decide)) (xk_k (show ¬ (5 : Nat) = 6 by decide) (Or.inr (xI_cat _)) (xk_d rfl xk_n))))))) rfl ?_
  refine xe_goto (off := -101) (nx := 6) (by decide +kernel) (by decide) ?_
  refine xW_lv rfl (l := [(0, xR_ (x0)), (1, xR_ (x1)), (2, xR_ (x2)), (3, xI (x3)), (4, xI (x4)), (5, xI (x5)), (6, xI (xwr ((x6) + (1))))]) (xsb_of ⟨rfl, rfl, rfl, rfl, rfl, rfl, rfl, trivial⟩ (show [6, 0, 1, 2, 3, 4, 5].Nodup by decide)) ?_
  exact hr6 hx3 hx4 hx5 (xin_wr _) h
def f328_211  (r113 : Nat → Nat → Nat → Int → Int → Int → Int → xj_M → Option (Int × xj_M)) (f : Nat) (x0 : Nat) (x1 : Nat) (x2 : Nat) (x3 : Int) (x4 : Int) (x5 : Int) (x6 : Int) (M : xj_M) : Option (Int × xj_M) := r113 (x0) (x1) (x2) (x3) (x4) (x5) (xwr ((x6) + (1))) M
theorem k328_211 {d f : Nat}  {r113 : Nat → Nat → Nat → Int → Int → Int → Int → xj_M → Option (Int × xj_M)}  (hr113 : ∀ {x0 : Nat} {x1 : Nat} {x2 : Nat} {x3 : Int} {x4 : Int} {x5 : Int} {x6 : Int} {M : xj_M} {R : Int × xj_M}, xin x3 → xin x4 → xin x5 → xin x6 → r113 x0 x1 x2 x3 x4 x5 x6 M = some R → xW (d + 4) (none, d + 4, none) xr_328 (113, [(0, xR_ x0), (1, xR_ x1), (2, xR_ x2), (3, xI x3), (4, xI x4), (5, xI x5), (6, xI x6)], [], M) (xQi R)) {x0 : Nat} {x1 : Nat} {x2 : Nat} {x3 : Int} {x4 : Int} {x5 : Int} {x6 : Int} {M : xj_M} {R : Int × xj_M} (hx3 : xin x3) (hx4 : xin x4) (hx5 : xin x5) (hx6 : xin x6) (h : f328_211  r113 f x0 x1 x2 x3 x4 x5 x6 M = some R) : xW (d + 4) (none, d + 4, none) xr_328 (211, [(0, xR_ x0), (1, xR_ x1), (2, xR_ x2), (3, xI x3), (4, xI x4), (5, xI x5), (6, xI x6)], [], M) (xQi R) := by
  unfold f328_211 at h
  refine xe_iincr (i := 6) (n := 1) (by decide +kernel) (by decide) rfl (xk_k (show ¬ (0 : Nat) = 6 by decide) (Or.inl (show ¬ (0 + 1 : Nat) = 6 by decide)) (xk_k (show ¬ (1 : Nat) = 6 by decide) (Or.inl (show ¬ (1 + 1 : Nat) = 6 by decide)) (xk_k (show ¬ (2 : Nat) = 6 by decide) (Or.inl (show ¬ (2 + 1 : Nat) = 6 by decide)) (xk_k (show ¬ (3 : Nat) = 6 by decide) (Or.inl (show ¬ (3 + 1 : Nat) = 6 by decide)) (xk_k (show ¬ (4 : Nat) = 6 by decide) (Or.inl (show ¬ (4 + 1 : Nat) = 6 by decide)) (xk_k (show ¬ (5 : Nat) = 6 by decide) (Or.inr (xI_cat _)) (xk_d rfl xk_n))))))) rfl ?_
  refine xe_goto (off := -101) (nx := 113) (by decide +kernel) (by decide) ?_
  refine xW_lv rfl (l := [(0, xR_ (x0)), (1, xR_ (x1)), (2, xR_ (x2)), (3, xI (x3)), (4, xI (x4)), (5, xI (x5)), (6, xI (xwr ((x6) + (1))))]) (xsb_of ⟨rfl, rfl, rfl, rfl, rfl, rfl, rfl, trivial⟩ (show [6, 0, 1, 2, 3, 4, 5].Nodup by decide)) ?_
  exact hr113 hx3 hx4 hx5 (xin_wr _) h
def f328_113b  (r113 : Nat → Nat → Nat → Int → Int → Int → Int → xj_M → Option (Int × xj_M)) (f : Nat) (x0 : Nat) (x1 : Nat) (x2 : Nat) (x3 : Int) (x4 : Int) (x5 : Int) (x6 : Int) (M : xj_M) : Option (Int × xj_M) := ((xq_gr 13 0 (x2) M).bind fun v101 => ((xq_gi 12 3 (v101) M).bind fun v103 => (if (v103) ≤ (x6) then (some (x5, M)) else ((xq_gr 13 0 (x2) M).bind fun v106 => ((xq_gr 12 0 (v106) M).bind fun v108 => ((xq_al (v108) (x6) M).bind fun v110 => ((xq_gr 15 29 (x0) M).bind fun v112 => ((xq_gr 14 0 (v112) M).bind fun v114 => ((xq_al (v114) (x3) M).bind fun v116 => (if ¬ (v110) = (v116) then f328_211  r113 f (x0) (x1) (x2) (x3) (x4) (x5) (x6) M else ((xq_gr 15 80 (x0) M).bind fun v119 => ((xq_gr 13 0 (x2) M).bind fun v121 => ((f322  f (v119) (v121) (x6) M).bind fun R124 => (if (R124.1) = 0 then (if (x4) = 0 then f328_211  r113 f (x0) (x1) (x2) (x3) (x4) (xwr ((x5) + (1))) (x6) R124.2 else ((xq_gr 13 0 (x2) R124.2).bind fun v128 => ((xq_gr 12 0 (v128) R124.2).bind fun v130 => ((xq_al (v130) (x6) R124.2).bind fun v132 => ((xq_gr 13 0 (x2) R124.2).bind fun v134 => ((xq_gr 12 2 (v134) R124.2).bind fun v136 => ((xq_ai 3 (v136) (x6) R124.2).bind fun v138 => ((xq_gr 13 0 (x2) R124.2).bind fun v140 => ((xq_gr 12 1 (v140) R124.2).bind fun v142 => ((f329  f (x1) (1) (v132) (v138) (v142) (xwr ((4) * (x6))) R124.2).bind fun M145 => f328_211  r113 f (x0) (x1) (x2) (x3) (x4) (xwr ((x5) + (1))) (x6) M145)))))))))) else f328_211  r113 f (x0) (x1) (x2) (x3) (x4) (x5) (x6) R124.2))))))))))))))
theorem k328_113b {d f : Nat}  {r113 : Nat → Nat → Nat → Int → Int → Int → Int → xj_M → Option (Int × xj_M)}  (hr113 : ∀ {x0 : Nat} {x1 : Nat} {x2 : Nat} {x3 : Int} {x4 : Int} {x5 : Int} {x6 : Int} {M : xj_M} {R : Int × xj_M}, xin x3 → xin x4 → xin x5 → xin x6 → r113 x0 x1 x2 x3 x4 x5 x6 M = some R → xW (d + 4) (none, d + 4, none) xr_328 (113, [(0, xR_ x0), (1, xR_ x1), (2, xR_ x2), (3, xI x3), (4, xI x4), (5, xI x5), (6, xI x6)], [], M) (xQi R)) {x0 : Nat} {x1 : Nat} {x2 : Nat} {x3 : Int} {x4 : Int} {x5 : Int} {x6 : Int} {M : xj_M} {R : Int × xj_M} (hx3 : xin x3) (hx4 : xin x4) (hx5 : xin x5) (hx6 : xin x6) (h : f328_113b  r113 f x0 x1 x2 x3 x4 x5 x6 M = some R) : xW (d + 4) (none, d + 4, none) xr_328 (113, [(0, xR_ x0), (1, xR_ x1), (2, xR_ x2), (3, xI x3), (4, xI x4), (5, xI x5), (6, xI x6)], [], M) (xQi R) := by
  unfold f328_113b at h
  refine xe_ldn (ins := .iload 6) (len := 2) (by decide +kernel) rfl rfl rfl rfl ?_
  refine xe_alr (ins := .aload_n 2) (len := 1) (i := 2) (by decide +kernel) rfl rfl rfl rfl rfl ?_
  obtain ⟨v101, e102, h⟩ := xbnd h
  refine xs_gr (i := 679) (c := 13) (k := 0) (by decide +kernel) (by decide) (by decide +kernel) e102 rfl ?_
  obtain ⟨v103, e104, h⟩ := xbnd h
  refine xs_gi (i := 690) (c := 12) (k := 3) (by decide +kernel) (by decide) (by decide +kernel) e104 rfl ?_
  refine xe_icmpge (off := 95) (t := 217) (by decide +kernel) (by decide) rfl hx6 (xq_gi_in e104) (fun c105 => ?_) (fun c105 => ?_)
  · rw [if_pos c105] at h
    refine xe_ldn (ins := .iload 5) (len := 2) (by decide +kernel) rfl rfl rfl rfl ?_
    cases h
    exact xe_ret_i (ty := .int) (by decide +kernel) rfl rfl ⟨rfl, rfl, hx5⟩
  · rw [if_neg c105] at h
    refine xe_alr (ins := .aload_n 2) (len := 1) (i := 2) (by decide +kernel) rfl rfl rfl rfl rfl ?_
    obtain ⟨v106, e107, h⟩ := xbnd h
    refine xs_gr (i := 679) (c := 13) (k := 0) (by decide +kernel) (by decide) (by decide +kernel) e107 rfl ?_
    obtain ⟨v108, e109, h⟩ := xbnd h
    refine xs_gr (i := 694) (c := 12) (k := 0) (by decide +kernel) (by decide) (by decide +kernel) e109 rfl ?_
    refine xe_ldn (ins := .iload 6) (len := 2) (by decide +kernel) rfl rfl rfl rfl ?_
    obtain ⟨v110, e111, h⟩ := xbnd h
    refine xs_lald (by decide +kernel) hx6 e111 rfl ?_
    refine xe_alr (ins := .aload_n 0) (len := 1) (i := 0) (by decide +kernel) rfl rfl rfl rfl rfl ?_
    obtain ⟨v112, e113, h⟩ := xbnd h
    refine xs_gr (i := 439) (c := 15) (k := 29) (by decide +kernel) (by decide) (by decide +kernel) e113 rfl ?_
    obtain ⟨v114, e115, h⟩ := xbnd h
    refine xs_gr (i := 217) (c := 14) (k := 0) (by decide +kernel) (by decide) (by decide +kernel) e115 rfl ?_
    refine xe_ldn (ins := .iload_n 3) (len := 1) (by decide +kernel) rfl rfl rfl rfl ?_
    obtain ⟨v116, e117, h⟩ := xbnd h
    refine xs_lald (by decide +kernel) hx3 e117 rfl ?_
    refine xe_lcmp (by decide +kernel) rfl (xq_al_in e111) (xq_al_in e117) ?_
    refine xe_ifne (off := 66) (t := 211) (by decide +kernel) (by decide) rfl (xin_cmp8 _ _) (fun c118 => ?_) (fun c118 => ?_)
    · have c118 := xcmp8_ne.mp c118; rw [if_pos c118] at h
      refine xW_lv rfl (l := [(0, xR_ (x0)), (1, xR_ (x1)), (2, xR_ (x2)), (3, xI (x3)), (4, xI (x4)), (5, xI (x5)), (6, xI (x6))]) (xsb_of ⟨rfl, rfl, rfl, rfl, rfl, rfl, rfl, trivial⟩ (show [0, 1, 2, 3, 4, 5, 6].Nodup by decide)) ?_
      exact k328_211  hr113 hx3 hx4 hx5 hx6 h
    · have c118 := (not_congr xcmp8_ne).mp c118; rw [if_neg c118] at h
      refine xe_alr (ins := .aload_n 0) (len := 1) (i := 0) (by decide +kernel) rfl rfl rfl rfl rfl ?_
      obtain ⟨v119, e120, h⟩ := xbnd h
      refine xs_gr (i := 858) (c := 15) (k := 80) (by decide +kernel) (by decide) (by decide +kernel) e120 rfl ?_
      refine xe_alr (ins := .aload_n 2) (len := 1) (i := 2) (by decide +kernel) rfl rfl rfl rfl rfl ?_
      obtain ⟨v121, e122, h⟩ := xbnd h
      refine xs_gr (i := 679) (c := 13) (k := 0) (by decide +kernel) (by decide) (by decide +kernel) e122 rfl ?_
      refine xe_ldn (ins := .iload 6) (len := 2) (by decide +kernel) rfl rfl rfl rfl ?_
      obtain ⟨R124, e123, h⟩ := xbnd h
      refine xs_cs (kd := 2) (by decide) (i := 935) (j := 322) (ar := [xI (x6), xR_ (v121), xR_ (v119)]) (rest := []) (r2 := xr_322) (by decide +kernel) (by decide +kernel) (by decide +kernel) xr_322_e rfl (by decide) ?_
      refine xc_i (k322 (d := d + 0)  hx6 e123) rfl (fun hi125 => ?_)
      refine xe_ifeq (off := 6) (t := 167) (by decide +kernel) (by decide) rfl hi125 (fun c126 => ?_) (fun c126 => ?_)
      · rw [if_pos c126] at h
        refine xe_iincr (i := 5) (n := 1) (by decide +kernel) (by decide) rfl (xk_k (show ¬ (0 : Nat) = 5 by decide) (Or.inl (show ¬ (0 + 1 : Nat) = 5 by decide)) (xk_k (show ¬ (1 : Nat) = 5 by decide) (Or.inl (show ¬ (1 + 1 : Nat) = 5 by decide)) (xk_k (show ¬ (2 : Nat) = 5 by decide) (Or.inl (show ¬ (2 + 1 : Nat) = 5 by decide)) (xk_k (show ¬ (3 : Nat) = 5 by decide) (Or.inl (show ¬ (3 + 1 : Nat) = 5 by decide)) (xk_k (show ¬ (4 : Nat) = 5 by decide) (Or.inr (xI_cat _)) (xk_d rfl (xk_k (show ¬ (6 : Nat) = 5 by decide) (Or.inl (show ¬ (6 + 1 : Nat) = 5 by decide)) xk_n))))))) rfl ?_
        refine xe_ldn (ins := .iload 4) (len := 2) (by decide +kernel) rfl rfl rfl rfl ?_
        refine xe_ifeq (off := 39) (t := 211) (by decide +kernel) (by decide) rfl hx4 (fun c127 => ?_) (fun c127 => ?_)
        · rw [if_pos c127] at h
          refine xW_lv rfl (l := [(0, xR_ (x0)), (1, xR_ (x1)), (2, xR_ (x2)), (3, xI (x3)), (4, xI (x4)), (5, xI (xwr ((x5) + (1)))), (6, xI (x6))]) (xsb_of ⟨rfl, rfl, rfl, rfl, rfl, rfl, rfl, trivial⟩ (show [5, 0, 1, 2, 3, 4, 6].Nodup by decide)) ?_
          exact k328_211  hr113 hx3 hx4 (xin_wr _) hx6 h
        · rw [if_neg c127] at h
          refine xe_alr (ins := .aload_n 1) (len := 1) (i := 1) (by decide +kernel) rfl rfl rfl rfl rfl ?_
          refine xe_iconst (n := 1) (by decide +kernel) rfl ?_
          refine xe_alr (ins := .aload_n 2) (len := 1) (i := 2) (by decide +kernel) rfl rfl rfl rfl rfl ?_
          obtain ⟨v128, e129, h⟩ := xbnd h
          refine xs_gr (i := 679) (c := 13) (k := 0) (by decide +kernel) (by decide) (by decide +kernel) e129 rfl ?_
          obtain ⟨v130, e131, h⟩ := xbnd h
          refine xs_gr (i := 694) (c := 12) (k := 0) (by decide +kernel) (by decide) (by decide +kernel) e131 rfl ?_
          refine xe_ldn (ins := .iload 6) (len := 2) (by decide +kernel) rfl rfl rfl rfl ?_
          obtain ⟨v132, e133, h⟩ := xbnd h
          refine xs_lald (by decide +kernel) hx6 e133 rfl ?_
          refine xe_alr (ins := .aload_n 2) (len := 1) (i := 2) (by decide +kernel) rfl rfl rfl rfl rfl ?_
          obtain ⟨v134, e135, h⟩ := xbnd h
          refine xs_gr (i := 679) (c := 13) (k := 0) (by decide +kernel) (by decide) (by decide +kernel) e135 rfl ?_
          obtain ⟨v136, e137, h⟩ := xbnd h
          refine xs_gr (i := 695) (c := 12) (k := 2) (by decide +kernel) (by decide) (by decide +kernel) e137 rfl ?_
          refine xe_ldn (ins := .iload 6) (len := 2) (by decide +kernel) rfl rfl rfl rfl ?_
          obtain ⟨v138, e139, h⟩ := xbnd h
          refine xs_iald rfl (by decide +kernel) hx6 e139 rfl ?_
          refine xe_alr (ins := .aload_n 2) (len := 1) (i := 2) (by decide +kernel) rfl rfl rfl rfl rfl ?_
          obtain ⟨v140, e141, h⟩ := xbnd h
          refine xs_gr (i := 679) (c := 13) (k := 0) (by decide +kernel) (by decide) (by decide +kernel) e141 rfl ?_
          obtain ⟨v142, e143, h⟩ := xbnd h
          refine xs_gr (i := 696) (c := 12) (k := 1) (by decide +kernel) (by decide) (by decide +kernel) e143 rfl ?_
          refine xe_iconst (n := 4) (by decide +kernel) rfl ?_
          refine xe_ldn (ins := .iload 6) (len := 2) (by decide +kernel) rfl rfl rfl rfl ?_
          refine xe_imul (by decide +kernel) rfl ?_
          obtain ⟨M145, e144, h⟩ := xbnd h
          refine xs_cs (kd := 2) (by decide) (i := 939) (j := 329) (ar := [xI (xwr ((4) * (x6))), xR_ (v142), xI (v138), xZ (v132), xI (1), xR_ (x1)]) (rest := []) (r2 := xr_329) (by decide +kernel) (by decide +kernel) (by decide +kernel) xr_329_e rfl (by decide) ?_
          refine xc_v (k329 (d := d + 3)  (show xin (1) by decide) (xq_al_in e133) (xq_ai_in e139) (xin_wr _) e144) rfl ?_
          refine xW_lv rfl (l := [(0, xR_ (x0)), (1, xR_ (x1)), (2, xR_ (x2)), (3, xI (x3)), (4, xI (x4)), (5, xI (xwr ((x5) + (1)))), (6, xI (x6))]) (xsb_of ⟨rfl, rfl, rfl, rfl, rfl, rfl, rfl, trivial⟩ (show [5, 0, 1, 2, 3, 4, 6].Nodup by decide)) ?_
          exact k328_211  hr113 hx3 hx4 (xin_wr _) hx6 h
      · rw [if_neg c126] at h
        refine xe_goto (off := 47) (nx := 211) (by decide +kernel) (by decide) ?_
        refine xW_lv rfl (l := [(0, xR_ (x0)), (1, xR_ (x1)), (2, xR_ (x2)), (3, xI (x3)), (4, xI (x4)), (5, xI (x5)), (6, xI (x6))]) (xsb_of ⟨rfl, rfl, rfl, rfl, rfl, rfl, rfl, trivial⟩ (show [0, 1, 2, 3, 4, 5, 6].Nodup by decide)) ?_
        exact k328_211  hr113 hx3 hx4 hx5 hx6 h
def f328_113   (f : Nat) : Nat → Nat → Nat → Nat → Int → Int → Int → Int → xj_M → Option (Int × xj_M)
  | 0, _, _, _, _, _, _, _, _ => none
  | n + 1, x0, x1, x2, x3, x4, x5, x6, M => f328_113b   (f328_113   f n) f x0 x1 x2 x3 x4 x5 x6 M
theorem k328_113 {d f : Nat}     : ∀ {n : Nat} {x0 : Nat} {x1 : Nat} {x2 : Nat} {x3 : Int} {x4 : Int} {x5 : Int} {x6 : Int} {M : xj_M} {R : Int × xj_M}, xin x3 → xin x4 → xin x5 → xin x6 → f328_113   f n x0 x1 x2 x3 x4 x5 x6 M = some R → xW (d + 4) (none, d + 4, none) xr_328 (113, [(0, xR_ x0), (1, xR_ x1), (2, xR_ x2), (3, xI x3), (4, xI x4), (5, xI x5), (6, xI x6)], [], M) (xQi R) := by
  intro n
  induction n with
  | zero => intros; rename_i h; cases h
  | succ n ih => intros; rename_i h; exact k328_113b   ih (by assumption) (by assumption) (by assumption) (by assumption) h
def f328_6b  (r6 : Nat → Nat → Nat → Int → Int → Int → Int → xj_M → Option (Int × xj_M)) (f : Nat) (x0 : Nat) (x1 : Nat) (x2 : Nat) (x3 : Int) (x4 : Int) (x5 : Int) (x6 : Int) (M : xj_M) : Option (Int × xj_M) := ((xq_gr 15 80 (x0) M).bind fun v147 => ((xq_gi 12 3 (v147) M).bind fun v149 => (if (v149) ≤ (x6) then f328_113   f f (x0) (x1) (x2) (x3) (x4) (x5) (0) M else ((xq_gr 15 80 (x0) M).bind fun v152 => ((xq_gr 12 0 (v152) M).bind fun v154 => ((xq_al (v154) (x6) M).bind fun v156 => ((xq_gr 15 29 (x0) M).bind fun v158 => ((xq_gr 14 0 (v158) M).bind fun v160 => ((xq_al (v160) (x3) M).bind fun v162 => (if ¬ (v156) = (v162) then f328_104  r6 f (x0) (x1) (x2) (x3) (x4) (x5) (x6) M else ((xq_gr 13 0 (x2) M).bind fun v165 => ((xq_gr 15 80 (x0) M).bind fun v167 => ((f322  f (v165) (v167) (x6) M).bind fun R170 => (if (R170.1) = 0 then (if (x4) = 0 then f328_104  r6 f (x0) (x1) (x2) (x3) (x4) (xwr ((x5) + (1))) (x6) R170.2 else ((xq_gr 15 80 (x0) R170.2).bind fun v174 => ((xq_gr 12 0 (v174) R170.2).bind fun v176 => ((xq_al (v176) (x6) R170.2).bind fun v178 => ((xq_gr 15 80 (x0) R170.2).bind fun v180 => ((xq_gr 12 2 (v180) R170.2).bind fun v182 => ((xq_ai 3 (v182) (x6) R170.2).bind fun v184 => ((xq_gr 15 80 (x0) R170.2).bind fun v186 => ((xq_gr 12 1 (v186) R170.2).bind fun v188 => ((f329  f (x1) (-1) (v178) (v184) (v188) (xwr ((4) * (x6))) R170.2).bind fun M191 => f328_104  r6 f (x0) (x1) (x2) (x3) (x4) (xwr ((x5) + (1))) (x6) M191)))))))))) else f328_104  r6 f (x0) (x1) (x2) (x3) (x4) (x5) (x6) R170.2))))))))))))))
theorem k328_6b {d f : Nat}  {r6 : Nat → Nat → Nat → Int → Int → Int → Int → xj_M → Option (Int × xj_M)}  (hr6 : ∀ {x0 : Nat} {x1 : Nat} {x2 : Nat} {x3 : Int} {x4 : Int} {x5 : Int} {x6 : Int} {M : xj_M} {R : Int × xj_M}, xin x3 → xin x4 → xin x5 → xin x6 → r6 x0 x1 x2 x3 x4 x5 x6 M = some R → xW (d + 4) (none, d + 4, none) xr_328 (6, [(0, xR_ x0), (1, xR_ x1), (2, xR_ x2), (3, xI x3), (4, xI x4), (5, xI x5), (6, xI x6)], [], M) (xQi R)) {x0 : Nat} {x1 : Nat} {x2 : Nat} {x3 : Int} {x4 : Int} {x5 : Int} {x6 : Int} {M : xj_M} {R : Int × xj_M} (hx3 : xin x3) (hx4 : xin x4) (hx5 : xin x5) (hx6 : xin x6) (h : f328_6b  r6 f x0 x1 x2 x3 x4 x5 x6 M = some R) : xW (d + 4) (none, d + 4, none) xr_328 (6, [(0, xR_ x0), (1, xR_ x1), (2, xR_ x2), (3, xI x3), (4, xI x4), (5, xI x5), (6, xI x6)], [], M) (xQi R) := by
  unfold f328_6b at h
  refine xe_ldn (ins := .iload 6) (len := 2) (by decide +kernel) rfl rfl rfl rfl ?_
  refine xe_alr (ins := .aload_n 0) (len := 1) (i := 0) (by decide +kernel) rfl rfl rfl rfl rfl ?_
  obtain ⟨v147, e148, h⟩ := xbnd h
  refine xs_gr (i := 858) (c := 15) (k := 80) (by decide +kernel) (by decide) (by decide +kernel) e148 rfl ?_
  obtain ⟨v149, e150, h⟩ := xbnd h
  refine xs_gi (i := 690) (c := 12) (k := 3) (by decide +kernel) (by decide) (by decide +kernel) e150 rfl ?_
  refine xe_icmpge (off := 95) (t := 110) (by decide +kernel) (by decide) rfl hx6 (xq_gi_in e150) (fun c151 => ?_) (fun c151 => ?_)
  · rw [if_pos c151] at h
    refine xe_iconst (n := 0) (by decide +kernel) rfl ?_
    refine xe_isr (ins := .istore 6) (len := 2) (i := 6) (by decide +kernel) rfl rfl rfl (by decide) (xk_k (show ¬ (0 : Nat) = 6 by decide) (Or.inl (show ¬ (0 + 1 : Nat) = 6 by decide)) (xk_k (show ¬ (1 : Nat) = 6 by decide) (Or.inl (show ¬ (1 + 1 : Nat) = 6 by decide)) (xk_k (show ¬ (2 : Nat) = 6 by decide) (Or.inl (show ¬ (2 + 1 : Nat) = 6 by decide)) (xk_k (show ¬ (3 : Nat) = 6 by decide) (Or.inl (show ¬ (3 + 1 : Nat) = 6 by decide)) (xk_k (show ¬ (4 : Nat) = 6 by decide) (Or.inl (show ¬ (4 + 1 : Nat) = 6 by decide)) (xk_k (show ¬ (5 : Nat) = 6 by decide) (Or.inr (xI_cat _)) (xk_d rfl xk_n))))))) rfl ?_
    refine xW_lv rfl (l := [(0, xR_ (x0)), (1, xR_ (x1)), (2, xR_ (x2)), (3, xI (x3)), (4, xI (x4)), (5, xI (x5)), (6, xI (0))]) (xsb_of ⟨rfl, rfl, rfl, rfl, rfl, rfl, rfl, trivial⟩ (show [6, 0, 1, 2, 3, 4, 5].Nodup by decide)) ?_
    exact k328_113   hx3 hx4 hx5 (show xin (0) by decide) h
  · rw [if_neg c151] at h
    refine xe_alr (ins := .aload_n 0) (len := 1) (i := 0) (by decide +kernel) rfl rfl rfl rfl rfl ?_
    obtain ⟨v152, e153, h⟩ := xbnd h
    refine xs_gr (i := 858) (c := 15) (k := 80) (by decide +kernel) (by decide) (by decide +kernel) e153 rfl ?_
    obtain ⟨v154, e155, h⟩ := xbnd h
    refine xs_gr (i := 694) (c := 12) (k := 0) (by decide +kernel) (by decide) (by decide +kernel) e155 rfl ?_
    refine xe_ldn (ins := .iload 6) (len := 2) (by decide +kernel) rfl rfl rfl rfl ?_
    obtain ⟨v156, e157, h⟩ := xbnd h
    refine xs_lald (by decide +kernel) hx6 e157 rfl ?_
    refine xe_alr (ins := .aload_n 0) (len := 1) (i := 0) (by decide +kernel) rfl rfl rfl rfl rfl ?_
    obtain ⟨v158, e159, h⟩ := xbnd h
    refine xs_gr (i := 439) (c := 15) (k := 29) (by decide +kernel) (by decide) (by decide +kernel) e159 rfl ?_
    obtain ⟨v160, e161, h⟩ := xbnd h
    refine xs_gr (i := 217) (c := 14) (k := 0) (by decide +kernel) (by decide) (by decide +kernel) e161 rfl ?_
    refine xe_ldn (ins := .iload_n 3) (len := 1) (by decide +kernel) rfl rfl rfl rfl ?_
    obtain ⟨v162, e163, h⟩ := xbnd h
    refine xs_lald (by decide +kernel) hx3 e163 rfl ?_
    refine xe_lcmp (by decide +kernel) rfl (xq_al_in e157) (xq_al_in e163) ?_
    refine xe_ifne (off := 66) (t := 104) (by decide +kernel) (by decide) rfl (xin_cmp8 _ _) (fun c164 => ?_) (fun c164 => ?_)
    · have c164 := xcmp8_ne.mp c164; rw [if_pos c164] at h
      refine xW_lv rfl (l := [(0, xR_ (x0)), (1, xR_ (x1)), (2, xR_ (x2)), (3, xI (x3)), (4, xI (x4)), (5, xI (x5)), (6, xI (x6))]) (xsb_of ⟨rfl, rfl, rfl, rfl, rfl, rfl, rfl, trivial⟩ (show [0, 1, 2, 3, 4, 5, 6].Nodup by decide)) ?_
      exact k328_104  hr6 hx3 hx4 hx5 hx6 h
    · have c164 := (not_congr xcmp8_ne).mp c164; rw [if_neg c164] at h
      refine xe_alr (ins := .aload_n 2) (len := 1) (i := 2) (by decide +kernel) rfl rfl rfl rfl rfl ?_
      obtain ⟨v165, e166, h⟩ := xbnd h
      refine xs_gr (i := 679) (c := 13) (k := 0) (by decide +kernel) (by decide) (by decide +kernel) e166 rfl ?_
      refine xe_alr (ins := .aload_n 0) (len := 1) (i := 0) (by decide +kernel) rfl rfl rfl rfl rfl ?_
      obtain ⟨v167, e168, h⟩ := xbnd h
      refine xs_gr (i := 858) (c := 15) (k := 80) (by decide +kernel) (by decide) (by decide +kernel) e168 rfl ?_
      refine xe_ldn (ins := .iload 6) (len := 2) (by decide +kernel) rfl rfl rfl rfl ?_
      obtain ⟨R170, e169, h⟩ := xbnd h
      refine xs_cs (kd := 2) (by decide) (i := 935) (j := 322) (ar := [xI (x6), xR_ (v167), xR_ (v165)]) (rest := []) (r2 := xr_322) (by decide +kernel) (by decide +kernel) (by decide +kernel) xr_322_e rfl (by decide) ?_
      refine xc_i (k322 (d := d + 0)  hx6 e169) rfl (fun hi171 => ?_)
      refine xe_ifeq (off := 6) (t := 60) (by decide +kernel) (by decide) rfl hi171 (fun c172 => ?_) (fun c172 => ?_)
      · rw [if_pos c172] at h
        refine xe_iincr (i := 5) (n := 1) (by decide +kernel) (by decide) rfl (xk_k (show ¬ (0 : Nat) = 5 by decide) (Or.inl (show ¬ (0 + 1 : Nat) = 5 by decide)) (xk_k (show ¬ (1 : Nat) = 5 by decide) (Or.inl (show ¬ (1 + 1 : Nat) = 5 by decide)) (xk_k (show ¬ (2 : Nat) = 5 by decide) (Or.inl (show ¬ (2 + 1 : Nat) = 5 by decide)) (xk_k (show ¬ (3 : Nat) = 5 by decide) (Or.inl (show ¬ (3 + 1 : Nat) = 5 by decide)) (xk_k (show ¬ (4 : Nat) = 5 by decide) (Or.inr (xI_cat _)) (xk_d rfl (xk_k (show ¬ (6 : Nat) = 5 by decide) (Or.inl (show ¬ (6 + 1 : Nat) = 5 by decide)) xk_n))))))) rfl ?_
        refine xe_ldn (ins := .iload 4) (len := 2) (by decide +kernel) rfl rfl rfl rfl ?_
        refine xe_ifeq (off := 39) (t := 104) (by decide +kernel) (by decide) rfl hx4 (fun c173 => ?_) (fun c173 => ?_)
        · rw [if_pos c173] at h
          refine xW_lv rfl (l := [(0, xR_ (x0)), (1, xR_ (x1)), (2, xR_ (x2)), (3, xI (x3)), (4, xI (x4)), (5, xI (xwr ((x5) + (1)))), (6, xI (x6))]) (xsb_of ⟨rfl, rfl, rfl, rfl, rfl, rfl, rfl, trivial⟩ (show [5, 0, 1, 2, 3, 4, 6].Nodup by decide)) ?_
          exact k328_104  hr6 hx3 hx4 (xin_wr _) hx6 h
        · rw [if_neg c173] at h
          refine xe_alr (ins := .aload_n 1) (len := 1) (i := 1) (by decide +kernel) rfl rfl rfl rfl rfl ?_
          refine xe_iconst (n := -1) (by decide +kernel) rfl ?_
          refine xe_alr (ins := .aload_n 0) (len := 1) (i := 0) (by decide +kernel) rfl rfl rfl rfl rfl ?_
          obtain ⟨v174, e175, h⟩ := xbnd h
          refine xs_gr (i := 858) (c := 15) (k := 80) (by decide +kernel) (by decide) (by decide +kernel) e175 rfl ?_
          obtain ⟨v176, e177, h⟩ := xbnd h
          refine xs_gr (i := 694) (c := 12) (k := 0) (by decide +kernel) (by decide) (by decide +kernel) e177 rfl ?_
          refine xe_ldn (ins := .iload 6) (len := 2) (by decide +kernel) rfl rfl rfl rfl ?_
          obtain ⟨v178, e179, h⟩ := xbnd h
          refine xs_lald (by decide +kernel) hx6 e179 rfl ?_
          refine xe_alr (ins := .aload_n 0) (len := 1) (i := 0) (by decide +kernel) rfl rfl rfl rfl rfl ?_
          obtain ⟨v180, e181, h⟩ := xbnd h
          refine xs_gr (i := 858) (c := 15) (k := 80) (by decide +kernel) (by decide) (by decide +kernel) e181 rfl ?_
          obtain ⟨v182, e183, h⟩ := xbnd h
          refine xs_gr (i := 695) (c := 12) (k := 2) (by decide +kernel) (by decide) (by decide +kernel) e183 rfl ?_
          refine xe_ldn (ins := .iload 6) (len := 2) (by decide +kernel) rfl rfl rfl rfl ?_
          obtain ⟨v184, e185, h⟩ := xbnd h
          refine xs_iald rfl (by decide +kernel) hx6 e185 rfl ?_
          refine xe_alr (ins := .aload_n 0) (len := 1) (i := 0) (by decide +kernel) rfl rfl rfl rfl rfl ?_
          obtain ⟨v186, e187, h⟩ := xbnd h
          refine xs_gr (i := 858) (c := 15) (k := 80) (by decide +kernel) (by decide) (by decide +kernel) e187 rfl ?_
          obtain ⟨v188, e189, h⟩ := xbnd h
          refine xs_gr (i := 696) (c := 12) (k := 1) (by decide +kernel) (by decide) (by decide +kernel) e189 rfl ?_
          refine xe_iconst (n := 4) (by decide +kernel) rfl ?_
          refine xe_ldn (ins := .iload 6) (len := 2) (by decide +kernel) rfl rfl rfl rfl ?_
          refine xe_imul (by decide +kernel) rfl ?_
          obtain ⟨M191, e190, h⟩ := xbnd h
          refine xs_cs (kd := 2) (by decide) (i := 939) (j := 329) (ar := [xI (xwr ((4) * (x6))), xR_ (v188), xI (v184), xZ (v178), xI (-1), xR_ (x1)]) (rest := []) (r2 := xr_329) (by decide +kernel) (by decide +kernel) (by decide +kernel) xr_329_e rfl (by decide) ?_
          refine xc_v (k329 (d := d + 3)  (show xin (-1) by decide) (xq_al_in e179) (xq_ai_in e185) (xin_wr _) e190) rfl ?_
          refine xW_lv rfl (l := [(0, xR_ (x0)), (1, xR_ (x1)), (2, xR_ (x2)), (3, xI (x3)), (4, xI (x4)), (5, xI (xwr ((x5) + (1)))), (6, xI (x6))]) (xsb_of ⟨rfl, rfl, rfl, rfl, rfl, rfl, rfl, trivial⟩ (show [5, 0, 1, 2, 3, 4, 6].Nodup by decide)) ?_
          exact k328_104  hr6 hx3 hx4 (xin_wr _) hx6 h
      · rw [if_neg c172] at h
        refine xe_goto (off := 47) (nx := 104) (by decide +kernel) (by decide) ?_
        refine xW_lv rfl (l := [(0, xR_ (x0)), (1, xR_ (x1)), (2, xR_ (x2)), (3, xI (x3)), (4, xI (x4)), (5, xI (x5)), (6, xI (x6))]) (xsb_of ⟨rfl, rfl, rfl, rfl, rfl, rfl, rfl, trivial⟩ (show [0, 1, 2, 3, 4, 5, 6].Nodup by decide)) ?_
        exact k328_104  hr6 hx3 hx4 hx5 hx6 h
def f328_6   (f : Nat) : Nat → Nat → Nat → Nat → Int → Int → Int → Int → xj_M → Option (Int × xj_M)
  | 0, _, _, _, _, _, _, _, _ => none
  | n + 1, x0, x1, x2, x3, x4, x5, x6, M => f328_6b   (f328_6   f n) f x0 x1 x2 x3 x4 x5 x6 M
theorem k328_6 {d f : Nat}     : ∀ {n : Nat} {x0 : Nat} {x1 : Nat} {x2 : Nat} {x3 : Int} {x4 : Int} {x5 : Int} {x6 : Int} {M : xj_M} {R : Int × xj_M}, xin x3 → xin x4 → xin x5 → xin x6 → f328_6   f n x0 x1 x2 x3 x4 x5 x6 M = some R → xW (d + 4) (none, d + 4, none) xr_328 (6, [(0, xR_ x0), (1, xR_ x1), (2, xR_ x2), (3, xI x3), (4, xI x4), (5, xI x5), (6, xI x6)], [], M) (xQi R) := by
  intro n
  induction n with
  | zero => intros; rename_i h; cases h
  | succ n ih => intros; rename_i h; exact k328_6b   ih (by assumption) (by assumption) (by assumption) (by assumption) h
def f328  (f : Nat) (a0 : Nat) (a1 : Nat) (a2 : Nat) (a3 : Int) (a4 : Int) (M : xj_M) : Option (Int × xj_M) := f328_6   f f (a0) (a1) (a2) (a3) (a4) (0) (0) M
theorem k328 {d f : Nat}   {a0 : Nat} {a1 : Nat} {a2 : Nat} {a3 : Int} {a4 : Int} {M : xj_M} {R : Int × xj_M} (ha3 : xin a3) (ha4 : xin a4) (h : f328  f a0 a1 a2 a3 a4 M = some R) : xT (d + 5) 328 [xR_ a0, xR_ a1, xR_ a2, xI a3, xI a4] M (xQi R) := by
  refine xT_m xr_328_e (X := (none, d + 4, none)) rfl (xa_1 (xR_cat _) (xa_1 (xR_cat _) (xa_1 (xR_cat _) (xa_1 (xI_cat _) (xa_1 (xI_cat _) xa_n))))) (by decide) ?_
  unfold f328 at h
  refine xe_iconst (n := 0) (by decide +kernel) rfl ?_
  refine xe_isr (ins := .istore 5) (len := 2) (i := 5) (by decide +kernel) rfl rfl rfl (by decide) (xk_k (show ¬ (0 : Nat) = 5 by decide) (Or.inl (show ¬ (0 + 1 : Nat) = 5 by decide)) (xk_k (show ¬ (1 : Nat) = 5 by decide) (Or.inl (show ¬ (1 + 1 : Nat) = 5 by decide)) (xk_k (show ¬ (2 : Nat) = 5 by decide) (Or.inl (show ¬ (2 + 1 : Nat) = 5 by decide)) (xk_k (show ¬ (3 : Nat) = 5 by decide) (Or.inl (show ¬ (3 + 1 : Nat) = 5 by decide)) (xk_k (show ¬ (4 : Nat) = 5 by decide) (Or.inr (xI_cat _)) xk_n))))) rfl ?_
  refine xe_iconst (n := 0) (by decide +kernel) rfl ?_
  refine xe_isr (ins := .istore 6) (len := 2) (i := 6) (by decide +kernel) rfl rfl rfl (by decide) (xk_k (show ¬ (5 : Nat) = 6 by decide) (Or.inr (xI_cat _)) (xk_k (show ¬ (0 : Nat) = 6 by decide) (Or.inl (show ¬ (0 + 1 : Nat) = 6 by decide)) (xk_k (show ¬ (1 : Nat) = 6 by decide) (Or.inl (show ¬ (1 + 1 : Nat) = 6 by decide)) (xk_k (show ¬ (2 : Nat) = 6 by decide) (Or.inl (show ¬ (2 + 1 : Nat) = 6 by decide)) (xk_k (show ¬ (3 : Nat) = 6 by decide) (Or.inl (show ¬ (3 + 1 : Nat) = 6 by decide)) (xk_k (show ¬ (4 : Nat) = 6 by decide) (Or.inl (show ¬ (4 + 1 : Nat) = 6 by decide)) xk_n)))))) rfl ?_
  refine xW_lv rfl (l := [(0, xR_ (a0)), (1, xR_ (a1)), (2, xR_ (a2)), (3, xI (a3)), (4, xI (a4)), (5, xI (0)), (6, xI (0))]) (xsb_of ⟨rfl, rfl, rfl, rfl, rfl, rfl, rfl, trivial⟩ (show [6, 5, 0, 1, 2, 3, 4].Nodup by decide)) ?_
  exact k328_6   ha3 ha4 (show xin (0) by decide) (show xin (0) by decide) h
-- ChangeHouseModel.signOf
def xr_351 : xj_mR := (15, yX15_signOf, cX15_signOf, 8, (Option.some Jvm.ClassFile.FieldType.long), 3, false, (10, 158), (1, 12))
set_option maxRecDepth 20000 in
theorem xr_351_e : xj_row 351 = some xr_351 := rfl
def f351_15   (f : Nat) (x0 : Nat) (M : xj_M) : Option (Int × xj_M) := ((xq_pi 15 91 (x0) (2) M).bind fun M101 => (some (0, M101)))
theorem k351_15 {d f : Nat}     {x0 : Nat} {M : xj_M} {R : Int × xj_M}  (h : f351_15   f x0 M = some R) : xW (d + 2) (none, d + 2, none) xr_351 (15, [(0, xR_ x0)], [], M) (xQl R) := by
  unfold f351_15 at h
  refine xe_alr (ins := .aload_n 0) (len := 1) (i := 0) (by decide +kernel) rfl rfl rfl rfl rfl ?_
  refine xe_iconst (n := 2) (by decide +kernel) rfl ?_
  obtain ⟨M101, e102, h⟩ := xbnd h
  refine xs_p (i := 1051) (c := 15) (k := 91) (by decide +kernel) (by decide +kernel) (by decide +kernel) e102 rfl ?_
  refine xe_lconst (n := 0) (z := 0) (by decide +kernel) rfl rfl ?_
  cases h
  exact xe_ret_l (by decide +kernel) rfl ⟨rfl, rfl, (show xiN (0) by decide)⟩
def f351_49   (f : Nat) (x6 : Int) (M : xj_M) : Option (Int × xj_M) := (some (x6, M))
theorem k351_49 {d f : Nat}     {x6 : Int} {M : xj_M} {R : Int × xj_M} (hx6 : xiN x6) (h : f351_49   f x6 M = some R) : xW (d + 2) (none, d + 2, none) xr_351 (49, [(6, xZ x6)], [], M) (xQl R) := by
  unfold f351_49 at h
  refine xe_ldn (ins := .lload 6) (len := 2) (by decide +kernel) rfl rfl rfl rfl ?_
  cases h
  exact xe_ret_l (by decide +kernel) rfl ⟨rfl, rfl, hx6⟩
def f351  (f : Nat) (a0 : Nat) (a1 : Int) (a2 : Int) (a3 : Int) (M : xj_M) : Option (Int × xj_M) := ((f267  f (a2) M).bind fun R104 => (if ¬ (R104.1) = 0 then f351_15   f (a0) R104.2 else ((f267  f (a3) R104.2).bind fun R108 => (if (R108.1) = 0 then ((xq_pi 15 42 (a0) (0) R108.2).bind fun M111 => ((xq_is 15 (a0) M111).bind fun _ => ((f268  f (a0) (a1) (a2) (a3) M111).bind fun R115 => ((xq_gi 15 42 (a0) R115.2).bind fun v117 => (if (v117) = 0 then f351_49   f (R115.1) R115.2 else ((xq_pi 15 91 (a0) (3) R115.2).bind fun M120 => f351_49   f (R115.1) M120)))))) else f351_15   f (a0) R108.2))))
theorem k351 {d f : Nat}   {a0 : Nat} {a1 : Int} {a2 : Int} {a3 : Int} {M : xj_M} {R : Int × xj_M} (ha1 : xin a1) (ha2 : xiN a2) (ha3 : xiN a3) (h : f351  f a0 a1 a2 a3 M = some R) : xT (d + 3) 351 [xR_ a0, xI a1, xZ a2, xZ a3] M (xQl R) := by
  refine xT_m xr_351_e (X := (none, d + 2, none)) rfl (xa_1 (xR_cat _) (xa_1 (xI_cat _) (xa_2 (xZ_cat _) (xa_2 (xZ_cat _) xa_n)))) (by decide) ?_
  unfold f351 at h
  refine xe_ldn (ins := .lload_n 2) (len := 1) (by decide +kernel) rfl rfl rfl rfl ?_
  obtain ⟨R104, e103, h⟩ := xbnd h
  refine xs_cs (kd := 2) (by decide) (i := 466) (j := 267) (ar := [xZ (a2)]) (rest := []) (r2 := xr_267) (by decide +kernel) (by decide +kernel) (by decide +kernel) xr_267_e rfl (by decide) ?_
  refine xc_i (k267 (d := d + 1)  ha2 e103) rfl (fun hi105 => ?_)
  refine xe_ifne (off := 11) (t := 15) (by decide +kernel) (by decide) rfl hi105 (fun c106 => ?_) (fun c106 => ?_)
  · rw [if_pos c106] at h
    refine xW_lv rfl (l := [(0, xR_ (a0))]) (xsb_of ⟨rfl, trivial⟩ (show [0, 1, 2, 4].Nodup by decide)) ?_
    exact k351_15    h
  · rw [if_neg c106] at h
    refine xe_ldn (ins := .lload 4) (len := 2) (by decide +kernel) rfl rfl rfl rfl ?_
    obtain ⟨R108, e107, h⟩ := xbnd h
    refine xs_cs (kd := 2) (by decide) (i := 466) (j := 267) (ar := [xZ (a3)]) (rest := []) (r2 := xr_267) (by decide +kernel) (by decide +kernel) (by decide +kernel) xr_267_e rfl (by decide) ?_
    refine xc_i (k267 (d := d + 1)  ha3 e107) rfl (fun hi109 => ?_)
    refine xe_ifeq (off := 10) (t := 22) (by decide +kernel) (by decide) rfl hi109 (fun c110 => ?_) (fun c110 => ?_)
    · rw [if_pos c110] at h
      refine xe_alr (ins := .aload_n 0) (len := 1) (i := 0) (by decide +kernel) rfl rfl rfl rfl rfl ?_
      refine xe_iconst (n := 0) (by decide +kernel) rfl ?_
      obtain ⟨M111, e112, h⟩ := xbnd h
      refine xs_p (i := 453) (c := 15) (k := 42) (by decide +kernel) (by decide +kernel) (by decide +kernel) e112 rfl ?_
      refine xe_alr (ins := .aload_n 0) (len := 1) (i := 0) (by decide +kernel) rfl rfl rfl rfl rfl ?_
      refine xe_ldn (ins := .iload_n 1) (len := 1) (by decide +kernel) rfl rfl rfl rfl ?_
      refine xe_ldn (ins := .lload_n 2) (len := 1) (by decide +kernel) rfl rfl rfl rfl ?_
      refine xe_ldn (ins := .lload 4) (len := 2) (by decide +kernel) rfl rfl rfl rfl ?_
      obtain ⟨_, e114, h⟩ := xbnd h
      obtain ⟨R115, e113, h⟩ := xbnd h
      refine xs_cv (i := 462) (j := 268) (ar := [xZ (a3), xZ (a2), xI (a1)]) (rest := []) (r2 := xr_268) (by decide +kernel) (by decide +kernel) (by decide +kernel) xr_268_e rfl (by decide) (by decide) e114 ?_
      refine xc_l (k268 (d := d + 0)  ha1 ha2 ha3 e113) rfl (fun hi116 => ?_)
      refine xe_lsr (ins := .lstore 6) (len := 2) (i := 6) (by decide +kernel) rfl rfl rfl (by decide) (xk2_k (show ¬ (0 : Nat) = 6 by decide) (show ¬ (0 : Nat) = 6 + 1 by decide) (Or.inl (show ¬ (0 + 1 : Nat) = 6 by decide)) (xk2_k (show ¬ (1 : Nat) = 6 by decide) (show ¬ (1 : Nat) = 6 + 1 by decide) (Or.inl (show ¬ (1 + 1 : Nat) = 6 by decide)) (xk2_k (show ¬ (2 : Nat) = 6 by decide) (show ¬ (2 : Nat) = 6 + 1 by decide) (Or.inl (show ¬ (2 + 1 : Nat) = 6 by decide)) (xk2_k (show ¬ (4 : Nat) = 6 by decide) (show ¬ (4 : Nat) = 6 + 1 by decide) (Or.inl (show ¬ (4 + 1 : Nat) = 6 by decide)) xk2_n)))) rfl ?_
      refine xe_alr (ins := .aload_n 0) (len := 1) (i := 0) (by decide +kernel) rfl rfl rfl rfl rfl ?_
      obtain ⟨v117, e118, h⟩ := xbnd h
      refine xs_gi (i := 453) (c := 15) (k := 42) (by decide +kernel) (by decide) (by decide +kernel) e118 rfl ?_
      refine xe_ifeq (off := 8) (t := 49) (by decide +kernel) (by decide) rfl (xq_gi_in e118) (fun c119 => ?_) (fun c119 => ?_)
      · rw [if_pos c119] at h
        refine xW_lv rfl (l := [(6, xZ (R115.1))]) (xsb_of ⟨rfl, trivial⟩ (show [6, 0, 1, 2, 4].Nodup by decide)) ?_
        exact k351_49   hi116 h
      · rw [if_neg c119] at h
        refine xe_alr (ins := .aload_n 0) (len := 1) (i := 0) (by decide +kernel) rfl rfl rfl rfl rfl ?_
        refine xe_iconst (n := 3) (by decide +kernel) rfl ?_
        obtain ⟨M120, e121, h⟩ := xbnd h
        refine xs_p (i := 1051) (c := 15) (k := 91) (by decide +kernel) (by decide +kernel) (by decide +kernel) e121 rfl ?_
        refine xW_lv rfl (l := [(6, xZ (R115.1))]) (xsb_of ⟨rfl, trivial⟩ (show [6, 0, 1, 2, 4].Nodup by decide)) ?_
        exact k351_49   hi116 h
    · rw [if_neg c110] at h
      refine xW_lv rfl (l := [(0, xR_ (a0))]) (xsb_of ⟨rfl, trivial⟩ (show [0, 1, 2, 4].Nodup by decide)) ?_
      exact k351_15    h
-- ChangeHouseModel.atomRow
def xr_375 : xj_mR := (15, yX15_atomRow, cX15_atomRow, 5, (Option.some Jvm.ClassFile.FieldType.int), 1, false, (14, 60), (1, 12))
set_option maxRecDepth 20000 in
theorem xr_375_e : xj_row 375 = some xr_375 := rfl
def f375_62  (r4 : Nat → Int → Int → xj_M → Option (Int × xj_M)) (f : Nat) (x0 : Nat) (x2 : Int) (x3 : Int) (M : xj_M) : Option (Int × xj_M) := r4 (x0) (x2) (xwr ((x3) + (1))) M
theorem k375_62 {d f : Nat}  {r4 : Nat → Int → Int → xj_M → Option (Int × xj_M)}  (hr4 : ∀ {x0 : Nat} {x2 : Int} {x3 : Int} {M : xj_M} {R : Int × xj_M}, xin x2 → xin x3 → r4 x0 x2 x3 M = some R → xW (d + 3) (none, d + 3, none) xr_375 (4, [(0, xR_ x0), (2, xI x2), (3, xI x3)], [], M) (xQi R)) {x0 : Nat} {x2 : Int} {x3 : Int} {M : xj_M} {R : Int × xj_M} (hx2 : xin x2) (hx3 : xin x3) (h : f375_62  r4 f x0 x2 x3 M = some R) : xW (d + 3) (none, d + 3, none) xr_375 (62, [(0, xR_ x0), (2, xI x2), (3, xI x3)], [], M) (xQi R) := by
  unfold f375_62 at h
  refine xe_iincr (i := 3) (n := 1) (by decide +kernel) (by decide) rfl (xk_k (show ¬ (0 : Nat) = 3 by decide) (Or.inl (show ¬ (0 + 1 : Nat) = 3 by decide)) (xk_k (show ¬ (2 : Nat) = 3 by decide) (Or.inr (xI_cat _)) (xk_d rfl xk_n))) rfl ?_
  refine xe_goto (off := -61) (nx := 4) (by decide +kernel) (by decide) ?_
  refine xW_lv rfl (l := [(0, xR_ (x0)), (2, xI (x2)), (3, xI (xwr ((x3) + (1))))]) (xsb_of ⟨rfl, rfl, rfl, trivial⟩ (show [3, 0, 2].Nodup by decide)) ?_
  exact hr4 hx2 (xin_wr _) h
def f375_4b  (r4 : Nat → Int → Int → xj_M → Option (Int × xj_M)) (f : Nat) (x0 : Nat) (x2 : Int) (x3 : Int) (M : xj_M) : Option (Int × xj_M) := ((xq_gr 15 29 (x0) M).bind fun v101 => ((xq_gr 14 21 (v101) M).bind fun v103 => ((xq_gi 15 39 (x0) M).bind fun v105 => ((xq_ai 3 (v103) (v105) M).bind fun v107 => (if (v107) ≤ (x3) then (some (-1, M)) else ((xq_gi 15 39 (x0) M).bind fun v110 => ((xq_gr 15 29 (x0) M).bind fun v112 => ((xq_gr 14 27 (v112) M).bind fun v114 => ((xq_ai 3 (v114) (xwr ((xwr ((v110) * (8))) + (x3))) M).bind fun v116 => (if (v116) = (1) then (if ¬ (x2) = 0 then f375_62  r4 f (x0) (xwr ((x2) + (-1))) (x3) M else ((xq_is 15 (x0) M).bind fun _ => ((f376  f (x0) (xwr ((xwr ((v110) * (8))) + (x3))) M).bind fun R122 => (some (R122.1, R122.2))))) else f375_62  r4 f (x0) (x2) (x3) M))))))))))
theorem k375_4b {d f : Nat}  {r4 : Nat → Int → Int → xj_M → Option (Int × xj_M)}  (hr4 : ∀ {x0 : Nat} {x2 : Int} {x3 : Int} {M : xj_M} {R : Int × xj_M}, xin x2 → xin x3 → r4 x0 x2 x3 M = some R → xW (d + 3) (none, d + 3, none) xr_375 (4, [(0, xR_ x0), (2, xI x2), (3, xI x3)], [], M) (xQi R)) {x0 : Nat} {x2 : Int} {x3 : Int} {M : xj_M} {R : Int × xj_M} (hx2 : xin x2) (hx3 : xin x3) (h : f375_4b  r4 f x0 x2 x3 M = some R) : xW (d + 3) (none, d + 3, none) xr_375 (4, [(0, xR_ x0), (2, xI x2), (3, xI x3)], [], M) (xQi R) := by
  unfold f375_4b at h
  refine xe_ldn (ins := .iload_n 3) (len := 1) (by decide +kernel) rfl rfl rfl rfl ?_
  refine xe_alr (ins := .aload_n 0) (len := 1) (i := 0) (by decide +kernel) rfl rfl rfl rfl rfl ?_
  obtain ⟨v101, e102, h⟩ := xbnd h
  refine xs_gr (i := 439) (c := 15) (k := 29) (by decide +kernel) (by decide) (by decide +kernel) e102 rfl ?_
  obtain ⟨v103, e104, h⟩ := xbnd h
  refine xs_gr (i := 268) (c := 14) (k := 21) (by decide +kernel) (by decide) (by decide +kernel) e104 rfl ?_
  refine xe_alr (ins := .aload_n 0) (len := 1) (i := 0) (by decide +kernel) rfl rfl rfl rfl rfl ?_
  obtain ⟨v105, e106, h⟩ := xbnd h
  refine xs_gi (i := 501) (c := 15) (k := 39) (by decide +kernel) (by decide) (by decide +kernel) e106 rfl ?_
  obtain ⟨v107, e108, h⟩ := xbnd h
  refine xs_iald rfl (by decide +kernel) (xq_gi_in e106) e108 rfl ?_
  refine xe_icmpge (off := 51) (t := 68) (by decide +kernel) (by decide) rfl hx3 (xq_ai_in e108) (fun c109 => ?_) (fun c109 => ?_)
  · rw [if_pos c109] at h
    refine xe_iconst (n := -1) (by decide +kernel) rfl ?_
    cases h
    exact xe_ret_i (ty := .int) (by decide +kernel) rfl rfl ⟨rfl, rfl, (show xin (-1) by decide)⟩
  · rw [if_neg c109] at h
    refine xe_alr (ins := .aload_n 0) (len := 1) (i := 0) (by decide +kernel) rfl rfl rfl rfl rfl ?_
    obtain ⟨v110, e111, h⟩ := xbnd h
    refine xs_gi (i := 501) (c := 15) (k := 39) (by decide +kernel) (by decide) (by decide +kernel) e111 rfl ?_
    refine xe_bipush (n := 8) (by decide +kernel) (by decide) rfl ?_
    refine xe_imul (by decide +kernel) rfl ?_
    refine xe_ldn (ins := .iload_n 3) (len := 1) (by decide +kernel) rfl rfl rfl rfl ?_
    refine xe_iadd (by decide +kernel) rfl ?_
    refine xe_isr (ins := .istore 4) (len := 2) (i := 4) (by decide +kernel) rfl rfl rfl (by decide) (xk_k (show ¬ (0 : Nat) = 4 by decide) (Or.inl (show ¬ (0 + 1 : Nat) = 4 by decide)) (xk_k (show ¬ (2 : Nat) = 4 by decide) (Or.inl (show ¬ (2 + 1 : Nat) = 4 by decide)) (xk_k (show ¬ (3 : Nat) = 4 by decide) (Or.inr (xI_cat _)) xk_n))) rfl ?_
    refine xe_alr (ins := .aload_n 0) (len := 1) (i := 0) (by decide +kernel) rfl rfl rfl rfl rfl ?_
    obtain ⟨v112, e113, h⟩ := xbnd h
    refine xs_gr (i := 439) (c := 15) (k := 29) (by decide +kernel) (by decide) (by decide +kernel) e113 rfl ?_
    obtain ⟨v114, e115, h⟩ := xbnd h
    refine xs_gr (i := 357) (c := 14) (k := 27) (by decide +kernel) (by decide) (by decide +kernel) e115 rfl ?_
    refine xe_ldn (ins := .iload 4) (len := 2) (by decide +kernel) rfl rfl rfl rfl ?_
    obtain ⟨v116, e117, h⟩ := xbnd h
    refine xs_iald rfl (by decide +kernel) (xin_wr _) e117 rfl ?_
    refine xe_iconst (n := 1) (by decide +kernel) rfl ?_
    refine xe_icmpeq (off := 6) (t := 48) (by decide +kernel) (by decide) rfl (xq_ai_in e117) (show xin (1) by decide) (fun c118 => ?_) (fun c118 => ?_)
    · rw [if_pos c118] at h
      refine xe_ldn (ins := .iload_n 2) (len := 1) (by decide +kernel) rfl rfl rfl rfl ?_
      refine xe_ifne (off := 10) (t := 59) (by decide +kernel) (by decide) rfl hx2 (fun c119 => ?_) (fun c119 => ?_)
      · rw [if_pos c119] at h
        refine xe_iincr (i := 2) (n := -1) (by decide +kernel) (by decide) rfl (xk_k (show ¬ (4 : Nat) = 2 by decide) (Or.inl (show ¬ (4 + 1 : Nat) = 2 by decide)) (xk_k (show ¬ (0 : Nat) = 2 by decide) (Or.inl (show ¬ (0 + 1 : Nat) = 2 by decide)) (xk_d rfl (xk_k (show ¬ (3 : Nat) = 2 by decide) (Or.inl (show ¬ (3 + 1 : Nat) = 2 by decide)) xk_n)))) rfl ?_
        refine xW_lv rfl (l := [(0, xR_ (x0)), (2, xI (xwr ((x2) + (-1)))), (3, xI (x3))]) (xsb_of ⟨rfl, rfl, rfl, trivial⟩ (show [2, 4, 0, 3].Nodup by decide)) ?_
        exact k375_62  hr4 (xin_wr _) hx3 h
      · rw [if_neg c119] at h
        refine xe_alr (ins := .aload_n 0) (len := 1) (i := 0) (by decide +kernel) rfl rfl rfl rfl rfl ?_
        refine xe_ldn (ins := .iload 4) (len := 2) (by decide +kernel) rfl rfl rfl rfl ?_
        obtain ⟨_, e121, h⟩ := xbnd h
        obtain ⟨R122, e120, h⟩ := xbnd h
        refine xs_cv (i := 1153) (j := 376) (ar := [xI (xwr ((xwr ((v110) * (8))) + (x3)))]) (rest := []) (r2 := xr_376) (by decide +kernel) (by decide +kernel) (by decide +kernel) xr_376_e rfl (by decide) (by decide) e121 ?_
        refine xc_i (k376 (d := d + 0)  (xin_wr _) e120) rfl (fun hi123 => ?_)
        cases h
        exact xe_ret_i (ty := .int) (by decide +kernel) rfl rfl ⟨rfl, rfl, hi123⟩
    · rw [if_neg c118] at h
      refine xe_goto (off := 17) (nx := 62) (by decide +kernel) (by decide) ?_
      refine xW_lv rfl (l := [(0, xR_ (x0)), (2, xI (x2)), (3, xI (x3))]) (xsb_of ⟨rfl, rfl, rfl, trivial⟩ (show [4, 0, 2, 3].Nodup by decide)) ?_
      exact k375_62  hr4 hx2 hx3 h
def f375_4   (f : Nat) : Nat → Nat → Int → Int → xj_M → Option (Int × xj_M)
  | 0, _, _, _, _ => none
  | n + 1, x0, x2, x3, M => f375_4b   (f375_4   f n) f x0 x2 x3 M
theorem k375_4 {d f : Nat}     : ∀ {n : Nat} {x0 : Nat} {x2 : Int} {x3 : Int} {M : xj_M} {R : Int × xj_M}, xin x2 → xin x3 → f375_4   f n x0 x2 x3 M = some R → xW (d + 3) (none, d + 3, none) xr_375 (4, [(0, xR_ x0), (2, xI x2), (3, xI x3)], [], M) (xQi R) := by
  intro n
  induction n with
  | zero => intros; rename_i h; cases h
  | succ n ih => intros; rename_i h; exact k375_4b   ih (by assumption) (by assumption) h
def f375  (f : Nat) (a0 : Nat) (a1 : Int) (M : xj_M) : Option (Int × xj_M) := f375_4   f f (a0) (a1) (0) M
theorem k375 {d f : Nat}   {a0 : Nat} {a1 : Int} {M : xj_M} {R : Int × xj_M} (ha1 : xin a1) (h : f375  f a0 a1 M = some R) : xT (d + 4) 375 [xR_ a0, xI a1] M (xQi R) := by
  refine xT_m xr_375_e (X := (none, d + 3, none)) rfl (xa_1 (xR_cat _) (xa_1 (xI_cat _) xa_n)) (by decide) ?_
  unfold f375 at h
  refine xe_ldn (ins := .iload_n 1) (len := 1) (by decide +kernel) rfl rfl rfl rfl ?_
  refine xe_isr (ins := .istore_n 2) (len := 1) (i := 2) (by decide +kernel) rfl rfl rfl (by decide) (xk_k (show ¬ (0 : Nat) = 2 by decide) (Or.inl (show ¬ (0 + 1 : Nat) = 2 by decide)) (xk_k (show ¬ (1 : Nat) = 2 by decide) (Or.inr (xI_cat _)) xk_n)) rfl ?_
  refine xe_iconst (n := 0) (by decide +kernel) rfl ?_
  refine xe_isr (ins := .istore_n 3) (len := 1) (i := 3) (by decide +kernel) rfl rfl rfl (by decide) (xk_k (show ¬ (2 : Nat) = 3 by decide) (Or.inr (xI_cat _)) (xk_k (show ¬ (0 : Nat) = 3 by decide) (Or.inl (show ¬ (0 + 1 : Nat) = 3 by decide)) (xk_k (show ¬ (1 : Nat) = 3 by decide) (Or.inl (show ¬ (1 + 1 : Nat) = 3 by decide)) xk_n))) rfl ?_
  refine xW_lv rfl (l := [(0, xR_ (a0)), (2, xI (a1)), (3, xI (0))]) (xsb_of ⟨rfl, rfl, rfl, trivial⟩ (show [3, 2, 0, 1].Nodup by decide)) ?_
  exact k375_4   ha1 (show xin (0) by decide) h
/-- String.length -/
def xr_385 : xj_mR := (18, yJ0_length_8abf5, cJ0_length_8abf5, 1, (Option.some Jvm.ClassFile.FieldType.int), 0, false, (3, 158), (1, 13))
set_option maxRecDepth 20000 in
theorem xr_385_e : xj_row 385 = some xr_385 := rfl
def f385  (f : Nat) (a0 : Nat) (M : xj_M) : Option (Int × xj_M) := ((xq_sv (a0)).bind fun v101 => ((xq_bl (v101) M).bind fun v103 => ((xq_st (a0)).bind fun _ => ((f389  f (a0) M).bind fun R107 => (some (xshr (v103) (R107.1), R107.2))))))
theorem k385 {d f : Nat}   {a0 : Nat} {M : xj_M} {R : Int × xj_M}  (h : f385  f a0 M = some R) : xT (d + 2) 385 [xR_ a0] M (xQi R) := by
  refine xT_m xr_385_e (X := (none, d + 1, none)) rfl (xa_1 (xR_cat _) xa_n) (by decide) ?_
  unfold f385 at h
  refine xe_alr (ins := .aload_n 0) (len := 1) (i := 0) (by decide +kernel) rfl rfl rfl rfl rfl ?_
  obtain ⟨v101, e102, h⟩ := xbnd h
  refine xe_sval rfl (by decide +kernel) e102 rfl ?_
  obtain ⟨v103, e104, h⟩ := xbnd h
  refine xs_blen rfl (by decide +kernel) e104 rfl ?_
  refine xe_alr (ins := .aload_n 0) (len := 1) (i := 0) (by decide +kernel) rfl rfl rfl rfl rfl ?_
  obtain ⟨_, e106, h⟩ := xbnd h
  obtain ⟨R107, e105, h⟩ := xbnd h
  refine xs_cw (i := 335) (j := 389) (ar := []) (rest := [xI (v103)]) (r2 := xr_389) (by decide +kernel) (by decide +kernel) (by decide +kernel) xr_389_e rfl (by simp only [List.map_cons, List.map_nil, List.sum_cons, List.sum_nil, xR_cat, xI_cat, xZ_cat]; decide) e106 ?_
  refine xc_i (k389 (d := d + 0)   e105) rfl (fun hi108 => ?_)
  refine xe_ishr (by decide +kernel) rfl ?_
  cases h
  exact xe_ret_i (ty := .int) (by decide +kernel) rfl rfl ⟨rfl, rfl, (xin_of _)⟩
/-- String.charAt -/
def xr_386 : xj_mR := (18, yJ0_charAt_5068e, cJ0_charAt_5068e, 2, (Option.some Jvm.ClassFile.FieldType.char), 1, false, (3, 168), (1, 13))
set_option maxRecDepth 20000 in
theorem xr_386_e : xj_row 386 = some xr_386 := rfl
def f386  (f : Nat) (a0 : Nat) (a1 : Int) (M : xj_M) : Option (Int × xj_M) := ((xq_st (a0)).bind fun _ => ((f390  f (a0) M).bind fun R103 => (if (R103.1) = 0 then ((xq_sv (a0)).bind fun v106 => none) else ((xq_sv (a0)).bind fun v108 => ((f393  f (v108) (a1) R103.2).bind fun R111 => (if xnar .char (R111.1) = (R111.1) then some (R111.1, R111.2) else none))))))
theorem k386 {d f : Nat}   {a0 : Nat} {a1 : Int} {M : xj_M} {R : Int × xj_M} (ha1 : xin a1) (h : f386  f a0 a1 M = some R) : xT (d + 4) 386 [xR_ a0, xI a1] M (xQi R) := by
  refine xT_m xr_386_e (X := (none, d + 3, none)) rfl (xa_1 (xR_cat _) (xa_1 (xI_cat _) xa_n)) (by decide) ?_
  unfold f386 at h
  refine xe_alr (ins := .aload_n 0) (len := 1) (i := 0) (by decide +kernel) rfl rfl rfl rfl rfl ?_
  obtain ⟨_, e102, h⟩ := xbnd h
  obtain ⟨R103, e101, h⟩ := xbnd h
  refine xs_cw (i := 492) (j := 390) (ar := []) (rest := []) (r2 := xr_390) (by decide +kernel) (by decide +kernel) (by decide +kernel) xr_390_e rfl (by decide) e102 ?_
  refine xc_i (k390 (d := d + 2)   e101) rfl (fun hi104 => ?_)
  refine xe_ifeq (off := 12) (t := 16) (by decide +kernel) (by decide) rfl hi104 (fun c105 => ?_) (fun c105 => ?_)
  · rw [if_pos c105] at h
    refine xe_alr (ins := .aload_n 0) (len := 1) (i := 0) (by decide +kernel) rfl rfl rfl rfl rfl ?_
    obtain ⟨v106, e107, h⟩ := xbnd h
    refine xe_sval rfl (by decide +kernel) e107 rfl ?_
    refine xe_ldn (ins := .iload_n 1) (len := 1) (by decide +kernel) rfl rfl rfl rfl ?_
    cases h
  · rw [if_neg c105] at h
    refine xe_alr (ins := .aload_n 0) (len := 1) (i := 0) (by decide +kernel) rfl rfl rfl rfl rfl ?_
    obtain ⟨v108, e109, h⟩ := xbnd h
    refine xe_sval rfl (by decide +kernel) e109 rfl ?_
    refine xe_ldn (ins := .iload_n 1) (len := 1) (by decide +kernel) rfl rfl rfl rfl ?_
    obtain ⟨R111, e110, h⟩ := xbnd h
    refine xs_cs (kd := 2) (by decide) (i := 495) (j := 393) (ar := [xI (a1), xR_ (v108)]) (rest := []) (r2 := xr_393) (by decide +kernel) (by decide +kernel) (by decide +kernel) xr_393_e rfl (by decide) ?_
    refine xc_i (k393 (d := d + 0)  ha1 e110) rfl (fun hi112 => ?_)
    by_cases c113 : xnar .char (R111.1) = (R111.1)
    · rw [if_pos c113] at h; cases h; exact xe_ret_i (ty := .char) (by decide +kernel) rfl (xnar_ret (by simp) c113) ⟨rfl, rfl, hi112⟩
    · rw [if_neg c113] at h; cases h
/-- StringLatin1.indexOf -/
def xr_395 : xj_mR := (19, yJ1_indexOf_4cfef, cJ1_indexOf_4cfef, 4, (Option.some Jvm.ClassFile.FieldType.int), 4, false, (4, 12), (1, 14))
set_option maxRecDepth 20000 in
theorem xr_395_e : xj_row 395 = some xr_395 := rfl
def f395  (f : Nat) (a0 : Nat) (a1 : Int) (a2 : Int) (a3 : Int) (M : xj_M) : Option (Int × xj_M) := ((f394  f (a1) M).bind fun R102 => (if ¬ (R102.1) = 0 then ((xq_bl (a0) R102.2).bind fun v105 => (if (xmax (a2) (0)) < (xmin (a3) (v105)) then ((f396  f (a0) (a1) (xmax (a2) (0)) (xmin (a3) (v105)) R102.2).bind fun R109 => (some (R109.1, R109.2))) else (some (-1, R102.2)))) else (some (-1, R102.2))))
theorem k395 {d f : Nat}   {a0 : Nat} {a1 : Int} {a2 : Int} {a3 : Int} {M : xj_M} {R : Int × xj_M} (ha1 : xin a1) (ha2 : xin a2) (ha3 : xin a3) (h : f395  f a0 a1 a2 a3 M = some R) : xT (d + 2) 395 [xR_ a0, xI a1, xI a2, xI a3] M (xQi R) := by
  refine xT_m xr_395_e (X := (none, d + 1, none)) rfl (xa_1 (xR_cat _) (xa_1 (xI_cat _) (xa_1 (xI_cat _) (xa_1 (xI_cat _) xa_n)))) (by decide) ?_
  unfold f395 at h
  refine xe_ldn (ins := .iload_n 1) (len := 1) (by decide +kernel) rfl rfl rfl rfl ?_
  obtain ⟨R102, e101, h⟩ := xbnd h
  refine xs_cs (kd := 2) (by decide) (i := 88) (j := 394) (ar := [xI (a1)]) (rest := []) (r2 := xr_394) (by decide +kernel) (by decide +kernel) (by decide +kernel) xr_394_e rfl (by decide) ?_
  refine xc_i (k394 (d := d + 0)  ha1 e101) rfl (fun hi103 => ?_)
  refine xe_ifne (off := 5) (t := 9) (by decide +kernel) (by decide) rfl hi103 (fun c104 => ?_) (fun c104 => ?_)
  · rw [if_pos c104] at h
    refine xe_ldn (ins := .iload_n 2) (len := 1) (by decide +kernel) rfl rfl rfl rfl ?_
    refine xe_iconst (n := 0) (by decide +kernel) rfl ?_
    refine xe_xmxi (i := 92) (by decide +kernel) (by decide +kernel) (by decide +kernel) (by rfl) rfl ha2 (show xin (0) by decide) ?_
    refine xe_isr (ins := .istore_n 2) (len := 1) (i := 2) (by decide +kernel) rfl rfl rfl (by decide) (xk_k (show ¬ (0 : Nat) = 2 by decide) (Or.inl (show ¬ (0 + 1 : Nat) = 2 by decide)) (xk_k (show ¬ (1 : Nat) = 2 by decide) (Or.inr (xI_cat _)) (xk_d rfl (xk_k (show ¬ (3 : Nat) = 2 by decide) (Or.inl (show ¬ (3 + 1 : Nat) = 2 by decide)) xk_n)))) rfl ?_
    refine xe_ldn (ins := .iload_n 3) (len := 1) (by decide +kernel) rfl rfl rfl rfl ?_
    refine xe_alr (ins := .aload_n 0) (len := 1) (i := 0) (by decide +kernel) rfl rfl rfl rfl rfl ?_
    obtain ⟨v105, e106, h⟩ := xbnd h
    refine xs_blen rfl (by decide +kernel) e106 rfl ?_
    refine xe_xmni (i := 38) (by decide +kernel) (by decide +kernel) (by decide +kernel) (by rfl) rfl ha3 (xq_bl_in e106) ?_
    refine xe_isr (ins := .istore_n 3) (len := 1) (i := 3) (by decide +kernel) rfl rfl rfl (by decide) (xk_k (show ¬ (2 : Nat) = 3 by decide) (Or.inr (xI_cat _)) (xk_k (show ¬ (0 : Nat) = 3 by decide) (Or.inl (show ¬ (0 + 1 : Nat) = 3 by decide)) (xk_k (show ¬ (1 : Nat) = 3 by decide) (Or.inl (show ¬ (1 + 1 : Nat) = 3 by decide)) (xk_d rfl xk_n)))) rfl ?_
    refine xe_ldn (ins := .iload_n 2) (len := 1) (by decide +kernel) rfl rfl rfl rfl ?_
    refine xe_ldn (ins := .iload_n 3) (len := 1) (by decide +kernel) rfl rfl rfl rfl ?_
    refine xe_icmplt (off := 5) (t := 29) (by decide +kernel) (by decide) rfl (xmax_in ha2 (show xin (0) by decide)) (xmin_in ha3 (xq_bl_in e106)) (fun c107 => ?_) (fun c107 => ?_)
    · rw [if_pos c107] at h
      refine xe_alr (ins := .aload_n 0) (len := 1) (i := 0) (by decide +kernel) rfl rfl rfl rfl rfl ?_
      refine xe_ldn (ins := .iload_n 1) (len := 1) (by decide +kernel) rfl rfl rfl rfl ?_
      refine xe_ldn (ins := .iload_n 2) (len := 1) (by decide +kernel) rfl rfl rfl rfl ?_
      refine xe_ldn (ins := .iload_n 3) (len := 1) (by decide +kernel) rfl rfl rfl rfl ?_
      obtain ⟨R109, e108, h⟩ := xbnd h
      refine xs_cs (kd := 2) (by decide) (i := 95) (j := 396) (ar := [xI (xmin (a3) (v105)), xI (xmax (a2) (0)), xI (a1), xR_ (a0)]) (rest := []) (r2 := xr_396) (by decide +kernel) (by decide +kernel) (by decide +kernel) xr_396_e rfl (by decide) ?_
      refine xc_i (k396 (d := d + 0)  ha1 (xmax_in ha2 (show xin (0) by decide)) (xmin_in ha3 (xq_bl_in e106)) e108) rfl (fun hi110 => ?_)
      cases h
      exact xe_ret_i (ty := .int) (by decide +kernel) rfl rfl ⟨rfl, rfl, hi110⟩
    · rw [if_neg c107] at h
      refine xe_iconst (n := -1) (by decide +kernel) rfl ?_
      cases h
      exact xe_ret_i (ty := .int) (by decide +kernel) rfl rfl ⟨rfl, rfl, (show xin (-1) by decide)⟩
  · rw [if_neg c104] at h
    refine xe_iconst (n := -1) (by decide +kernel) rfl ?_
    cases h
    exact xe_ret_i (ty := .int) (by decide +kernel) rfl rfl ⟨rfl, rfl, (show xin (-1) by decide)⟩
-- ChangeHouseModel.worth
def xr_266 : xj_mR := (15, yX15_worth, cX15_worth, 9, (Option.some Jvm.ClassFile.FieldType.long), 2, false, (9, 191), (1, 12))
set_option maxRecDepth 20000 in
theorem xr_266_e : xj_row 266 = some xr_266 := rfl
def f266_142  (r10 : Nat → Int → Int → Int → xj_M → Option (Int × xj_M)) (f : Nat) (x0 : Nat) (x2 : Int) (x3 : Int) (x4 : Int) (M : xj_M) : Option (Int × xj_M) := r10 (x0) (x2) (x3) (xwr ((x4) + (1))) M
theorem k266_142 {d f : Nat}  {r10 : Nat → Int → Int → Int → xj_M → Option (Int × xj_M)}  (hr10 : ∀ {x0 : Nat} {x2 : Int} {x3 : Int} {x4 : Int} {M : xj_M} {R : Int × xj_M}, xin x2 → xin x3 → xin x4 → r10 x0 x2 x3 x4 M = some R → xW (d + 2) (none, d + 2, none) xr_266 (10, [(0, xR_ x0), (2, xI x2), (3, xI x3), (4, xI x4)], [], M) (xQl R)) {x0 : Nat} {x2 : Int} {x3 : Int} {x4 : Int} {M : xj_M} {R : Int × xj_M} (hx2 : xin x2) (hx3 : xin x3) (hx4 : xin x4) (h : f266_142  r10 f x0 x2 x3 x4 M = some R) : xW (d + 2) (none, d + 2, none) xr_266 (142, [(0, xR_ x0), (2, xI x2), (3, xI x3), (4, xI x4)], [], M) (xQl R) := by
  unfold f266_142 at h
  refine xe_iincr (i := 4) (n := 1) (by decide +kernel) (by decide) rfl (xk_k (show ¬ (0 : Nat) = 4 by decide) (Or.inl (show ¬ (0 + 1 : Nat) = 4 by decide)) (xk_k (show ¬ (2 : Nat) = 4 by decide) (Or.inl (show ¬ (2 + 1 : Nat) = 4 by decide)) (xk_k (show ¬ (3 : Nat) = 4 by decide) (Or.inr (xI_cat _)) (xk_d rfl xk_n)))) rfl ?_
  refine xe_goto (off := -135) (nx := 10) (by decide +kernel) (by decide) ?_
  refine xW_lv rfl (l := [(0, xR_ (x0)), (2, xI (x2)), (3, xI (x3)), (4, xI (xwr ((x4) + (1))))]) (xsb_of ⟨rfl, rfl, rfl, rfl, trivial⟩ (show [4, 0, 2, 3].Nodup by decide)) ?_
  exact hr10 hx2 hx3 (xin_wr _) h
def f266_85  (r10 : Nat → Int → Int → Int → xj_M → Option (Int × xj_M)) (f : Nat) (x0 : Nat) (x2 : Int) (x3 : Int) (x4 : Int) (y0 : Int) (y1 : Int) (y2 : Nat) (M : xj_M) : Option (Int × xj_M) := ((xq_sl (y2) (y1) (y0) M).bind fun M101 => f266_142  r10 f (x0) (x2) (xwr ((x3) + (1))) (x4) M101)
theorem k266_85 {d f : Nat}  {r10 : Nat → Int → Int → Int → xj_M → Option (Int × xj_M)}  (hr10 : ∀ {x0 : Nat} {x2 : Int} {x3 : Int} {x4 : Int} {M : xj_M} {R : Int × xj_M}, xin x2 → xin x3 → xin x4 → r10 x0 x2 x3 x4 M = some R → xW (d + 2) (none, d + 2, none) xr_266 (10, [(0, xR_ x0), (2, xI x2), (3, xI x3), (4, xI x4)], [], M) (xQl R)) {x0 : Nat} {x2 : Int} {x3 : Int} {x4 : Int} {y0 : Int} {y1 : Int} {y2 : Nat} {M : xj_M} {R : Int × xj_M} (hx2 : xin x2) (hx3 : xin x3) (hx4 : xin x4) (hy0 : xiN y0) (hy1 : xin y1) (h : f266_85  r10 f x0 x2 x3 x4 y0 y1 y2 M = some R) : xW (d + 2) (none, d + 2, none) xr_266 (85, [(0, xR_ x0), (2, xI x2), (3, xI x3), (4, xI x4)], [xZ y0, xI y1, xR_ y2], M) (xQl R) := by
  unfold f266_85 at h
  obtain ⟨M101, e102, h⟩ := xbnd h
  refine xs_last (by decide +kernel) hy1 e102 rfl ?_
  refine xe_iincr (i := 3) (n := 1) (by decide +kernel) (by decide) rfl (xk_k (show ¬ (0 : Nat) = 3 by decide) (Or.inl (show ¬ (0 + 1 : Nat) = 3 by decide)) (xk_k (show ¬ (2 : Nat) = 3 by decide) (Or.inr (xI_cat _)) (xk_d rfl (xk_k (show ¬ (4 : Nat) = 3 by decide) (Or.inl (show ¬ (4 + 1 : Nat) = 3 by decide)) xk_n)))) rfl ?_
  refine xe_goto (off := 53) (nx := 142) (by decide +kernel) (by decide) ?_
  refine xW_lv rfl (l := [(0, xR_ (x0)), (2, xI (x2)), (3, xI (xwr ((x3) + (1)))), (4, xI (x4))]) (xsb_of ⟨rfl, rfl, rfl, rfl, trivial⟩ (show [3, 0, 2, 4].Nodup by decide)) ?_
  exact k266_142  hr10 hx2 (xin_wr _) hx4 h
def f266_165   (f : Nat) (y0 : Int) (M : xj_M) : Option (Int × xj_M) := (some (y0, M))
theorem k266_165 {d f : Nat}     {y0 : Int} {M : xj_M} {R : Int × xj_M} (hy0 : xiN y0) (h : f266_165   f y0 M = some R) : xW (d + 2) (none, d + 2, none) xr_266 (165, [], [xZ y0], M) (xQl R) := by
  unfold f266_165 at h
  cases h
  exact xe_ret_l (by decide +kernel) rfl ⟨rfl, rfl, hy0⟩
def f266_148   (f : Nat) (x0 : Nat) (M : xj_M) : Option (Int × xj_M) := ((xq_gi 15 42 (x0) M).bind fun v103 => (if (v103) = 0 then ((xq_gr 15 36 (x0) M).bind fun v106 => ((xq_al (v106) (0) M).bind fun v108 => f266_165   f (v108) M)) else f266_165   f (0) M))
theorem k266_148 {d f : Nat}     {x0 : Nat} {M : xj_M} {R : Int × xj_M}  (h : f266_148   f x0 M = some R) : xW (d + 2) (none, d + 2, none) xr_266 (148, [(0, xR_ x0)], [], M) (xQl R) := by
  unfold f266_148 at h
  refine xe_alr (ins := .aload_n 0) (len := 1) (i := 0) (by decide +kernel) rfl rfl rfl rfl rfl ?_
  obtain ⟨v103, e104, h⟩ := xbnd h
  refine xs_gi (i := 453) (c := 15) (k := 42) (by decide +kernel) (by decide) (by decide +kernel) e104 rfl ?_
  refine xe_ifeq (off := 7) (t := 159) (by decide +kernel) (by decide) rfl (xq_gi_in e104) (fun c105 => ?_) (fun c105 => ?_)
  · rw [if_pos c105] at h
    refine xe_alr (ins := .aload_n 0) (len := 1) (i := 0) (by decide +kernel) rfl rfl rfl rfl rfl ?_
    obtain ⟨v106, e107, h⟩ := xbnd h
    refine xs_gr (i := 456) (c := 15) (k := 36) (by decide +kernel) (by decide) (by decide +kernel) e107 rfl ?_
    refine xe_iconst (n := 0) (by decide +kernel) rfl ?_
    obtain ⟨v108, e109, h⟩ := xbnd h
    refine xs_lald (by decide +kernel) (show xin (0) by decide) e109 rfl ?_
    refine xW_lv rfl (l := []) (xsb_of trivial (show [0].Nodup by decide)) ?_
    exact k266_165   (xq_al_in e109) h
  · rw [if_neg c105] at h
    refine xe_lconst (n := 0) (z := 0) (by decide +kernel) rfl rfl ?_
    refine xe_goto (off := 9) (nx := 165) (by decide +kernel) (by decide) ?_
    refine xW_lv rfl (l := []) (xsb_of trivial (show [0].Nodup by decide)) ?_
    exact k266_165   (show xiN (0) by decide) h
def f266_10b  (r10 : Nat → Int → Int → Int → xj_M → Option (Int × xj_M)) (f : Nat) (x0 : Nat) (x2 : Int) (x3 : Int) (x4 : Int) (M : xj_M) : Option (Int × xj_M) := (if (x2) ≤ (x4) then f266_148   f (x0) M else ((xq_gi 15 42 (x0) M).bind fun v111 => (if ¬ (v111) = 0 then f266_148   f (x0) M else ((xq_gr 15 29 (x0) M).bind fun v114 => ((xq_gr 14 35 (v114) M).bind fun v116 => ((xq_ai 3 (v116) (x4) M).bind fun v118 => (if (v118) = (3) then ((xq_gr 15 36 (x0) M).bind fun v121 => ((xq_al (v121) (xwr ((x3) - (1))) M).bind fun v123 => ((xq_gr 15 36 (x0) M).bind fun v125 => ((xq_al (v125) (xwr ((x3) - (2))) M).bind fun v127 => ((xq_gr 15 36 (x0) M).bind fun v129 => ((xq_gr 15 29 (x0) M).bind fun v131 => ((xq_gr 14 36 (v131) M).bind fun v133 => ((xq_al (v133) (x4) M).bind fun v135 => ((xq_is 15 (x0) M).bind fun _ => ((f268  f (x0) (xwr (v135)) (v127) (v123) M).bind fun R139 => ((xq_sl (v129) (xwr ((xwr ((x3) + (-1))) - (1))) (R139.1) R139.2).bind fun M141 => f266_142  r10 f (x0) (x2) (xwr ((x3) + (-1))) (x4) M141))))))))))) else ((xq_gr 15 36 (x0) M).bind fun v143 => ((xq_gr 15 29 (x0) M).bind fun v145 => ((xq_gr 14 35 (v145) M).bind fun v147 => ((xq_ai 3 (v147) (x4) M).bind fun v149 => (if ¬ (v149) = (1) then ((xq_gr 15 35 (x0) M).bind fun v152 => ((xq_gr 15 29 (x0) M).bind fun v154 => ((xq_gr 14 36 (v154) M).bind fun v156 => ((xq_al (v156) (x4) M).bind fun v158 => ((xq_al (v152) (xwr (v158)) M).bind fun v160 => f266_85  r10 f (x0) (x2) (x3) (x4) (v160) (x3) (v143) M))))) else ((xq_gr 15 29 (x0) M).bind fun v162 => ((xq_gr 14 36 (v162) M).bind fun v164 => ((xq_al (v164) (x4) M).bind fun v166 => f266_85  r10 f (x0) (x2) (x3) (x4) (v166) (x3) (v143) M)))))))))))))))
theorem k266_10b {d f : Nat}  {r10 : Nat → Int → Int → Int → xj_M → Option (Int × xj_M)}  (hr10 : ∀ {x0 : Nat} {x2 : Int} {x3 : Int} {x4 : Int} {M : xj_M} {R : Int × xj_M}, xin x2 → xin x3 → xin x4 → r10 x0 x2 x3 x4 M = some R → xW (d + 2) (none, d + 2, none) xr_266 (10, [(0, xR_ x0), (2, xI x2), (3, xI x3), (4, xI x4)], [], M) (xQl R)) {x0 : Nat} {x2 : Int} {x3 : Int} {x4 : Int} {M : xj_M} {R : Int × xj_M} (hx2 : xin x2) (hx3 : xin x3) (hx4 : xin x4) (h : f266_10b  r10 f x0 x2 x3 x4 M = some R) : xW (d + 2) (none, d + 2, none) xr_266 (10, [(0, xR_ x0), (2, xI x2), (3, xI x3), (4, xI x4)], [], M) (xQl R) := by
  unfold f266_10b at h
  refine xe_ldn (ins := .iload 4) (len := 2) (by decide +kernel) rfl rfl rfl rfl ?_
  refine xe_ldn (ins := .iload_n 2) (len := 1) (by decide +kernel) rfl rfl rfl rfl ?_
  refine xe_icmpge (off := 135) (t := 148) (by decide +kernel) (by decide) rfl hx4 hx2 (fun c110 => ?_) (fun c110 => ?_)
  · rw [if_pos c110] at h
    refine xW_lv rfl (l := [(0, xR_ (x0))]) (xsb_of ⟨rfl, trivial⟩ (show [0, 2, 3, 4].Nodup by decide)) ?_
    exact k266_148    h
  · rw [if_neg c110] at h
    refine xe_alr (ins := .aload_n 0) (len := 1) (i := 0) (by decide +kernel) rfl rfl rfl rfl rfl ?_
    obtain ⟨v111, e112, h⟩ := xbnd h
    refine xs_gi (i := 453) (c := 15) (k := 42) (by decide +kernel) (by decide) (by decide +kernel) e112 rfl ?_
    refine xe_ifne (off := 128) (t := 148) (by decide +kernel) (by decide) rfl (xq_gi_in e112) (fun c113 => ?_) (fun c113 => ?_)
    · rw [if_pos c113] at h
      refine xW_lv rfl (l := [(0, xR_ (x0))]) (xsb_of ⟨rfl, trivial⟩ (show [0, 2, 3, 4].Nodup by decide)) ?_
      exact k266_148    h
    · rw [if_neg c113] at h
      refine xe_alr (ins := .aload_n 0) (len := 1) (i := 0) (by decide +kernel) rfl rfl rfl rfl rfl ?_
      obtain ⟨v114, e115, h⟩ := xbnd h
      refine xs_gr (i := 439) (c := 15) (k := 29) (by decide +kernel) (by decide) (by decide +kernel) e115 rfl ?_
      obtain ⟨v116, e117, h⟩ := xbnd h
      refine xs_gr (i := 318) (c := 14) (k := 35) (by decide +kernel) (by decide) (by decide +kernel) e117 rfl ?_
      refine xe_ldn (ins := .iload 4) (len := 2) (by decide +kernel) rfl rfl rfl rfl ?_
      obtain ⟨v118, e119, h⟩ := xbnd h
      refine xs_iald rfl (by decide +kernel) hx4 e119 rfl ?_
      refine xe_iconst (n := 3) (by decide +kernel) rfl ?_
      refine xe_icmpeq (off := 58) (t := 92) (by decide +kernel) (by decide) rfl (xq_ai_in e119) (show xin (3) by decide) (fun c120 => ?_) (fun c120 => ?_)
      · rw [if_pos c120] at h
        refine xe_alr (ins := .aload_n 0) (len := 1) (i := 0) (by decide +kernel) rfl rfl rfl rfl rfl ?_
        obtain ⟨v121, e122, h⟩ := xbnd h
        refine xs_gr (i := 456) (c := 15) (k := 36) (by decide +kernel) (by decide) (by decide +kernel) e122 rfl ?_
        refine xe_ldn (ins := .iload_n 3) (len := 1) (by decide +kernel) rfl rfl rfl rfl ?_
        refine xe_iconst (n := 1) (by decide +kernel) rfl ?_
        refine xe_isub (by decide +kernel) rfl ?_
        obtain ⟨v123, e124, h⟩ := xbnd h
        refine xs_lald (by decide +kernel) (xin_wr _) e124 rfl ?_
        refine xe_lsr (ins := .lstore 5) (len := 2) (i := 5) (by decide +kernel) rfl rfl rfl (by decide) (xk2_k (show ¬ (0 : Nat) = 5 by decide) (show ¬ (0 : Nat) = 5 + 1 by decide) (Or.inl (show ¬ (0 + 1 : Nat) = 5 by decide)) (xk2_k (show ¬ (2 : Nat) = 5 by decide) (show ¬ (2 : Nat) = 5 + 1 by decide) (Or.inl (show ¬ (2 + 1 : Nat) = 5 by decide)) (xk2_k (show ¬ (3 : Nat) = 5 by decide) (show ¬ (3 : Nat) = 5 + 1 by decide) (Or.inl (show ¬ (3 + 1 : Nat) = 5 by decide)) (xk2_k (show ¬ (4 : Nat) = 5 by decide) (show ¬ (4 : Nat) = 5 + 1 by decide) (Or.inr (xI_cat _)) xk2_n)))) rfl ?_
        refine xe_alr (ins := .aload_n 0) (len := 1) (i := 0) (by decide +kernel) rfl rfl rfl rfl rfl ?_
        obtain ⟨v125, e126, h⟩ := xbnd h
        refine xs_gr (i := 456) (c := 15) (k := 36) (by decide +kernel) (by decide) (by decide +kernel) e126 rfl ?_
        refine xe_ldn (ins := .iload_n 3) (len := 1) (by decide +kernel) rfl rfl rfl rfl ?_
        refine xe_iconst (n := 2) (by decide +kernel) rfl ?_
        refine xe_isub (by decide +kernel) rfl ?_
        obtain ⟨v127, e128, h⟩ := xbnd h
        refine xs_lald (by decide +kernel) (xin_wr _) e128 rfl ?_
        refine xe_lsr (ins := .lstore 7) (len := 2) (i := 7) (by decide +kernel) rfl rfl rfl (by decide) (xk2_k (show ¬ (5 : Nat) = 7 by decide) (show ¬ (5 : Nat) = 7 + 1 by decide) (Or.inl (show ¬ (5 + 1 : Nat) = 7 by decide)) (xk2_k (show ¬ (0 : Nat) = 7 by decide) (show ¬ (0 : Nat) = 7 + 1 by decide) (Or.inl (show ¬ (0 + 1 : Nat) = 7 by decide)) (xk2_k (show ¬ (2 : Nat) = 7 by decide) (show ¬ (2 : Nat) = 7 + 1 by decide) (Or.inl (show ¬ (2 + 1 : Nat) = 7 by decide)) (xk2_k (show ¬ (3 : Nat) = 7 by decide) (show ¬ (3 : Nat) = 7 + 1 by decide) (Or.inl (show ¬ (3 + 1 : Nat) = 7 by decide)) (xk2_k (show ¬ (4 : Nat) = 7 by decide) (show ¬ (4 : Nat) = 7 + 1 by decide) (Or.inl (show ¬ (4 + 1 : Nat) = 7 by decide)) xk2_n))))) rfl ?_
        refine xe_iincr (i := 3) (n := -1) (by decide +kernel) (by decide) rfl (xk_k (show ¬ (7 : Nat) = 3 by decide) (Or.inl (show ¬ (7 + 1 : Nat) = 3 by decide)) (xk_k (show ¬ (5 : Nat) = 3 by decide) (Or.inl (show ¬ (5 + 1 : Nat) = 3 by decide)) (xk_k (show ¬ (0 : Nat) = 3 by decide) (Or.inl (show ¬ (0 + 1 : Nat) = 3 by decide)) (xk_k (show ¬ (2 : Nat) = 3 by decide) (Or.inr (xI_cat _)) (xk_d rfl (xk_k (show ¬ (4 : Nat) = 3 by decide) (Or.inl (show ¬ (4 + 1 : Nat) = 3 by decide)) xk_n)))))) rfl ?_
        refine xe_alr (ins := .aload_n 0) (len := 1) (i := 0) (by decide +kernel) rfl rfl rfl rfl rfl ?_
        obtain ⟨v129, e130, h⟩ := xbnd h
        refine xs_gr (i := 456) (c := 15) (k := 36) (by decide +kernel) (by decide) (by decide +kernel) e130 rfl ?_
        refine xe_ldn (ins := .iload_n 3) (len := 1) (by decide +kernel) rfl rfl rfl rfl ?_
        refine xe_iconst (n := 1) (by decide +kernel) rfl ?_
        refine xe_isub (by decide +kernel) rfl ?_
        refine xe_alr (ins := .aload_n 0) (len := 1) (i := 0) (by decide +kernel) rfl rfl rfl rfl rfl ?_
        refine xe_alr (ins := .aload_n 0) (len := 1) (i := 0) (by decide +kernel) rfl rfl rfl rfl rfl ?_
        obtain ⟨v131, e132, h⟩ := xbnd h
        refine xs_gr (i := 439) (c := 15) (k := 29) (by decide +kernel) (by decide) (by decide +kernel) e132 rfl ?_
        obtain ⟨v133, e134, h⟩ := xbnd h
        refine xs_gr (i := 321) (c := 14) (k := 36) (by decide +kernel) (by decide) (by decide +kernel) e134 rfl ?_
        refine xe_ldn (ins := .iload 4) (len := 2) (by decide +kernel) rfl rfl rfl rfl ?_
        obtain ⟨v135, e136, h⟩ := xbnd h
        refine xs_lald (by decide +kernel) hx4 e136 rfl ?_
        refine xe_l2i (by decide +kernel) rfl ?_
        refine xe_ldn (ins := .lload 7) (len := 2) (by decide +kernel) rfl rfl rfl rfl ?_
        refine xe_ldn (ins := .lload 5) (len := 2) (by decide +kernel) rfl rfl rfl rfl ?_
        obtain ⟨_, e138, h⟩ := xbnd h
        obtain ⟨R139, e137, h⟩ := xbnd h
        refine xs_cv (i := 462) (j := 268) (ar := [xZ (v123), xZ (v127), xI (xwr (v135))]) (rest := [xI (xwr ((xwr ((x3) + (-1))) - (1))), xR_ (v129)]) (r2 := xr_268) (by decide +kernel) (by decide +kernel) (by decide +kernel) xr_268_e rfl (by decide) (by simp only [List.map_cons, List.map_nil, List.sum_cons, List.sum_nil, xR_cat, xI_cat, xZ_cat]; decide) e138 ?_
        refine xc_l (k268 (d := d + 0)  (xin_wr _) (xq_al_in e128) (xq_al_in e124) e137) rfl (fun hi140 => ?_)
        obtain ⟨M141, e142, h⟩ := xbnd h
        refine xs_last (by decide +kernel) (xin_wr _) e142 rfl ?_
        refine xW_lv rfl (l := [(0, xR_ (x0)), (2, xI (x2)), (3, xI (xwr ((x3) + (-1)))), (4, xI (x4))]) (xsb_of ⟨rfl, rfl, rfl, rfl, trivial⟩ (show [3, 7, 5, 0, 2, 4].Nodup by decide)) ?_
        exact k266_142  hr10 hx2 (xin_wr _) hx4 h
      · rw [if_neg c120] at h
        refine xe_alr (ins := .aload_n 0) (len := 1) (i := 0) (by decide +kernel) rfl rfl rfl rfl rfl ?_
        obtain ⟨v143, e144, h⟩ := xbnd h
        refine xs_gr (i := 456) (c := 15) (k := 36) (by decide +kernel) (by decide) (by decide +kernel) e144 rfl ?_
        refine xe_ldn (ins := .iload_n 3) (len := 1) (by decide +kernel) rfl rfl rfl rfl ?_
        refine xe_alr (ins := .aload_n 0) (len := 1) (i := 0) (by decide +kernel) rfl rfl rfl rfl rfl ?_
        obtain ⟨v145, e146, h⟩ := xbnd h
        refine xs_gr (i := 439) (c := 15) (k := 29) (by decide +kernel) (by decide) (by decide +kernel) e146 rfl ?_
        obtain ⟨v147, e148, h⟩ := xbnd h
        refine xs_gr (i := 318) (c := 14) (k := 35) (by decide +kernel) (by decide) (by decide +kernel) e148 rfl ?_
        refine xe_ldn (ins := .iload 4) (len := 2) (by decide +kernel) rfl rfl rfl rfl ?_
        obtain ⟨v149, e150, h⟩ := xbnd h
        refine xs_iald rfl (by decide +kernel) hx4 e150 rfl ?_
        refine xe_iconst (n := 1) (by decide +kernel) rfl ?_
        refine xe_icmpne (off := 16) (t := 69) (by decide +kernel) (by decide) rfl (xq_ai_in e150) (show xin (1) by decide) (fun c151 => ?_) (fun c151 => ?_)
        · rw [if_pos c151] at h
          refine xe_alr (ins := .aload_n 0) (len := 1) (i := 0) (by decide +kernel) rfl rfl rfl rfl rfl ?_
          obtain ⟨v152, e153, h⟩ := xbnd h
          refine xs_gr (i := 459) (c := 15) (k := 35) (by decide +kernel) (by decide) (by decide +kernel) e153 rfl ?_
          refine xe_alr (ins := .aload_n 0) (len := 1) (i := 0) (by decide +kernel) rfl rfl rfl rfl rfl ?_
          obtain ⟨v154, e155, h⟩ := xbnd h
          refine xs_gr (i := 439) (c := 15) (k := 29) (by decide +kernel) (by decide) (by decide +kernel) e155 rfl ?_
          obtain ⟨v156, e157, h⟩ := xbnd h
          refine xs_gr (i := 321) (c := 14) (k := 36) (by decide +kernel) (by decide) (by decide +kernel) e157 rfl ?_
          refine xe_ldn (ins := .iload 4) (len := 2) (by decide +kernel) rfl rfl rfl rfl ?_
          obtain ⟨v158, e159, h⟩ := xbnd h
          refine xs_lald (by decide +kernel) hx4 e159 rfl ?_
          refine xe_l2i (by decide +kernel) rfl ?_
          obtain ⟨v160, e161, h⟩ := xbnd h
          refine xs_lald (by decide +kernel) (xin_wr _) e161 rfl ?_
          refine xW_lv rfl (l := [(0, xR_ (x0)), (2, xI (x2)), (3, xI (x3)), (4, xI (x4))]) (xsb_of ⟨rfl, rfl, rfl, rfl, trivial⟩ (show [0, 2, 3, 4].Nodup by decide)) ?_
          exact k266_85  hr10 hx2 hx3 hx4 (xq_al_in e161) hx3 h
        · rw [if_neg c151] at h
          refine xe_alr (ins := .aload_n 0) (len := 1) (i := 0) (by decide +kernel) rfl rfl rfl rfl rfl ?_
          obtain ⟨v162, e163, h⟩ := xbnd h
          refine xs_gr (i := 439) (c := 15) (k := 29) (by decide +kernel) (by decide) (by decide +kernel) e163 rfl ?_
          obtain ⟨v164, e165, h⟩ := xbnd h
          refine xs_gr (i := 321) (c := 14) (k := 36) (by decide +kernel) (by decide) (by decide +kernel) e165 rfl ?_
          refine xe_ldn (ins := .iload 4) (len := 2) (by decide +kernel) rfl rfl rfl rfl ?_
          obtain ⟨v166, e167, h⟩ := xbnd h
          refine xs_lald (by decide +kernel) hx4 e167 rfl ?_
          refine xe_goto (off := 19) (nx := 85) (by decide +kernel) (by decide) ?_
          refine xW_lv rfl (l := [(0, xR_ (x0)), (2, xI (x2)), (3, xI (x3)), (4, xI (x4))]) (xsb_of ⟨rfl, rfl, rfl, rfl, trivial⟩ (show [0, 2, 3, 4].Nodup by decide)) ?_
          exact k266_85  hr10 hx2 hx3 hx4 (xq_al_in e167) hx3 h
def f266_10   (f : Nat) : Nat → Nat → Int → Int → Int → xj_M → Option (Int × xj_M)
  | 0, _, _, _, _, _ => none
  | n + 1, x0, x2, x3, x4, M => f266_10b   (f266_10   f n) f x0 x2 x3 x4 M
theorem k266_10 {d f : Nat}     : ∀ {n : Nat} {x0 : Nat} {x2 : Int} {x3 : Int} {x4 : Int} {M : xj_M} {R : Int × xj_M}, xin x2 → xin x3 → xin x4 → f266_10   f n x0 x2 x3 x4 M = some R → xW (d + 2) (none, d + 2, none) xr_266 (10, [(0, xR_ x0), (2, xI x2), (3, xI x3), (4, xI x4)], [], M) (xQl R) := by
  intro n
  induction n with
  | zero => intros; rename_i h; cases h
  | succ n ih => intros; rename_i h; exact k266_10b   ih (by assumption) (by assumption) (by assumption) h
def f266  (f : Nat) (a0 : Nat) (a1 : Int) (a2 : Int) (M : xj_M) : Option (Int × xj_M) := ((xq_pi 15 42 (a0) (0) M).bind fun M168 => f266_10   f f (a0) (a2) (0) (a1) M168)
theorem k266 {d f : Nat}   {a0 : Nat} {a1 : Int} {a2 : Int} {M : xj_M} {R : Int × xj_M} (ha1 : xin a1) (ha2 : xin a2) (h : f266  f a0 a1 a2 M = some R) : xT (d + 3) 266 [xR_ a0, xI a1, xI a2] M (xQl R) := by
  refine xT_m xr_266_e (X := (none, d + 2, none)) rfl (xa_1 (xR_cat _) (xa_1 (xI_cat _) (xa_1 (xI_cat _) xa_n))) (by decide) ?_
  unfold f266 at h
  refine xe_iconst (n := 0) (by decide +kernel) rfl ?_
  refine xe_isr (ins := .istore_n 3) (len := 1) (i := 3) (by decide +kernel) rfl rfl rfl (by decide) (xk_k (show ¬ (0 : Nat) = 3 by decide) (Or.inl (show ¬ (0 + 1 : Nat) = 3 by decide)) (xk_k (show ¬ (1 : Nat) = 3 by decide) (Or.inl (show ¬ (1 + 1 : Nat) = 3 by decide)) (xk_k (show ¬ (2 : Nat) = 3 by decide) (Or.inr (xI_cat _)) xk_n))) rfl ?_
  refine xe_alr (ins := .aload_n 0) (len := 1) (i := 0) (by decide +kernel) rfl rfl rfl rfl rfl ?_
  refine xe_iconst (n := 0) (by decide +kernel) rfl ?_
  obtain ⟨M168, e169, h⟩ := xbnd h
  refine xs_p (i := 453) (c := 15) (k := 42) (by decide +kernel) (by decide +kernel) (by decide +kernel) e169 rfl ?_
  refine xe_ldn (ins := .iload_n 1) (len := 1) (by decide +kernel) rfl rfl rfl rfl ?_
  refine xe_isr (ins := .istore 4) (len := 2) (i := 4) (by decide +kernel) rfl rfl rfl (by decide) (xk_k (show ¬ (3 : Nat) = 4 by decide) (Or.inr (xI_cat _)) (xk_k (show ¬ (0 : Nat) = 4 by decide) (Or.inl (show ¬ (0 + 1 : Nat) = 4 by decide)) (xk_k (show ¬ (1 : Nat) = 4 by decide) (Or.inl (show ¬ (1 + 1 : Nat) = 4 by decide)) (xk_k (show ¬ (2 : Nat) = 4 by decide) (Or.inl (show ¬ (2 + 1 : Nat) = 4 by decide)) xk_n)))) rfl ?_
  refine xW_lv rfl (l := [(0, xR_ (a0)), (2, xI (a2)), (3, xI (0)), (4, xI (a1))]) (xsb_of ⟨rfl, rfl, rfl, rfl, trivial⟩ (show [4, 3, 0, 1, 2].Nodup by decide)) ?_
  exact k266_10   ha2 (show xin (0) by decide) ha1 h
-- ChangeHouseModel.binds
def xr_278 : xj_mR := (15, yX15_binds, cX15_binds, 7, (Option.some Jvm.ClassFile.FieldType.boolean), 4, false, (9, 183), (1, 12))
set_option maxRecDepth 20000 in
theorem xr_278_e : xj_row 278 = some xr_278 := rfl
def f278_49   (f : Nat)  (M : xj_M) : Option (Int × xj_M) := (some (1, M))
theorem k278_49 {d f : Nat}      {M : xj_M} {R : Int × xj_M}  (h : f278_49   f  M = some R) : xW (d + 3) (none, d + 3, none) xr_278 (49, [], [], M) (xQi R) := by
  unfold f278_49 at h
  refine xe_iconst (n := 1) (by decide +kernel) rfl ?_
  cases h
  exact xe_ret_i (ty := .boolean) (by decide +kernel) rfl (by decide) ⟨rfl, rfl, (show xin (1) by decide)⟩
def f278  (f : Nat) (a0 : Nat) (a1 : Int) (a2 : Int) (a3 : Int) (a4 : Int) (M : xj_M) : Option (Int × xj_M) := ((xq_gr 15 29 (a0) M).bind fun v101 => ((f256  f (v101) (a1) (a2) M).bind fun R104 => (if (R104.1) = 0 then f278_49   f  R104.2 else ((xq_gr 15 29 (a0) R104.2).bind fun v107 => ((xq_gr 14 36 (v107) R104.2).bind fun v109 => ((xq_al (v109) (a1) R104.2).bind fun v111 => ((xq_is 15 (a0) R104.2).bind fun _ => ((f270  f (a0) (xwr (v111)) R104.2).bind fun R115 => (if ¬ (R115.1) = 0 then f278_49   f  R115.2 else ((xq_gr 15 29 (a0) R115.2).bind fun v118 => ((f255  f (v118) (a3) (a4) R115.2).bind fun R121 => ((xq_gi 15 37 (a0) R121.2).bind fun v123 => (if (xand (R121.1) (xxor (v123) (-1))) = 0 then ((xq_is 15 (a0) R121.2).bind fun _ => ((f266  f (a0) (a3) (a4) R121.2).bind fun R128 => ((xq_gi 15 42 (a0) R128.2).bind fun v130 => (if (v130) = 0 then ((xq_gr 15 35 (a0) R128.2).bind fun v133 => ((xq_gr 15 29 (a0) R128.2).bind fun v135 => ((xq_gr 14 36 (v135) R128.2).bind fun v137 => ((xq_al (v137) (a1) R128.2).bind fun v139 => ((xq_sl (v133) (xwr (v139)) (R128.1) R128.2).bind fun M141 => ((xq_gi 15 37 (a0) M141).bind fun v143 => ((xq_gr 15 29 (a0) M141).bind fun v145 => ((xq_gr 14 36 (v145) M141).bind fun v147 => ((xq_al (v147) (a1) M141).bind fun v149 => ((xq_pi 15 37 (a0) (xor_ (v143) (xshl (1) (xwr (v149)))) M141).bind fun M151 => (some (1, M151)))))))))))) else (some (0, R128.2)))))) else f278_49   f  R121.2)))))))))))))
theorem k278 {d f : Nat}   {a0 : Nat} {a1 : Int} {a2 : Int} {a3 : Int} {a4 : Int} {M : xj_M} {R : Int × xj_M} (ha1 : xin a1) (ha2 : xin a2) (ha3 : xin a3) (ha4 : xin a4) (h : f278  f a0 a1 a2 a3 a4 M = some R) : xT (d + 4) 278 [xR_ a0, xI a1, xI a2, xI a3, xI a4] M (xQi R) := by
  refine xT_m xr_278_e (X := (none, d + 3, none)) rfl (xa_1 (xR_cat _) (xa_1 (xI_cat _) (xa_1 (xI_cat _) (xa_1 (xI_cat _) (xa_1 (xI_cat _) xa_n))))) (by decide) ?_
  unfold f278 at h
  refine xe_alr (ins := .aload_n 0) (len := 1) (i := 0) (by decide +kernel) rfl rfl rfl rfl rfl ?_
  obtain ⟨v101, e102, h⟩ := xbnd h
  refine xs_gr (i := 439) (c := 15) (k := 29) (by decide +kernel) (by decide) (by decide +kernel) e102 rfl ?_
  refine xe_ldn (ins := .iload_n 1) (len := 1) (by decide +kernel) rfl rfl rfl rfl ?_
  refine xe_ldn (ins := .iload_n 2) (len := 1) (by decide +kernel) rfl rfl rfl rfl ?_
  obtain ⟨R104, e103, h⟩ := xbnd h
  refine xs_cs (kd := 2) (by decide) (i := 413) (j := 256) (ar := [xI (a2), xI (a1), xR_ (v101)]) (rest := []) (r2 := xr_256) (by decide +kernel) (by decide +kernel) (by decide +kernel) xr_256_e rfl (by decide) ?_
  refine xc_i (k256 (d := d + 2)  ha1 ha2 e103) rfl (fun hi105 => ?_)
  refine xe_ifeq (off := 40) (t := 49) (by decide +kernel) (by decide) rfl hi105 (fun c106 => ?_) (fun c106 => ?_)
  · rw [if_pos c106] at h
    refine xW_lv rfl (l := []) (xsb_of trivial (show [0, 1, 2, 3, 4].Nodup by decide)) ?_
    exact k278_49    h
  · rw [if_neg c106] at h
    refine xe_alr (ins := .aload_n 0) (len := 1) (i := 0) (by decide +kernel) rfl rfl rfl rfl rfl ?_
    refine xe_alr (ins := .aload_n 0) (len := 1) (i := 0) (by decide +kernel) rfl rfl rfl rfl rfl ?_
    obtain ⟨v107, e108, h⟩ := xbnd h
    refine xs_gr (i := 439) (c := 15) (k := 29) (by decide +kernel) (by decide) (by decide +kernel) e108 rfl ?_
    obtain ⟨v109, e110, h⟩ := xbnd h
    refine xs_gr (i := 321) (c := 14) (k := 36) (by decide +kernel) (by decide) (by decide +kernel) e110 rfl ?_
    refine xe_ldn (ins := .iload_n 1) (len := 1) (by decide +kernel) rfl rfl rfl rfl ?_
    obtain ⟨v111, e112, h⟩ := xbnd h
    refine xs_lald (by decide +kernel) ha1 e112 rfl ?_
    refine xe_l2i (by decide +kernel) rfl ?_
    obtain ⟨_, e114, h⟩ := xbnd h
    obtain ⟨R115, e113, h⟩ := xbnd h
    refine xs_cv (i := 488) (j := 270) (ar := [xI (xwr (v111))]) (rest := []) (r2 := xr_270) (by decide +kernel) (by decide +kernel) (by decide +kernel) xr_270_e rfl (by decide) (by decide) e114 ?_
    refine xc_i (k270 (d := d + 2)  (xin_wr _) e113) rfl (fun hi116 => ?_)
    refine xe_ifne (off := 23) (t := 49) (by decide +kernel) (by decide) rfl hi116 (fun c117 => ?_) (fun c117 => ?_)
    · rw [if_pos c117] at h
      refine xW_lv rfl (l := []) (xsb_of trivial (show [0, 1, 2, 3, 4].Nodup by decide)) ?_
      exact k278_49    h
    · rw [if_neg c117] at h
      refine xe_alr (ins := .aload_n 0) (len := 1) (i := 0) (by decide +kernel) rfl rfl rfl rfl rfl ?_
      obtain ⟨v118, e119, h⟩ := xbnd h
      refine xs_gr (i := 439) (c := 15) (k := 29) (by decide +kernel) (by decide) (by decide +kernel) e119 rfl ?_
      refine xe_ldn (ins := .iload_n 3) (len := 1) (by decide +kernel) rfl rfl rfl rfl ?_
      refine xe_ldn (ins := .iload 4) (len := 2) (by decide +kernel) rfl rfl rfl rfl ?_
      obtain ⟨R121, e120, h⟩ := xbnd h
      refine xs_cs (kd := 2) (by decide) (i := 409) (j := 255) (ar := [xI (a4), xI (a3), xR_ (v118)]) (rest := []) (r2 := xr_255) (by decide +kernel) (by decide +kernel) (by decide +kernel) xr_255_e rfl (by decide) ?_
      refine xc_i (k255 (d := d + 2)  ha3 ha4 e120) rfl (fun hi122 => ?_)
      refine xe_alr (ins := .aload_n 0) (len := 1) (i := 0) (by decide +kernel) rfl rfl rfl rfl rfl ?_
      obtain ⟨v123, e124, h⟩ := xbnd h
      refine xs_gi (i := 479) (c := 15) (k := 37) (by decide +kernel) (by decide) (by decide +kernel) e124 rfl ?_
      refine xe_iconst (n := -1) (by decide +kernel) rfl ?_
      refine xe_ixor (by decide +kernel) rfl ?_
      refine xe_iand (by decide +kernel) rfl ?_
      refine xe_ifeq (off := 5) (t := 51) (by decide +kernel) (by decide) rfl (xin_of _) (fun c125 => ?_) (fun c125 => ?_)
      · rw [if_pos c125] at h
        refine xe_alr (ins := .aload_n 0) (len := 1) (i := 0) (by decide +kernel) rfl rfl rfl rfl rfl ?_
        refine xe_ldn (ins := .iload_n 3) (len := 1) (by decide +kernel) rfl rfl rfl rfl ?_
        refine xe_ldn (ins := .iload 4) (len := 2) (by decide +kernel) rfl rfl rfl rfl ?_
        obtain ⟨_, e127, h⟩ := xbnd h
        obtain ⟨R128, e126, h⟩ := xbnd h
        refine xs_cv (i := 529) (j := 266) (ar := [xI (a4), xI (a3)]) (rest := []) (r2 := xr_266) (by decide +kernel) (by decide +kernel) (by decide +kernel) xr_266_e rfl (by decide) (by decide) e127 ?_
        refine xc_l (k266 (d := d + 0)  ha3 ha4 e126) rfl (fun hi129 => ?_)
        refine xe_lsr (ins := .lstore 5) (len := 2) (i := 5) (by decide +kernel) rfl rfl rfl (by decide) (xk2_k (show ¬ (0 : Nat) = 5 by decide) (show ¬ (0 : Nat) = 5 + 1 by decide) (Or.inl (show ¬ (0 + 1 : Nat) = 5 by decide)) (xk2_k (show ¬ (1 : Nat) = 5 by decide) (show ¬ (1 : Nat) = 5 + 1 by decide) (Or.inl (show ¬ (1 + 1 : Nat) = 5 by decide)) (xk2_k (show ¬ (2 : Nat) = 5 by decide) (show ¬ (2 : Nat) = 5 + 1 by decide) (Or.inl (show ¬ (2 + 1 : Nat) = 5 by decide)) (xk2_k (show ¬ (3 : Nat) = 5 by decide) (show ¬ (3 : Nat) = 5 + 1 by decide) (Or.inl (show ¬ (3 + 1 : Nat) = 5 by decide)) (xk2_k (show ¬ (4 : Nat) = 5 by decide) (show ¬ (4 : Nat) = 5 + 1 by decide) (Or.inr (xI_cat _)) xk2_n))))) rfl ?_
        refine xe_alr (ins := .aload_n 0) (len := 1) (i := 0) (by decide +kernel) rfl rfl rfl rfl rfl ?_
        obtain ⟨v130, e131, h⟩ := xbnd h
        refine xs_gi (i := 453) (c := 15) (k := 42) (by decide +kernel) (by decide) (by decide +kernel) e131 rfl ?_
        refine xe_ifeq (off := 5) (t := 69) (by decide +kernel) (by decide) rfl (xq_gi_in e131) (fun c132 => ?_) (fun c132 => ?_)
        · rw [if_pos c132] at h
          refine xe_alr (ins := .aload_n 0) (len := 1) (i := 0) (by decide +kernel) rfl rfl rfl rfl rfl ?_
          obtain ⟨v133, e134, h⟩ := xbnd h
          refine xs_gr (i := 459) (c := 15) (k := 35) (by decide +kernel) (by decide) (by decide +kernel) e134 rfl ?_
          refine xe_alr (ins := .aload_n 0) (len := 1) (i := 0) (by decide +kernel) rfl rfl rfl rfl rfl ?_
          obtain ⟨v135, e136, h⟩ := xbnd h
          refine xs_gr (i := 439) (c := 15) (k := 29) (by decide +kernel) (by decide) (by decide +kernel) e136 rfl ?_
          obtain ⟨v137, e138, h⟩ := xbnd h
          refine xs_gr (i := 321) (c := 14) (k := 36) (by decide +kernel) (by decide) (by decide +kernel) e138 rfl ?_
          refine xe_ldn (ins := .iload_n 1) (len := 1) (by decide +kernel) rfl rfl rfl rfl ?_
          obtain ⟨v139, e140, h⟩ := xbnd h
          refine xs_lald (by decide +kernel) ha1 e140 rfl ?_
          refine xe_l2i (by decide +kernel) rfl ?_
          refine xe_ldn (ins := .lload 5) (len := 2) (by decide +kernel) rfl rfl rfl rfl ?_
          obtain ⟨M141, e142, h⟩ := xbnd h
          refine xs_last (by decide +kernel) (xin_wr _) e142 rfl ?_
          refine xe_alr (ins := .aload_n 0) (len := 1) (i := 0) (by decide +kernel) rfl rfl rfl rfl rfl ?_
          refine xe_dupr (by decide +kernel) rfl ?_
          obtain ⟨v143, e144, h⟩ := xbnd h
          refine xs_gi (i := 479) (c := 15) (k := 37) (by decide +kernel) (by decide) (by decide +kernel) e144 rfl ?_
          refine xe_iconst (n := 1) (by decide +kernel) rfl ?_
          refine xe_alr (ins := .aload_n 0) (len := 1) (i := 0) (by decide +kernel) rfl rfl rfl rfl rfl ?_
          obtain ⟨v145, e146, h⟩ := xbnd h
          refine xs_gr (i := 439) (c := 15) (k := 29) (by decide +kernel) (by decide) (by decide +kernel) e146 rfl ?_
          obtain ⟨v147, e148, h⟩ := xbnd h
          refine xs_gr (i := 321) (c := 14) (k := 36) (by decide +kernel) (by decide) (by decide +kernel) e148 rfl ?_
          refine xe_ldn (ins := .iload_n 1) (len := 1) (by decide +kernel) rfl rfl rfl rfl ?_
          obtain ⟨v149, e150, h⟩ := xbnd h
          refine xs_lald (by decide +kernel) ha1 e150 rfl ?_
          refine xe_l2i (by decide +kernel) rfl ?_
          refine xe_ishl (by decide +kernel) rfl ?_
          refine xe_ior (by decide +kernel) rfl ?_
          obtain ⟨M151, e152, h⟩ := xbnd h
          refine xs_p (i := 479) (c := 15) (k := 37) (by decide +kernel) (by decide +kernel) (by decide +kernel) e152 rfl ?_
          refine xe_iconst (n := 1) (by decide +kernel) rfl ?_
          cases h
          exact xe_ret_i (ty := .boolean) (by decide +kernel) rfl (by decide) ⟨rfl, rfl, (show xin (1) by decide)⟩
        · rw [if_neg c132] at h
          refine xe_iconst (n := 0) (by decide +kernel) rfl ?_
          cases h
          exact xe_ret_i (ty := .boolean) (by decide +kernel) rfl (by decide) ⟨rfl, rfl, (show xin (0) by decide)⟩
      · rw [if_neg c125] at h
        refine xW_lv rfl (l := []) (xsb_of trivial (show [0, 1, 2, 3, 4].Nodup by decide)) ?_
        exact k278_49    h
-- ChangeHouseModel.compares
def xr_281 : xj_mR := (15, yX15_compares, cX15_compares, 6, (Option.some Jvm.ClassFile.FieldType.boolean), 1, false, (9, 219), (1, 12))
set_option maxRecDepth 20000 in
theorem xr_281_e : xj_row 281 = some xr_281 := rfl
def f281_201   (f : Nat) (y0 : Int) (M : xj_M) : Option (Int × xj_M) := (if (y0) = 0 ∨ (y0) = 1 then some (y0, M) else none)
theorem k281_201 {d f : Nat}     {y0 : Int} {M : xj_M} {R : Int × xj_M} (hy0 : xin y0) (h : f281_201   f y0 M = some R) : xW (d + 3) (none, d + 3, none) xr_281 (201, [], [xI y0], M) (xQi R) := by
  unfold f281_201 at h
  by_cases c101 : (y0) = 0 ∨ (y0) = 1
  · rw [if_pos c101] at h; cases h; exact xe_ret_i (ty := .boolean) (by decide +kernel) rfl (xbool c101) ⟨rfl, rfl, hy0⟩
  · rw [if_neg c101] at h; cases h
def f281_188   (f : Nat) (y0 : Int) (M : xj_M) : Option (Int × xj_M) := (if (y0) = 0 ∨ (y0) = 1 then some (y0, M) else none)
theorem k281_188 {d f : Nat}     {y0 : Int} {M : xj_M} {R : Int × xj_M} (hy0 : xin y0) (h : f281_188   f y0 M = some R) : xW (d + 3) (none, d + 3, none) xr_281 (188, [], [xI y0], M) (xQi R) := by
  unfold f281_188 at h
  by_cases c102 : (y0) = 0 ∨ (y0) = 1
  · rw [if_pos c102] at h; cases h; exact xe_ret_i (ty := .boolean) (by decide +kernel) rfl (xbool c102) ⟨rfl, rfl, hy0⟩
  · rw [if_neg c102] at h; cases h
def f281_175   (f : Nat) (y0 : Int) (M : xj_M) : Option (Int × xj_M) := (if (y0) = 0 ∨ (y0) = 1 then some (y0, M) else none)
theorem k281_175 {d f : Nat}     {y0 : Int} {M : xj_M} {R : Int × xj_M} (hy0 : xin y0) (h : f281_175   f y0 M = some R) : xW (d + 3) (none, d + 3, none) xr_281 (175, [], [xI y0], M) (xQi R) := by
  unfold f281_175 at h
  by_cases c103 : (y0) = 0 ∨ (y0) = 1
  · rw [if_pos c103] at h; cases h; exact xe_ret_i (ty := .boolean) (by decide +kernel) rfl (xbool c103) ⟨rfl, rfl, hy0⟩
  · rw [if_neg c103] at h; cases h
def f281_162   (f : Nat) (y0 : Int) (M : xj_M) : Option (Int × xj_M) := (if (y0) = 0 ∨ (y0) = 1 then some (y0, M) else none)
theorem k281_162 {d f : Nat}     {y0 : Int} {M : xj_M} {R : Int × xj_M} (hy0 : xin y0) (h : f281_162   f y0 M = some R) : xW (d + 3) (none, d + 3, none) xr_281 (162, [], [xI y0], M) (xQi R) := by
  unfold f281_162 at h
  by_cases c104 : (y0) = 0 ∨ (y0) = 1
  · rw [if_pos c104] at h; cases h; exact xe_ret_i (ty := .boolean) (by decide +kernel) rfl (xbool c104) ⟨rfl, rfl, hy0⟩
  · rw [if_neg c104] at h; cases h
def f281_149   (f : Nat) (y0 : Int) (M : xj_M) : Option (Int × xj_M) := (if (y0) = 0 ∨ (y0) = 1 then some (y0, M) else none)
theorem k281_149 {d f : Nat}     {y0 : Int} {M : xj_M} {R : Int × xj_M} (hy0 : xin y0) (h : f281_149   f y0 M = some R) : xW (d + 3) (none, d + 3, none) xr_281 (149, [], [xI y0], M) (xQi R) := by
  unfold f281_149 at h
  by_cases c105 : (y0) = 0 ∨ (y0) = 1
  · rw [if_pos c105] at h; cases h; exact xe_ret_i (ty := .boolean) (by decide +kernel) rfl (xbool c105) ⟨rfl, rfl, hy0⟩
  · rw [if_neg c105] at h; cases h
def f281_136   (f : Nat) (y0 : Int) (M : xj_M) : Option (Int × xj_M) := (if (y0) = 0 ∨ (y0) = 1 then some (y0, M) else none)
theorem k281_136 {d f : Nat}     {y0 : Int} {M : xj_M} {R : Int × xj_M} (hy0 : xin y0) (h : f281_136   f y0 M = some R) : xW (d + 3) (none, d + 3, none) xr_281 (136, [], [xI y0], M) (xQi R) := by
  unfold f281_136 at h
  by_cases c106 : (y0) = 0 ∨ (y0) = 1
  · rw [if_pos c106] at h; cases h; exact xe_ret_i (ty := .boolean) (by decide +kernel) rfl (xbool c106) ⟨rfl, rfl, hy0⟩
  · rw [if_neg c106] at h; cases h
def f281  (f : Nat) (a0 : Nat) (a1 : Int) (M : xj_M) : Option (Int × xj_M) := ((xq_gr 15 29 (a0) M).bind fun v107 => ((xq_gr 14 30 (v107) M).bind fun v109 => ((xq_ai 3 (v109) (a1) M).bind fun v111 => ((xq_gr 15 29 (a0) M).bind fun v113 => ((xq_gr 14 31 (v113) M).bind fun v115 => ((xq_ai 3 (v115) (a1) M).bind fun v117 => ((xq_is 15 (a0) M).bind fun _ => ((f266  f (a0) (v111) (v117) M).bind fun R121 => ((xq_gi 15 42 (a0) R121.2).bind fun v123 => (if (v123) = 0 then ((xq_gr 15 29 (a0) R121.2).bind fun v126 => ((xq_gr 14 31 (v126) R121.2).bind fun v128 => ((xq_ai 3 (v128) (a1) R121.2).bind fun v130 => ((xq_gr 15 29 (a0) R121.2).bind fun v132 => ((xq_gr 14 32 (v132) R121.2).bind fun v134 => ((xq_ai 3 (v134) (a1) R121.2).bind fun v136 => ((xq_is 15 (a0) R121.2).bind fun _ => ((f266  f (a0) (v130) (v136) R121.2).bind fun R140 => ((xq_gi 15 42 (a0) R140.2).bind fun v142 => (if (v142) = 0 then ((xq_gr 15 29 (a0) R140.2).bind fun v145 => ((xq_gr 14 28 (v145) R140.2).bind fun v147 => ((xq_ai 3 (v147) (a1) R140.2).bind fun v149 => (if (60 : Int) = (v149) then (if (R140.1) ≤ (R121.1) then f281_162   f (0) R140.2 else f281_162   f (1) R140.2) else (if (61 : Int) = (v149) then (if ¬ (R121.1) = (R140.1) then f281_136   f (0) R140.2 else f281_136   f (1) R140.2) else (if (62 : Int) = (v149) then (if (R121.1) ≤ (R140.1) then f281_188   f (0) R140.2 else f281_188   f (1) R140.2) else (if (301 : Int) = (v149) then (if (R121.1) = (R140.1) then f281_149   f (0) R140.2 else f281_149   f (1) R140.2) else (if (302 : Int) = (v149) then (if (R140.1) < (R121.1) then f281_175   f (0) R140.2 else f281_175   f (1) R140.2) else (if (R121.1) < (R140.1) then f281_201   f (0) R140.2 else f281_201   f (1) R140.2))))))))) else (some (0, R140.2)))))))))))) else (some (0, R121.2))))))))))))
theorem k281 {d f : Nat}   {a0 : Nat} {a1 : Int} {M : xj_M} {R : Int × xj_M} (ha1 : xin a1) (h : f281  f a0 a1 M = some R) : xT (d + 4) 281 [xR_ a0, xI a1] M (xQi R) := by
  refine xT_m xr_281_e (X := (none, d + 3, none)) rfl (xa_1 (xR_cat _) (xa_1 (xI_cat _) xa_n)) (by decide) ?_
  unfold f281 at h
  refine xe_alr (ins := .aload_n 0) (len := 1) (i := 0) (by decide +kernel) rfl rfl rfl rfl rfl ?_
  refine xe_alr (ins := .aload_n 0) (len := 1) (i := 0) (by decide +kernel) rfl rfl rfl rfl rfl ?_
  obtain ⟨v107, e108, h⟩ := xbnd h
  refine xs_gr (i := 439) (c := 15) (k := 29) (by decide +kernel) (by decide) (by decide +kernel) e108 rfl ?_
  obtain ⟨v109, e110, h⟩ := xbnd h
  refine xs_gr (i := 351) (c := 14) (k := 30) (by decide +kernel) (by decide) (by decide +kernel) e110 rfl ?_
  refine xe_ldn (ins := .iload_n 1) (len := 1) (by decide +kernel) rfl rfl rfl rfl ?_
  obtain ⟨v111, e112, h⟩ := xbnd h
  refine xs_iald rfl (by decide +kernel) ha1 e112 rfl ?_
  refine xe_alr (ins := .aload_n 0) (len := 1) (i := 0) (by decide +kernel) rfl rfl rfl rfl rfl ?_
  obtain ⟨v113, e114, h⟩ := xbnd h
  refine xs_gr (i := 439) (c := 15) (k := 29) (by decide +kernel) (by decide) (by decide +kernel) e114 rfl ?_
  obtain ⟨v115, e116, h⟩ := xbnd h
  refine xs_gr (i := 360) (c := 14) (k := 31) (by decide +kernel) (by decide) (by decide +kernel) e116 rfl ?_
  refine xe_ldn (ins := .iload_n 1) (len := 1) (by decide +kernel) rfl rfl rfl rfl ?_
  obtain ⟨v117, e118, h⟩ := xbnd h
  refine xs_iald rfl (by decide +kernel) ha1 e118 rfl ?_
  obtain ⟨_, e120, h⟩ := xbnd h
  obtain ⟨R121, e119, h⟩ := xbnd h
  refine xs_cv (i := 529) (j := 266) (ar := [xI (v117), xI (v111)]) (rest := []) (r2 := xr_266) (by decide +kernel) (by decide +kernel) (by decide +kernel) xr_266_e rfl (by decide) (by decide) e120 ?_
  refine xc_l (k266 (d := d + 0)  (xq_ai_in e112) (xq_ai_in e118) e119) rfl (fun hi122 => ?_)
  refine xe_lsr (ins := .lstore_n 2) (len := 1) (i := 2) (by decide +kernel) rfl rfl rfl (by decide) (xk2_k (show ¬ (0 : Nat) = 2 by decide) (show ¬ (0 : Nat) = 2 + 1 by decide) (Or.inl (show ¬ (0 + 1 : Nat) = 2 by decide)) (xk2_k (show ¬ (1 : Nat) = 2 by decide) (show ¬ (1 : Nat) = 2 + 1 by decide) (Or.inr (xI_cat _)) xk2_n)) rfl ?_
  refine xe_alr (ins := .aload_n 0) (len := 1) (i := 0) (by decide +kernel) rfl rfl rfl rfl rfl ?_
  obtain ⟨v123, e124, h⟩ := xbnd h
  refine xs_gi (i := 453) (c := 15) (k := 42) (by decide +kernel) (by decide) (by decide +kernel) e124 rfl ?_
  refine xe_ifeq (off := 5) (t := 32) (by decide +kernel) (by decide) rfl (xq_gi_in e124) (fun c125 => ?_) (fun c125 => ?_)
  · rw [if_pos c125] at h
    refine xe_alr (ins := .aload_n 0) (len := 1) (i := 0) (by decide +kernel) rfl rfl rfl rfl rfl ?_
    refine xe_alr (ins := .aload_n 0) (len := 1) (i := 0) (by decide +kernel) rfl rfl rfl rfl rfl ?_
    obtain ⟨v126, e127, h⟩ := xbnd h
    refine xs_gr (i := 439) (c := 15) (k := 29) (by decide +kernel) (by decide) (by decide +kernel) e127 rfl ?_
    obtain ⟨v128, e129, h⟩ := xbnd h
    refine xs_gr (i := 360) (c := 14) (k := 31) (by decide +kernel) (by decide) (by decide +kernel) e129 rfl ?_
    refine xe_ldn (ins := .iload_n 1) (len := 1) (by decide +kernel) rfl rfl rfl rfl ?_
    obtain ⟨v130, e131, h⟩ := xbnd h
    refine xs_iald rfl (by decide +kernel) ha1 e131 rfl ?_
    refine xe_alr (ins := .aload_n 0) (len := 1) (i := 0) (by decide +kernel) rfl rfl rfl rfl rfl ?_
    obtain ⟨v132, e133, h⟩ := xbnd h
    refine xs_gr (i := 439) (c := 15) (k := 29) (by decide +kernel) (by decide) (by decide +kernel) e133 rfl ?_
    obtain ⟨v134, e135, h⟩ := xbnd h
    refine xs_gr (i := 366) (c := 14) (k := 32) (by decide +kernel) (by decide) (by decide +kernel) e135 rfl ?_
    refine xe_ldn (ins := .iload_n 1) (len := 1) (by decide +kernel) rfl rfl rfl rfl ?_
    obtain ⟨v136, e137, h⟩ := xbnd h
    refine xs_iald rfl (by decide +kernel) ha1 e137 rfl ?_
    obtain ⟨_, e139, h⟩ := xbnd h
    obtain ⟨R140, e138, h⟩ := xbnd h
    refine xs_cv (i := 529) (j := 266) (ar := [xI (v136), xI (v130)]) (rest := []) (r2 := xr_266) (by decide +kernel) (by decide +kernel) (by decide +kernel) xr_266_e rfl (by decide) (by decide) e139 ?_
    refine xc_l (k266 (d := d + 0)  (xq_ai_in e131) (xq_ai_in e137) e138) rfl (fun hi141 => ?_)
    refine xe_lsr (ins := .lstore 4) (len := 2) (i := 4) (by decide +kernel) rfl rfl rfl (by decide) (xk2_k (show ¬ (2 : Nat) = 4 by decide) (show ¬ (2 : Nat) = 4 + 1 by decide) (Or.inl (show ¬ (2 + 1 : Nat) = 4 by decide)) (xk2_k (show ¬ (0 : Nat) = 4 by decide) (show ¬ (0 : Nat) = 4 + 1 by decide) (Or.inl (show ¬ (0 + 1 : Nat) = 4 by decide)) (xk2_k (show ¬ (1 : Nat) = 4 by decide) (show ¬ (1 : Nat) = 4 + 1 by decide) (Or.inl (show ¬ (1 + 1 : Nat) = 4 by decide)) xk2_n))) rfl ?_
    refine xe_alr (ins := .aload_n 0) (len := 1) (i := 0) (by decide +kernel) rfl rfl rfl rfl rfl ?_
    obtain ⟨v142, e143, h⟩ := xbnd h
    refine xs_gi (i := 453) (c := 15) (k := 42) (by decide +kernel) (by decide) (by decide +kernel) e143 rfl ?_
    refine xe_ifeq (off := 5) (t := 65) (by decide +kernel) (by decide) rfl (xq_gi_in e143) (fun c144 => ?_) (fun c144 => ?_)
    · rw [if_pos c144] at h
      refine xe_alr (ins := .aload_n 0) (len := 1) (i := 0) (by decide +kernel) rfl rfl rfl rfl rfl ?_
      obtain ⟨v145, e146, h⟩ := xbnd h
      refine xs_gr (i := 439) (c := 15) (k := 29) (by decide +kernel) (by decide) (by decide +kernel) e146 rfl ?_
      obtain ⟨v147, e148, h⟩ := xbnd h
      refine xs_gr (i := 363) (c := 14) (k := 28) (by decide +kernel) (by decide) (by decide +kernel) e148 rfl ?_
      refine xe_ldn (ins := .iload_n 1) (len := 1) (by decide +kernel) rfl rfl rfl rfl ?_
      obtain ⟨v149, e150, h⟩ := xbnd h
      refine xs_iald rfl (by decide +kernel) ha1 e150 rfl ?_
      by_cases c151 : (60 : Int) = (v149)
      · rw [if_pos c151] at h
        refine xe_lks (dd := 115) (ps := #[(60, 76), (61, 50), (62, 102), (301, 63), (302, 89)]) (len := 50) (off := 76) (t := 150) (by decide +kernel) (by decide) (xq_ai_in e150) (by show Op.lookupswitch.offset [(60, 76), (61, 50), (62, 102), (301, 63), (302, 89)] 115 (v149) = 76; rw [Op.lookupswitch.offset_cons, if_pos c151]) (by decide) ?_
        refine xe_ldn (ins := .lload_n 2) (len := 1) (by decide +kernel) rfl rfl rfl rfl ?_
        refine xe_ldn (ins := .lload 4) (len := 2) (by decide +kernel) rfl rfl rfl rfl ?_
        refine xe_lcmp (by decide +kernel) rfl hi122 hi141 ?_
        refine xe_ifge (off := 7) (t := 161) (by decide +kernel) (by decide) rfl (xin_cmp8 _ _) (fun c152 => ?_) (fun c152 => ?_)
        · have c152 := xcmp8_ge.mp c152; rw [if_pos c152] at h
          refine xe_iconst (n := 0) (by decide +kernel) rfl ?_
          refine xW_lv rfl (l := []) (xsb_of trivial (show [4, 2, 0, 1].Nodup by decide)) ?_
          exact k281_162   (show xin (0) by decide) h
        · have c152 := (not_congr xcmp8_ge).mp c152; rw [if_neg c152] at h
          refine xe_iconst (n := 1) (by decide +kernel) rfl ?_
          refine xe_goto (off := 4) (nx := 162) (by decide +kernel) (by decide) ?_
          refine xW_lv rfl (l := []) (xsb_of trivial (show [4, 2, 0, 1].Nodup by decide)) ?_
          exact k281_162   (show xin (1) by decide) h
      · rw [if_neg c151] at h
        by_cases c153 : (61 : Int) = (v149)
        · rw [if_pos c153] at h
          refine xe_lks (dd := 115) (ps := #[(60, 76), (61, 50), (62, 102), (301, 63), (302, 89)]) (len := 50) (off := 50) (t := 124) (by decide +kernel) (by decide) (xq_ai_in e150) (by show Op.lookupswitch.offset [(60, 76), (61, 50), (62, 102), (301, 63), (302, 89)] 115 (v149) = 50; rw [Op.lookupswitch.offset_cons, if_neg c151, Op.lookupswitch.offset_cons, if_pos c153]) (by decide) ?_
          refine xe_ldn (ins := .lload_n 2) (len := 1) (by decide +kernel) rfl rfl rfl rfl ?_
          refine xe_ldn (ins := .lload 4) (len := 2) (by decide +kernel) rfl rfl rfl rfl ?_
          refine xe_lcmp (by decide +kernel) rfl hi122 hi141 ?_
          refine xe_ifne (off := 7) (t := 135) (by decide +kernel) (by decide) rfl (xin_cmp8 _ _) (fun c154 => ?_) (fun c154 => ?_)
          · have c154 := xcmp8_ne.mp c154; rw [if_pos c154] at h
            refine xe_iconst (n := 0) (by decide +kernel) rfl ?_
            refine xW_lv rfl (l := []) (xsb_of trivial (show [4, 2, 0, 1].Nodup by decide)) ?_
            exact k281_136   (show xin (0) by decide) h
          · have c154 := (not_congr xcmp8_ne).mp c154; rw [if_neg c154] at h
            refine xe_iconst (n := 1) (by decide +kernel) rfl ?_
            refine xe_goto (off := 4) (nx := 136) (by decide +kernel) (by decide) ?_
            refine xW_lv rfl (l := []) (xsb_of trivial (show [4, 2, 0, 1].Nodup by decide)) ?_
            exact k281_136   (show xin (1) by decide) h
        · rw [if_neg c153] at h
          by_cases c155 : (62 : Int) = (v149)
          · rw [if_pos c155] at h
            refine xe_lks (dd := 115) (ps := #[(60, 76), (61, 50), (62, 102), (301, 63), (302, 89)]) (len := 50) (off := 102) (t := 176) (by decide +kernel) (by decide) (xq_ai_in e150) (by show Op.lookupswitch.offset [(60, 76), (61, 50), (62, 102), (301, 63), (302, 89)] 115 (v149) = 102; rw [Op.lookupswitch.offset_cons, if_neg c151, Op.lookupswitch.offset_cons, if_neg c153, Op.lookupswitch.offset_cons, if_pos c155]) (by decide) ?_
            refine xe_ldn (ins := .lload_n 2) (len := 1) (by decide +kernel) rfl rfl rfl rfl ?_
            refine xe_ldn (ins := .lload 4) (len := 2) (by decide +kernel) rfl rfl rfl rfl ?_
            refine xe_lcmp (by decide +kernel) rfl hi122 hi141 ?_
            refine xe_ifle (off := 7) (t := 187) (by decide +kernel) (by decide) rfl (xin_cmp8 _ _) (fun c156 => ?_) (fun c156 => ?_)
            · have c156 := xcmp8_le.mp c156; rw [if_pos c156] at h
              refine xe_iconst (n := 0) (by decide +kernel) rfl ?_
              refine xW_lv rfl (l := []) (xsb_of trivial (show [4, 2, 0, 1].Nodup by decide)) ?_
              exact k281_188   (show xin (0) by decide) h
            · have c156 := (not_congr xcmp8_le).mp c156; rw [if_neg c156] at h
              refine xe_iconst (n := 1) (by decide +kernel) rfl ?_
              refine xe_goto (off := 4) (nx := 188) (by decide +kernel) (by decide) ?_
              refine xW_lv rfl (l := []) (xsb_of trivial (show [4, 2, 0, 1].Nodup by decide)) ?_
              exact k281_188   (show xin (1) by decide) h
          · rw [if_neg c155] at h
            by_cases c157 : (301 : Int) = (v149)
            · rw [if_pos c157] at h
              refine xe_lks (dd := 115) (ps := #[(60, 76), (61, 50), (62, 102), (301, 63), (302, 89)]) (len := 50) (off := 63) (t := 137) (by decide +kernel) (by decide) (xq_ai_in e150) (by show Op.lookupswitch.offset [(60, 76), (61, 50), (62, 102), (301, 63), (302, 89)] 115 (v149) = 63; rw [Op.lookupswitch.offset_cons, if_neg c151, Op.lookupswitch.offset_cons, if_neg c153, Op.lookupswitch.offset_cons, if_neg c155, Op.lookupswitch.offset_cons, if_pos c157]) (by decide) ?_
              refine xe_ldn (ins := .lload_n 2) (len := 1) (by decide +kernel) rfl rfl rfl rfl ?_
              refine xe_ldn (ins := .lload 4) (len := 2) (by decide +kernel) rfl rfl rfl rfl ?_
              refine xe_lcmp (by decide +kernel) rfl hi122 hi141 ?_
              refine xe_ifeq (off := 7) (t := 148) (by decide +kernel) (by decide) rfl (xin_cmp8 _ _) (fun c158 => ?_) (fun c158 => ?_)
              · have c158 := xcmp8_eq.mp c158; rw [if_pos c158] at h
                refine xe_iconst (n := 0) (by decide +kernel) rfl ?_
                refine xW_lv rfl (l := []) (xsb_of trivial (show [4, 2, 0, 1].Nodup by decide)) ?_
                exact k281_149   (show xin (0) by decide) h
              · have c158 := (not_congr xcmp8_eq).mp c158; rw [if_neg c158] at h
                refine xe_iconst (n := 1) (by decide +kernel) rfl ?_
                refine xe_goto (off := 4) (nx := 149) (by decide +kernel) (by decide) ?_
                refine xW_lv rfl (l := []) (xsb_of trivial (show [4, 2, 0, 1].Nodup by decide)) ?_
                exact k281_149   (show xin (1) by decide) h
            · rw [if_neg c157] at h
              by_cases c159 : (302 : Int) = (v149)
              · rw [if_pos c159] at h
                refine xe_lks (dd := 115) (ps := #[(60, 76), (61, 50), (62, 102), (301, 63), (302, 89)]) (len := 50) (off := 89) (t := 163) (by decide +kernel) (by decide) (xq_ai_in e150) (by show Op.lookupswitch.offset [(60, 76), (61, 50), (62, 102), (301, 63), (302, 89)] 115 (v149) = 89; rw [Op.lookupswitch.offset_cons, if_neg c151, Op.lookupswitch.offset_cons, if_neg c153, Op.lookupswitch.offset_cons, if_neg c155, Op.lookupswitch.offset_cons, if_neg c157, Op.lookupswitch.offset_cons, if_pos c159]) (by decide) ?_
                refine xe_ldn (ins := .lload_n 2) (len := 1) (by decide +kernel) rfl rfl rfl rfl ?_
                refine xe_ldn (ins := .lload 4) (len := 2) (by decide +kernel) rfl rfl rfl rfl ?_
                refine xe_lcmp (by decide +kernel) rfl hi122 hi141 ?_
                refine xe_ifgt (off := 7) (t := 174) (by decide +kernel) (by decide) rfl (xin_cmp8 _ _) (fun c160 => ?_) (fun c160 => ?_)
                · have c160 := xcmp8_gt.mp c160; rw [if_pos c160] at h
                  refine xe_iconst (n := 0) (by decide +kernel) rfl ?_
                  refine xW_lv rfl (l := []) (xsb_of trivial (show [4, 2, 0, 1].Nodup by decide)) ?_
                  exact k281_175   (show xin (0) by decide) h
                · have c160 := (not_congr xcmp8_gt).mp c160; rw [if_neg c160] at h
                  refine xe_iconst (n := 1) (by decide +kernel) rfl ?_
                  refine xe_goto (off := 4) (nx := 175) (by decide +kernel) (by decide) ?_
                  refine xW_lv rfl (l := []) (xsb_of trivial (show [4, 2, 0, 1].Nodup by decide)) ?_
                  exact k281_175   (show xin (1) by decide) h
              · rw [if_neg c159] at h
                refine xe_lks (dd := 115) (ps := #[(60, 76), (61, 50), (62, 102), (301, 63), (302, 89)]) (len := 50) (off := 115) (t := 189) (by decide +kernel) (by decide) (xq_ai_in e150) (by show Op.lookupswitch.offset [(60, 76), (61, 50), (62, 102), (301, 63), (302, 89)] 115 (v149) = 115; rw [Op.lookupswitch.offset_cons, if_neg c151, Op.lookupswitch.offset_cons, if_neg c153, Op.lookupswitch.offset_cons, if_neg c155, Op.lookupswitch.offset_cons, if_neg c157, Op.lookupswitch.offset_cons, if_neg c159, Op.lookupswitch.offset_nil]) (by decide) ?_
                refine xe_ldn (ins := .lload_n 2) (len := 1) (by decide +kernel) rfl rfl rfl rfl ?_
                refine xe_ldn (ins := .lload 4) (len := 2) (by decide +kernel) rfl rfl rfl rfl ?_
                refine xe_lcmp (by decide +kernel) rfl hi122 hi141 ?_
                refine xe_iflt (off := 7) (t := 200) (by decide +kernel) (by decide) rfl (xin_cmp8 _ _) (fun c161 => ?_) (fun c161 => ?_)
                · have c161 := xcmp8_lt.mp c161; rw [if_pos c161] at h
                  refine xe_iconst (n := 0) (by decide +kernel) rfl ?_
                  refine xW_lv rfl (l := []) (xsb_of trivial (show [4, 2, 0, 1].Nodup by decide)) ?_
                  exact k281_201   (show xin (0) by decide) h
                · have c161 := (not_congr xcmp8_lt).mp c161; rw [if_neg c161] at h
                  refine xe_iconst (n := 1) (by decide +kernel) rfl ?_
                  refine xe_goto (off := 4) (nx := 201) (by decide +kernel) (by decide) ?_
                  refine xW_lv rfl (l := []) (xsb_of trivial (show [4, 2, 0, 1].Nodup by decide)) ?_
                  exact k281_201   (show xin (1) by decide) h
    · rw [if_neg c144] at h
      refine xe_iconst (n := 0) (by decide +kernel) rfl ?_
      cases h
      exact xe_ret_i (ty := .boolean) (by decide +kernel) rfl (by decide) ⟨rfl, rfl, (show xin (0) by decide)⟩
  · rw [if_neg c125] at h
    refine xe_iconst (n := 0) (by decide +kernel) rfl ?_
    cases h
    exact xe_ret_i (ty := .boolean) (by decide +kernel) rfl (by decide) ⟨rfl, rfl, (show xin (0) by decide)⟩
-- ChangeHouseModel.makesRow
def xr_282 : xj_mR := (15, yX15_makesRow, cX15_makesRow, 2, (Option.some Jvm.ClassFile.FieldType.boolean), 0, false, (9, 227), (1, 12))
set_option maxRecDepth 20000 in
theorem xr_282_e : xj_row 282 = some xr_282 := rfl
def f282_88  (r2 : Nat → Int → xj_M → Option (Int × xj_M)) (f : Nat) (x0 : Nat) (x1 : Int) (M : xj_M) : Option (Int × xj_M) := r2 (x0) (xwr ((x1) + (1))) M
theorem k282_88 {d f : Nat}  {r2 : Nat → Int → xj_M → Option (Int × xj_M)}  (hr2 : ∀ {x0 : Nat} {x1 : Int} {M : xj_M} {R : Int × xj_M}, xin x1 → r2 x0 x1 M = some R → xW (d + 3) (none, d + 3, none) xr_282 (2, [(0, xR_ x0), (1, xI x1)], [], M) (xQi R)) {x0 : Nat} {x1 : Int} {M : xj_M} {R : Int × xj_M} (hx1 : xin x1) (h : f282_88  r2 f x0 x1 M = some R) : xW (d + 3) (none, d + 3, none) xr_282 (88, [(0, xR_ x0), (1, xI x1)], [], M) (xQi R) := by
  unfold f282_88 at h
  refine xe_iincr (i := 1) (n := 1) (by decide +kernel) (by decide) rfl (xk_k (show ¬ (0 : Nat) = 1 by decide) (Or.inr (xR_cat _)) (xk_d rfl xk_n)) rfl ?_
  refine xe_goto (off := -89) (nx := 2) (by decide +kernel) (by decide) ?_
  refine xW_lv rfl (l := [(0, xR_ (x0)), (1, xI (xwr ((x1) + (1))))]) (xsb_of ⟨rfl, rfl, trivial⟩ (show [1, 0].Nodup by decide)) ?_
  exact hr2 (xin_wr _) h
def f282_2b  (r2 : Nat → Int → xj_M → Option (Int × xj_M)) (f : Nat) (x0 : Nat) (x1 : Int) (M : xj_M) : Option (Int × xj_M) := ((xq_gr 15 29 (x0) M).bind fun v101 => ((xq_gr 14 17 (v101) M).bind fun v103 => ((xq_gi 15 39 (x0) M).bind fun v105 => ((xq_ai 3 (v103) (v105) M).bind fun v107 => (if (v107) ≤ (x1) then (some (1, M)) else ((xq_gr 15 29 (x0) M).bind fun v110 => ((xq_gr 14 19 (v110) M).bind fun v112 => ((xq_gi 15 39 (x0) M).bind fun v114 => ((xq_ai 3 (v112) (v114) M).bind fun v116 => (if ¬ (x1) = (v116) then ((xq_gr 15 44 (x0) M).bind fun v119 => ((xq_gr 15 29 (x0) M).bind fun v121 => ((xq_gr 14 23 (v121) M).bind fun v123 => ((xq_gi 15 39 (x0) M).bind fun v125 => ((xq_ai 3 (v123) (xwr ((xwr ((v125) * (4))) + (x1))) M).bind fun v127 => ((xq_gr 15 29 (x0) M).bind fun v129 => ((xq_gr 14 24 (v129) M).bind fun v131 => ((xq_gi 15 39 (x0) M).bind fun v133 => ((xq_ai 3 (v131) (xwr ((xwr ((v133) * (4))) + (x1))) M).bind fun v135 => ((xq_is 15 (x0) M).bind fun _ => ((f266  f (x0) (v127) (v135) M).bind fun R139 => ((xq_sl (v119) (x1) (R139.1) R139.2).bind fun M141 => ((xq_gi 15 42 (x0) M141).bind fun v143 => (if (v143) = 0 then f282_88  r2 f (x0) (x1) M141 else (some (0, M141)))))))))))))))) else f282_88  r2 f (x0) (x1) M))))))))))
theorem k282_2b {d f : Nat}  {r2 : Nat → Int → xj_M → Option (Int × xj_M)}  (hr2 : ∀ {x0 : Nat} {x1 : Int} {M : xj_M} {R : Int × xj_M}, xin x1 → r2 x0 x1 M = some R → xW (d + 3) (none, d + 3, none) xr_282 (2, [(0, xR_ x0), (1, xI x1)], [], M) (xQi R)) {x0 : Nat} {x1 : Int} {M : xj_M} {R : Int × xj_M} (hx1 : xin x1) (h : f282_2b  r2 f x0 x1 M = some R) : xW (d + 3) (none, d + 3, none) xr_282 (2, [(0, xR_ x0), (1, xI x1)], [], M) (xQi R) := by
  unfold f282_2b at h
  refine xe_ldn (ins := .iload_n 1) (len := 1) (by decide +kernel) rfl rfl rfl rfl ?_
  refine xe_alr (ins := .aload_n 0) (len := 1) (i := 0) (by decide +kernel) rfl rfl rfl rfl rfl ?_
  obtain ⟨v101, e102, h⟩ := xbnd h
  refine xs_gr (i := 439) (c := 15) (k := 29) (by decide +kernel) (by decide) (by decide +kernel) e102 rfl ?_
  obtain ⟨v103, e104, h⟩ := xbnd h
  refine xs_gr (i := 274) (c := 14) (k := 17) (by decide +kernel) (by decide) (by decide +kernel) e104 rfl ?_
  refine xe_alr (ins := .aload_n 0) (len := 1) (i := 0) (by decide +kernel) rfl rfl rfl rfl rfl ?_
  obtain ⟨v105, e106, h⟩ := xbnd h
  refine xs_gi (i := 501) (c := 15) (k := 39) (by decide +kernel) (by decide) (by decide +kernel) e106 rfl ?_
  obtain ⟨v107, e108, h⟩ := xbnd h
  refine xs_iald rfl (by decide +kernel) (xq_gi_in e106) e108 rfl ?_
  refine xe_icmpge (off := 79) (t := 94) (by decide +kernel) (by decide) rfl hx1 (xq_ai_in e108) (fun c109 => ?_) (fun c109 => ?_)
  · rw [if_pos c109] at h
    refine xe_iconst (n := 1) (by decide +kernel) rfl ?_
    cases h
    exact xe_ret_i (ty := .boolean) (by decide +kernel) rfl (by decide) ⟨rfl, rfl, (show xin (1) by decide)⟩
  · rw [if_neg c109] at h
    refine xe_ldn (ins := .iload_n 1) (len := 1) (by decide +kernel) rfl rfl rfl rfl ?_
    refine xe_alr (ins := .aload_n 0) (len := 1) (i := 0) (by decide +kernel) rfl rfl rfl rfl rfl ?_
    obtain ⟨v110, e111, h⟩ := xbnd h
    refine xs_gr (i := 439) (c := 15) (k := 29) (by decide +kernel) (by decide) (by decide +kernel) e111 rfl ?_
    obtain ⟨v112, e113, h⟩ := xbnd h
    refine xs_gr (i := 280) (c := 14) (k := 19) (by decide +kernel) (by decide) (by decide +kernel) e113 rfl ?_
    refine xe_alr (ins := .aload_n 0) (len := 1) (i := 0) (by decide +kernel) rfl rfl rfl rfl rfl ?_
    obtain ⟨v114, e115, h⟩ := xbnd h
    refine xs_gi (i := 501) (c := 15) (k := 39) (by decide +kernel) (by decide) (by decide +kernel) e115 rfl ?_
    obtain ⟨v116, e117, h⟩ := xbnd h
    refine xs_iald rfl (by decide +kernel) (xq_gi_in e115) e117 rfl ?_
    refine xe_icmpne (off := 6) (t := 37) (by decide +kernel) (by decide) rfl hx1 (xq_ai_in e117) (fun c118 => ?_) (fun c118 => ?_)
    · rw [if_pos c118] at h
      refine xe_alr (ins := .aload_n 0) (len := 1) (i := 0) (by decide +kernel) rfl rfl rfl rfl rfl ?_
      obtain ⟨v119, e120, h⟩ := xbnd h
      refine xs_gr (i := 539) (c := 15) (k := 44) (by decide +kernel) (by decide) (by decide +kernel) e120 rfl ?_
      refine xe_ldn (ins := .iload_n 1) (len := 1) (by decide +kernel) rfl rfl rfl rfl ?_
      refine xe_alr (ins := .aload_n 0) (len := 1) (i := 0) (by decide +kernel) rfl rfl rfl rfl rfl ?_
      refine xe_alr (ins := .aload_n 0) (len := 1) (i := 0) (by decide +kernel) rfl rfl rfl rfl rfl ?_
      obtain ⟨v121, e122, h⟩ := xbnd h
      refine xs_gr (i := 439) (c := 15) (k := 29) (by decide +kernel) (by decide) (by decide +kernel) e122 rfl ?_
      obtain ⟨v123, e124, h⟩ := xbnd h
      refine xs_gr (i := 301) (c := 14) (k := 23) (by decide +kernel) (by decide) (by decide +kernel) e124 rfl ?_
      refine xe_alr (ins := .aload_n 0) (len := 1) (i := 0) (by decide +kernel) rfl rfl rfl rfl rfl ?_
      obtain ⟨v125, e126, h⟩ := xbnd h
      refine xs_gi (i := 501) (c := 15) (k := 39) (by decide +kernel) (by decide) (by decide +kernel) e126 rfl ?_
      refine xe_iconst (n := 4) (by decide +kernel) rfl ?_
      refine xe_imul (by decide +kernel) rfl ?_
      refine xe_ldn (ins := .iload_n 1) (len := 1) (by decide +kernel) rfl rfl rfl rfl ?_
      refine xe_iadd (by decide +kernel) rfl ?_
      obtain ⟨v127, e128, h⟩ := xbnd h
      refine xs_iald rfl (by decide +kernel) (xin_wr _) e128 rfl ?_
      refine xe_alr (ins := .aload_n 0) (len := 1) (i := 0) (by decide +kernel) rfl rfl rfl rfl rfl ?_
      obtain ⟨v129, e130, h⟩ := xbnd h
      refine xs_gr (i := 439) (c := 15) (k := 29) (by decide +kernel) (by decide) (by decide +kernel) e130 rfl ?_
      obtain ⟨v131, e132, h⟩ := xbnd h
      refine xs_gr (i := 310) (c := 14) (k := 24) (by decide +kernel) (by decide) (by decide +kernel) e132 rfl ?_
      refine xe_alr (ins := .aload_n 0) (len := 1) (i := 0) (by decide +kernel) rfl rfl rfl rfl rfl ?_
      obtain ⟨v133, e134, h⟩ := xbnd h
      refine xs_gi (i := 501) (c := 15) (k := 39) (by decide +kernel) (by decide) (by decide +kernel) e134 rfl ?_
      refine xe_iconst (n := 4) (by decide +kernel) rfl ?_
      refine xe_imul (by decide +kernel) rfl ?_
      refine xe_ldn (ins := .iload_n 1) (len := 1) (by decide +kernel) rfl rfl rfl rfl ?_
      refine xe_iadd (by decide +kernel) rfl ?_
      obtain ⟨v135, e136, h⟩ := xbnd h
      refine xs_iald rfl (by decide +kernel) (xin_wr _) e136 rfl ?_
      obtain ⟨_, e138, h⟩ := xbnd h
      obtain ⟨R139, e137, h⟩ := xbnd h
      refine xs_cv (i := 529) (j := 266) (ar := [xI (v135), xI (v127)]) (rest := [xI (x1), xR_ (v119)]) (r2 := xr_266) (by decide +kernel) (by decide +kernel) (by decide +kernel) xr_266_e rfl (by decide) (by simp only [List.map_cons, List.map_nil, List.sum_cons, List.sum_nil, xR_cat, xI_cat, xZ_cat]; decide) e138 ?_
      refine xc_l (k266 (d := d + 0)  (xq_ai_in e128) (xq_ai_in e136) e137) rfl (fun hi140 => ?_)
      obtain ⟨M141, e142, h⟩ := xbnd h
      refine xs_last (by decide +kernel) hx1 e142 rfl ?_
      refine xe_alr (ins := .aload_n 0) (len := 1) (i := 0) (by decide +kernel) rfl rfl rfl rfl rfl ?_
      obtain ⟨v143, e144, h⟩ := xbnd h
      refine xs_gi (i := 453) (c := 15) (k := 42) (by decide +kernel) (by decide) (by decide +kernel) e144 rfl ?_
      refine xe_ifeq (off := 5) (t := 88) (by decide +kernel) (by decide) rfl (xq_gi_in e144) (fun c145 => ?_) (fun c145 => ?_)
      · rw [if_pos c145] at h
        refine xW_lv rfl (l := [(0, xR_ (x0)), (1, xI (x1))]) (xsb_of ⟨rfl, rfl, trivial⟩ (show [0, 1].Nodup by decide)) ?_
        exact k282_88  hr2 hx1 h
      · rw [if_neg c145] at h
        refine xe_iconst (n := 0) (by decide +kernel) rfl ?_
        cases h
        exact xe_ret_i (ty := .boolean) (by decide +kernel) rfl (by decide) ⟨rfl, rfl, (show xin (0) by decide)⟩
    · rw [if_neg c118] at h
      refine xe_goto (off := 54) (nx := 88) (by decide +kernel) (by decide) ?_
      refine xW_lv rfl (l := [(0, xR_ (x0)), (1, xI (x1))]) (xsb_of ⟨rfl, rfl, trivial⟩ (show [0, 1].Nodup by decide)) ?_
      exact k282_88  hr2 hx1 h
def f282_2   (f : Nat) : Nat → Nat → Int → xj_M → Option (Int × xj_M)
  | 0, _, _, _ => none
  | n + 1, x0, x1, M => f282_2b   (f282_2   f n) f x0 x1 M
theorem k282_2 {d f : Nat}     : ∀ {n : Nat} {x0 : Nat} {x1 : Int} {M : xj_M} {R : Int × xj_M}, xin x1 → f282_2   f n x0 x1 M = some R → xW (d + 3) (none, d + 3, none) xr_282 (2, [(0, xR_ x0), (1, xI x1)], [], M) (xQi R) := by
  intro n
  induction n with
  | zero => intros; rename_i h; cases h
  | succ n ih => intros; rename_i h; exact k282_2b   ih (by assumption) h
def f282  (f : Nat) (a0 : Nat) (M : xj_M) : Option (Int × xj_M) := f282_2   f f (a0) (0) M
theorem k282 {d f : Nat}   {a0 : Nat} {M : xj_M} {R : Int × xj_M}  (h : f282  f a0 M = some R) : xT (d + 4) 282 [xR_ a0] M (xQi R) := by
  refine xT_m xr_282_e (X := (none, d + 3, none)) rfl (xa_1 (xR_cat _) xa_n) (by decide) ?_
  unfold f282 at h
  refine xe_iconst (n := 0) (by decide +kernel) rfl ?_
  refine xe_isr (ins := .istore_n 1) (len := 1) (i := 1) (by decide +kernel) rfl rfl rfl (by decide) (xk_k (show ¬ (0 : Nat) = 1 by decide) (Or.inr (xR_cat _)) xk_n) rfl ?_
  refine xW_lv rfl (l := [(0, xR_ (a0)), (1, xI (0))]) (xsb_of ⟨rfl, rfl, trivial⟩ (show [1, 0].Nodup by decide)) ?_
  exact k282_2   (show xin (0) by decide) h
-- ChangeHouseModel.useWay
def xr_283 : xj_mR := (15, yX15_useWay, cX15_useWay, 1, (Option.none : Option Jvm.ClassFile.FieldType), 0, false, (9, 223), (1, 12))
set_option maxRecDepth 20000 in
theorem xr_283_e : xj_row 283 = some xr_283 := rfl
def f283_118   (f : Nat)  (M : xj_M) : Option (xj_M) := (some M)
theorem k283_118 {d f : Nat}      {M : xj_M} {R : xj_M}  (h : f283_118   f  M = some R) : xW (d + 4) (none, d + 4, none) xr_283 (118, [], [], M) (xQv R) := by
  unfold f283_118 at h
  cases h
  exact xe_ret_v (by decide +kernel) rfl ⟨rfl, rfl⟩
def f283  (f : Nat) (a0 : Nat) (M : xj_M) : Option (xj_M) := ((xq_gi 15 38 (a0) M).bind fun v101 => (if (v101) < 1 ∨ 3 < (v101) then ((xq_is 15 (a0) M).bind fun _ => ((f282  f (a0) M).bind fun R106 => (if (R106.1) = 0 then f283_118   f  R106.2 else ((xq_gr 15 44 (a0) R106.2).bind fun v109 => ((xq_gr 15 51 (a0) R106.2).bind fun v111 => ((xq_gr 15 29 (a0) R106.2).bind fun v113 => ((xq_gr 14 17 (v113) R106.2).bind fun v115 => ((xq_gi 15 39 (a0) R106.2).bind fun v117 => ((xq_ai 3 (v115) (v117) R106.2).bind fun v119 => ((f262  f (v109) (0) (v111) (0) (v119) R106.2).bind fun R122 => (if ¬ (R122.1) = 0 then f283_118   f  R122.2 else ((xq_is 15 (a0) R122.2).bind fun _ => ((f286  f (a0) R122.2).bind fun M127 => f283_118   f  M127))))))))))))) else (if (v101) = 1 then ((xq_is 15 (a0) M).bind fun _ => ((f282  f (a0) M).bind fun R132 => (if (R132.1) = 0 then f283_118   f  R132.2 else ((xq_gr 15 29 (a0) R132.2).bind fun v135 => ((xq_gr 14 15 (v135) R132.2).bind fun v137 => ((xq_gi 15 39 (a0) R132.2).bind fun v139 => ((xq_ai 3 (v137) (v139) R132.2).bind fun v141 => ((xq_is 15 (a0) R132.2).bind fun _ => ((f284  f (a0) (v141) R132.2).bind fun M145 => f283_118   f  M145))))))))) else (if (v101) = 2 then ((xq_is 15 (a0) M).bind fun _ => ((f282  f (a0) M).bind fun R150 => (if (R150.1) = 0 then f283_118   f  R150.2 else ((xq_is 15 (a0) R150.2).bind fun _ => ((f287  f (a0) R150.2).bind fun M155 => f283_118   f  M155))))) else ((xq_is 15 (a0) M).bind fun _ => ((f285  f (a0) M).bind fun M160 => f283_118   f  M160))))))
theorem k283 {d f : Nat}   {a0 : Nat} {M : xj_M} {R : xj_M}  (h : f283  f a0 M = some R) : xT (d + 5) 283 [xR_ a0] M (xQv R) := by
  refine xT_m xr_283_e (X := (none, d + 4, none)) rfl (xa_1 (xR_cat _) xa_n) (by decide) ?_
  unfold f283 at h
  refine xe_alr (ins := .aload_n 0) (len := 1) (i := 0) (by decide +kernel) rfl rfl rfl rfl rfl ?_
  obtain ⟨v101, e102, h⟩ := xbnd h
  refine xs_gi (i := 542) (c := 15) (k := 38) (by decide +kernel) (by decide) (by decide +kernel) e102 rfl ?_
  by_cases c103 : (v101) < 1 ∨ 3 < (v101)
  · rw [if_pos c103] at h
    refine xe_ts (dd := 75) (lo := 1) (hi := 3) (offs := #[28, 54, 68]) (len := 28) (off := 75) (t := 79) (by decide +kernel) (xq_gi_in e102) (by rw [if_pos c103]) (by decide) ?_
    refine xe_alr (ins := .aload_n 0) (len := 1) (i := 0) (by decide +kernel) rfl rfl rfl rfl rfl ?_
    obtain ⟨_, e105, h⟩ := xbnd h
    obtain ⟨R106, e104, h⟩ := xbnd h
    refine xs_cv (i := 545) (j := 282) (ar := []) (rest := []) (r2 := xr_282) (by decide +kernel) (by decide +kernel) (by decide +kernel) xr_282_e rfl (by decide) (by decide) e105 ?_
    refine xc_i (k282 (d := d + 0)   e104) rfl (fun hi107 => ?_)
    refine xe_ifeq (off := 35) (t := 118) (by decide +kernel) (by decide) rfl hi107 (fun c108 => ?_) (fun c108 => ?_)
    · rw [if_pos c108] at h
      refine xW_lv rfl (l := []) (xsb_of trivial (show [0].Nodup by decide)) ?_
      exact k283_118    h
    · rw [if_neg c108] at h
      refine xe_alr (ins := .aload_n 0) (len := 1) (i := 0) (by decide +kernel) rfl rfl rfl rfl rfl ?_
      obtain ⟨v109, e110, h⟩ := xbnd h
      refine xs_gr (i := 539) (c := 15) (k := 44) (by decide +kernel) (by decide) (by decide +kernel) e110 rfl ?_
      refine xe_iconst (n := 0) (by decide +kernel) rfl ?_
      refine xe_alr (ins := .aload_n 0) (len := 1) (i := 0) (by decide +kernel) rfl rfl rfl rfl rfl ?_
      obtain ⟨v111, e112, h⟩ := xbnd h
      refine xs_gr (i := 556) (c := 15) (k := 51) (by decide +kernel) (by decide) (by decide +kernel) e112 rfl ?_
      refine xe_iconst (n := 0) (by decide +kernel) rfl ?_
      refine xe_alr (ins := .aload_n 0) (len := 1) (i := 0) (by decide +kernel) rfl rfl rfl rfl rfl ?_
      obtain ⟨v113, e114, h⟩ := xbnd h
      refine xs_gr (i := 439) (c := 15) (k := 29) (by decide +kernel) (by decide) (by decide +kernel) e114 rfl ?_
      obtain ⟨v115, e116, h⟩ := xbnd h
      refine xs_gr (i := 274) (c := 14) (k := 17) (by decide +kernel) (by decide) (by decide +kernel) e116 rfl ?_
      refine xe_alr (ins := .aload_n 0) (len := 1) (i := 0) (by decide +kernel) rfl rfl rfl rfl rfl ?_
      obtain ⟨v117, e118, h⟩ := xbnd h
      refine xs_gi (i := 501) (c := 15) (k := 39) (by decide +kernel) (by decide) (by decide +kernel) e118 rfl ?_
      obtain ⟨v119, e120, h⟩ := xbnd h
      refine xs_iald rfl (by decide +kernel) (xq_gi_in e118) e120 rfl ?_
      obtain ⟨R122, e121, h⟩ := xbnd h
      refine xs_cs (kd := 2) (by decide) (i := 442) (j := 262) (ar := [xI (v119), xI (0), xR_ (v111), xI (0), xR_ (v109)]) (rest := []) (r2 := xr_262) (by decide +kernel) (by decide +kernel) (by decide +kernel) xr_262_e rfl (by decide) ?_
      refine xc_i (k262 (d := d + 3)  (show xin (0) by decide) (show xin (0) by decide) (xq_ai_in e120) e121) rfl (fun hi123 => ?_)
      refine xe_ifne (off := 7) (t := 118) (by decide +kernel) (by decide) rfl hi123 (fun c124 => ?_) (fun c124 => ?_)
      · rw [if_pos c124] at h
        refine xW_lv rfl (l := []) (xsb_of trivial (show [0].Nodup by decide)) ?_
        exact k283_118    h
      · rw [if_neg c124] at h
        refine xe_alr (ins := .aload_n 0) (len := 1) (i := 0) (by decide +kernel) rfl rfl rfl rfl rfl ?_
        obtain ⟨_, e126, h⟩ := xbnd h
        obtain ⟨M127, e125, h⟩ := xbnd h
        refine xs_cv (i := 559) (j := 286) (ar := []) (rest := []) (r2 := xr_286) (by decide +kernel) (by decide +kernel) (by decide +kernel) xr_286_e rfl (by decide) (by decide) e126 ?_
        refine xc_v (k286 (d := d + 2)   e125) rfl ?_
        refine xW_lv rfl (l := []) (xsb_of trivial (show [0].Nodup by decide)) ?_
        exact k283_118    h
  · rw [if_neg c103] at h
    by_cases c129 : (v101) = 1
    · rw [if_pos c129] at h
      refine xe_ts (dd := 75) (lo := 1) (hi := 3) (offs := #[28, 54, 68]) (len := 28) (off := 28) (t := 32) (by decide +kernel) (xq_gi_in e102) (by rw [if_neg c103, c129]; rfl) (by decide) ?_
      refine xe_alr (ins := .aload_n 0) (len := 1) (i := 0) (by decide +kernel) rfl rfl rfl rfl rfl ?_
      obtain ⟨_, e131, h⟩ := xbnd h
      obtain ⟨R132, e130, h⟩ := xbnd h
      refine xs_cv (i := 545) (j := 282) (ar := []) (rest := []) (r2 := xr_282) (by decide +kernel) (by decide +kernel) (by decide +kernel) xr_282_e rfl (by decide) (by decide) e131 ?_
      refine xc_i (k282 (d := d + 0)   e130) rfl (fun hi133 => ?_)
      refine xe_ifeq (off := 82) (t := 118) (by decide +kernel) (by decide) rfl hi133 (fun c134 => ?_) (fun c134 => ?_)
      · rw [if_pos c134] at h
        refine xW_lv rfl (l := []) (xsb_of trivial (show [0].Nodup by decide)) ?_
        exact k283_118    h
      · rw [if_neg c134] at h
        refine xe_alr (ins := .aload_n 0) (len := 1) (i := 0) (by decide +kernel) rfl rfl rfl rfl rfl ?_
        refine xe_alr (ins := .aload_n 0) (len := 1) (i := 0) (by decide +kernel) rfl rfl rfl rfl rfl ?_
        obtain ⟨v135, e136, h⟩ := xbnd h
        refine xs_gr (i := 439) (c := 15) (k := 29) (by decide +kernel) (by decide) (by decide +kernel) e136 rfl ?_
        obtain ⟨v137, e138, h⟩ := xbnd h
        refine xs_gr (i := 292) (c := 14) (k := 15) (by decide +kernel) (by decide) (by decide +kernel) e138 rfl ?_
        refine xe_alr (ins := .aload_n 0) (len := 1) (i := 0) (by decide +kernel) rfl rfl rfl rfl rfl ?_
        obtain ⟨v139, e140, h⟩ := xbnd h
        refine xs_gi (i := 501) (c := 15) (k := 39) (by decide +kernel) (by decide) (by decide +kernel) e140 rfl ?_
        obtain ⟨v141, e142, h⟩ := xbnd h
        refine xs_iald rfl (by decide +kernel) (xq_gi_in e140) e142 rfl ?_
        obtain ⟨_, e144, h⟩ := xbnd h
        obtain ⟨M145, e143, h⟩ := xbnd h
        refine xs_cv (i := 548) (j := 284) (ar := [xI (v141)]) (rest := []) (r2 := xr_284) (by decide +kernel) (by decide +kernel) (by decide +kernel) xr_284_e rfl (by decide) (by decide) e144 ?_
        refine xc_v (k284 (d := d + 1)  (xq_ai_in e142) e143) rfl ?_
        refine xe_goto (off := 63) (nx := 118) (by decide +kernel) (by decide) ?_
        refine xW_lv rfl (l := []) (xsb_of trivial (show [0].Nodup by decide)) ?_
        exact k283_118    h
    · rw [if_neg c129] at h
      by_cases c147 : (v101) = 2
      · rw [if_pos c147] at h
        refine xe_ts (dd := 75) (lo := 1) (hi := 3) (offs := #[28, 54, 68]) (len := 28) (off := 54) (t := 58) (by decide +kernel) (xq_gi_in e102) (by rw [if_neg c103, c147]; rfl) (by decide) ?_
        refine xe_alr (ins := .aload_n 0) (len := 1) (i := 0) (by decide +kernel) rfl rfl rfl rfl rfl ?_
        obtain ⟨_, e149, h⟩ := xbnd h
        obtain ⟨R150, e148, h⟩ := xbnd h
        refine xs_cv (i := 545) (j := 282) (ar := []) (rest := []) (r2 := xr_282) (by decide +kernel) (by decide +kernel) (by decide +kernel) xr_282_e rfl (by decide) (by decide) e149 ?_
        refine xc_i (k282 (d := d + 0)   e148) rfl (fun hi151 => ?_)
        refine xe_ifeq (off := 56) (t := 118) (by decide +kernel) (by decide) rfl hi151 (fun c152 => ?_) (fun c152 => ?_)
        · rw [if_pos c152] at h
          refine xW_lv rfl (l := []) (xsb_of trivial (show [0].Nodup by decide)) ?_
          exact k283_118    h
        · rw [if_neg c152] at h
          refine xe_alr (ins := .aload_n 0) (len := 1) (i := 0) (by decide +kernel) rfl rfl rfl rfl rfl ?_
          obtain ⟨_, e154, h⟩ := xbnd h
          obtain ⟨M155, e153, h⟩ := xbnd h
          refine xs_cv (i := 551) (j := 287) (ar := []) (rest := []) (r2 := xr_287) (by decide +kernel) (by decide +kernel) (by decide +kernel) xr_287_e rfl (by decide) (by decide) e154 ?_
          refine xc_v (k287 (d := d + 2)   e153) rfl ?_
          refine xe_goto (off := 49) (nx := 118) (by decide +kernel) (by decide) ?_
          refine xW_lv rfl (l := []) (xsb_of trivial (show [0].Nodup by decide)) ?_
          exact k283_118    h
      · rw [if_neg c147] at h
        have c157 : (v101) = 3 := by omega
        refine xe_ts (dd := 75) (lo := 1) (hi := 3) (offs := #[28, 54, 68]) (len := 28) (off := 68) (t := 72) (by decide +kernel) (xq_gi_in e102) (by rw [if_neg c103, c157]; rfl) (by decide) ?_
        refine xe_alr (ins := .aload_n 0) (len := 1) (i := 0) (by decide +kernel) rfl rfl rfl rfl rfl ?_
        obtain ⟨_, e159, h⟩ := xbnd h
        obtain ⟨M160, e158, h⟩ := xbnd h
        refine xs_cv (i := 553) (j := 285) (ar := []) (rest := []) (r2 := xr_285) (by decide +kernel) (by decide +kernel) (by decide +kernel) xr_285_e rfl (by decide) (by decide) e159 ?_
        refine xc_v (k285 (d := d + 2)   e158) rfl ?_
        refine xe_goto (off := 42) (nx := 118) (by decide +kernel) (by decide) ?_
        refine xW_lv rfl (l := []) (xsb_of trivial (show [0].Nodup by decide)) ?_
        exact k283_118    h
-- ChangeHouseModel.worthOf
def xr_350 : xj_mR := (15, yX15_worthOf, cX15_worthOf, 7, (Option.some Jvm.ClassFile.FieldType.long), 2, false, (10, 154), (1, 12))
set_option maxRecDepth 20000 in
theorem xr_350_e : xj_row 350 = some xr_350 := rfl
def f350_246 (q350 : Nat → Nat → Int → xj_M → Option (Int × xj_M))  (f : Nat) (y0 : Int) (M : xj_M) : Option (Int × xj_M) := (some (y0, M))
theorem k350_246 {d f : Nat} {q350 : Nat → Nat → Int → xj_M → Option (Int × xj_M)}  (hq350 : ∀ {e : Nat} {a0 : Nat} {a1 : Nat} {a2 : Int} {M : xj_M} {R : Int × xj_M}, d ≤ e → xin a2 → q350 a0 a1 a2 M = some R → xT e 350 [xR_ a0, xR_ a1, xI a2] M (xQl R))  {y0 : Int} {M : xj_M} {R : Int × xj_M} (hy0 : xiN y0) (h : f350_246 q350  f y0 M = some R) : xW (d + 3) (none, d + 3, none) xr_350 (246, [], [xZ y0], M) (xQl R) := by
  unfold f350_246 at h
  cases h
  exact xe_ret_l (by decide +kernel) rfl ⟨rfl, rfl, hy0⟩
def f350_243 (q350 : Nat → Nat → Int → xj_M → Option (Int × xj_M))  (f : Nat) (y0 : Int) (y1 : Nat) (y2 : Nat) (M : xj_M) : Option (Int × xj_M) := ((xq_is 15 (y2) M).bind fun _ => ((q350 (y2) (y1) (y0) M).bind fun R103 => f350_246 q350  f (R103.1) R103.2))
theorem k350_243 {d f : Nat} {q350 : Nat → Nat → Int → xj_M → Option (Int × xj_M)}  (hq350 : ∀ {e : Nat} {a0 : Nat} {a1 : Nat} {a2 : Int} {M : xj_M} {R : Int × xj_M}, d ≤ e → xin a2 → q350 a0 a1 a2 M = some R → xT e 350 [xR_ a0, xR_ a1, xI a2] M (xQl R))  {y0 : Int} {y1 : Nat} {y2 : Nat} {M : xj_M} {R : Int × xj_M} (hy0 : xin y0) (h : f350_243 q350  f y0 y1 y2 M = some R) : xW (d + 3) (none, d + 3, none) xr_350 (243, [], [xI y0, xR_ y1, xR_ y2], M) (xQl R) := by
  unfold f350_243 at h
  obtain ⟨_, e102, h⟩ := xbnd h
  obtain ⟨R103, e101, h⟩ := xbnd h
  refine xs_cv (i := 1054) (j := 350) (ar := [xI (y0), xR_ (y1)]) (rest := []) (r2 := xr_350) (by decide +kernel) (by decide +kernel) (by decide +kernel) xr_350_e rfl (by decide) (by decide) e102 ?_
  refine xc_l (hq350 (by omega) hy0 e101) rfl (fun hi104 => ?_)
  refine xW_lv rfl (l := []) (xsb_of trivial (show [].Nodup by decide)) ?_
  exact k350_246 hq350  hi104 h
def f350_189 (q350 : Nat → Nat → Int → xj_M → Option (Int × xj_M))  (f : Nat) (y0 : Int) (M : xj_M) : Option (Int × xj_M) := (some (y0, M))
theorem k350_189 {d f : Nat} {q350 : Nat → Nat → Int → xj_M → Option (Int × xj_M)}  (hq350 : ∀ {e : Nat} {a0 : Nat} {a1 : Nat} {a2 : Int} {M : xj_M} {R : Int × xj_M}, d ≤ e → xin a2 → q350 a0 a1 a2 M = some R → xT e 350 [xR_ a0, xR_ a1, xI a2] M (xQl R))  {y0 : Int} {M : xj_M} {R : Int × xj_M} (hy0 : xiN y0) (h : f350_189 q350  f y0 M = some R) : xW (d + 3) (none, d + 3, none) xr_350 (189, [], [xZ y0], M) (xQl R) := by
  unfold f350_189 at h
  cases h
  exact xe_ret_l (by decide +kernel) rfl ⟨rfl, rfl, hy0⟩
def f350_163 (q350 : Nat → Nat → Int → xj_M → Option (Int × xj_M))  (f : Nat) (x0 : Nat) (x2 : Int) (x3 : Int) (y0 : Int) (M : xj_M) : Option (Int × xj_M) := ((xq_gi 15 91 (x0) M).bind fun v105 => (if ¬ (v105) = 0 then f350_189 q350  f (0) M else ((xq_gr 15 87 (x0) M).bind fun v108 => ((xq_ai 3 (v108) (x2) M).bind fun v110 => ((xq_is 15 (x0) M).bind fun _ => ((f351  f (x0) (v110) (x3) (y0) M).bind fun R114 => f350_189 q350  f (R114.1) R114.2))))))
theorem k350_163 {d f : Nat} {q350 : Nat → Nat → Int → xj_M → Option (Int × xj_M)}  (hq350 : ∀ {e : Nat} {a0 : Nat} {a1 : Nat} {a2 : Int} {M : xj_M} {R : Int × xj_M}, d ≤ e → xin a2 → q350 a0 a1 a2 M = some R → xT e 350 [xR_ a0, xR_ a1, xI a2] M (xQl R))  {x0 : Nat} {x2 : Int} {x3 : Int} {y0 : Int} {M : xj_M} {R : Int × xj_M} (hx2 : xin x2) (hx3 : xiN x3) (hy0 : xiN y0) (h : f350_163 q350  f x0 x2 x3 y0 M = some R) : xW (d + 3) (none, d + 3, none) xr_350 (163, [(0, xR_ x0), (2, xI x2), (3, xZ x3)], [xZ y0], M) (xQl R) := by
  unfold f350_163 at h
  refine xe_lsr (ins := .lstore 5) (len := 2) (i := 5) (by decide +kernel) rfl rfl rfl (by decide) (xk2_k (show ¬ (0 : Nat) = 5 by decide) (show ¬ (0 : Nat) = 5 + 1 by decide) (Or.inl (show ¬ (0 + 1 : Nat) = 5 by decide)) (xk2_k (show ¬ (2 : Nat) = 5 by decide) (show ¬ (2 : Nat) = 5 + 1 by decide) (Or.inl (show ¬ (2 + 1 : Nat) = 5 by decide)) (xk2_k (show ¬ (3 : Nat) = 5 by decide) (show ¬ (3 : Nat) = 5 + 1 by decide) (Or.inl (show ¬ (3 + 1 : Nat) = 5 by decide)) xk2_n))) rfl ?_
  refine xe_alr (ins := .aload_n 0) (len := 1) (i := 0) (by decide +kernel) rfl rfl rfl rfl rfl ?_
  obtain ⟨v105, e106, h⟩ := xbnd h
  refine xs_gi (i := 1051) (c := 15) (k := 91) (by decide +kernel) (by decide) (by decide +kernel) e106 rfl ?_
  refine xe_ifne (off := 19) (t := 188) (by decide +kernel) (by decide) rfl (xq_gi_in e106) (fun c107 => ?_) (fun c107 => ?_)
  · rw [if_pos c107] at h
    refine xe_lconst (n := 0) (z := 0) (by decide +kernel) rfl rfl ?_
    refine xW_lv rfl (l := []) (xsb_of trivial (show [5, 0, 2, 3].Nodup by decide)) ?_
    exact k350_189 hq350  (show xiN (0) by decide) h
  · rw [if_neg c107] at h
    refine xe_alr (ins := .aload_n 0) (len := 1) (i := 0) (by decide +kernel) rfl rfl rfl rfl rfl ?_
    refine xe_alr (ins := .aload_n 0) (len := 1) (i := 0) (by decide +kernel) rfl rfl rfl rfl rfl ?_
    obtain ⟨v108, e109, h⟩ := xbnd h
    refine xs_gr (i := 955) (c := 15) (k := 87) (by decide +kernel) (by decide) (by decide +kernel) e109 rfl ?_
    refine xe_ldn (ins := .iload_n 2) (len := 1) (by decide +kernel) rfl rfl rfl rfl ?_
    obtain ⟨v110, e111, h⟩ := xbnd h
    refine xs_iald rfl (by decide +kernel) hx2 e111 rfl ?_
    refine xe_ldn (ins := .lload_n 3) (len := 1) (by decide +kernel) rfl rfl rfl rfl ?_
    refine xe_ldn (ins := .lload 5) (len := 2) (by decide +kernel) rfl rfl rfl rfl ?_
    obtain ⟨_, e113, h⟩ := xbnd h
    obtain ⟨R114, e112, h⟩ := xbnd h
    refine xs_cv (i := 1058) (j := 351) (ar := [xZ (y0), xZ (x3), xI (v110)]) (rest := []) (r2 := xr_351) (by decide +kernel) (by decide +kernel) (by decide +kernel) xr_351_e rfl (by decide) (by decide) e113 ?_
    refine xc_l (k351 (d := d + 0)  (xq_ai_in e111) hx3 hy0 e112) rfl (fun hi115 => ?_)
    refine xe_goto (off := 4) (nx := 189) (by decide +kernel) (by decide) ?_
    refine xW_lv rfl (l := []) (xsb_of trivial (show [5, 0, 2, 3].Nodup by decide)) ?_
    exact k350_189 hq350  hi115 h
def f350_128 (q350 : Nat → Nat → Int → xj_M → Option (Int × xj_M))  (f : Nat) (y0 : Int) (M : xj_M) : Option (Int × xj_M) := (some (y0, M))
theorem k350_128 {d f : Nat} {q350 : Nat → Nat → Int → xj_M → Option (Int × xj_M)}  (hq350 : ∀ {e : Nat} {a0 : Nat} {a1 : Nat} {a2 : Int} {M : xj_M} {R : Int × xj_M}, d ≤ e → xin a2 → q350 a0 a1 a2 M = some R → xT e 350 [xR_ a0, xR_ a1, xI a2] M (xQl R))  {y0 : Int} {M : xj_M} {R : Int × xj_M} (hy0 : xiN y0) (h : f350_128 q350  f y0 M = some R) : xW (d + 3) (none, d + 3, none) xr_350 (128, [], [xZ y0], M) (xQl R) := by
  unfold f350_128 at h
  cases h
  exact xe_ret_l (by decide +kernel) rfl ⟨rfl, rfl, hy0⟩
def f350_98 (q350 : Nat → Nat → Int → xj_M → Option (Int × xj_M))  (f : Nat) (x0 : Nat) (x1 : Nat) (x2 : Int) (M : xj_M) : Option (Int × xj_M) := ((xq_gr 13 20 (x1) M).bind fun v116 => ((xq_gr 15 85 (x0) M).bind fun v118 => ((xq_ai 3 (v118) (x2) M).bind fun v120 => ((xq_ai 3 (v116) (v120) M).bind fun v122 => (if ¬ (v122) = (1) then f350_128 q350  f (0) M else ((xq_gr 13 23 (x1) M).bind fun v125 => ((xq_gr 15 85 (x0) M).bind fun v127 => ((xq_ai 3 (v127) (x2) M).bind fun v129 => ((xq_al (v125) (v129) M).bind fun v131 => f350_128 q350  f (v131) M)))))))))
theorem k350_98 {d f : Nat} {q350 : Nat → Nat → Int → xj_M → Option (Int × xj_M)}  (hq350 : ∀ {e : Nat} {a0 : Nat} {a1 : Nat} {a2 : Int} {M : xj_M} {R : Int × xj_M}, d ≤ e → xin a2 → q350 a0 a1 a2 M = some R → xT e 350 [xR_ a0, xR_ a1, xI a2] M (xQl R))  {x0 : Nat} {x1 : Nat} {x2 : Int} {M : xj_M} {R : Int × xj_M} (hx2 : xin x2) (h : f350_98 q350  f x0 x1 x2 M = some R) : xW (d + 3) (none, d + 3, none) xr_350 (98, [(0, xR_ x0), (1, xR_ x1), (2, xI x2)], [], M) (xQl R) := by
  unfold f350_98 at h
  refine xe_alr (ins := .aload_n 1) (len := 1) (i := 1) (by decide +kernel) rfl rfl rfl rfl rfl ?_
  obtain ⟨v116, e117, h⟩ := xbnd h
  refine xs_gr (i := 1045) (c := 13) (k := 20) (by decide +kernel) (by decide) (by decide +kernel) e117 rfl ?_
  refine xe_alr (ins := .aload_n 0) (len := 1) (i := 0) (by decide +kernel) rfl rfl rfl rfl rfl ?_
  obtain ⟨v118, e119, h⟩ := xbnd h
  refine xs_gr (i := 949) (c := 15) (k := 85) (by decide +kernel) (by decide) (by decide +kernel) e119 rfl ?_
  refine xe_ldn (ins := .iload_n 2) (len := 1) (by decide +kernel) rfl rfl rfl rfl ?_
  obtain ⟨v120, e121, h⟩ := xbnd h
  refine xs_iald rfl (by decide +kernel) hx2 e121 rfl ?_
  obtain ⟨v122, e123, h⟩ := xbnd h
  refine xs_iald rfl (by decide +kernel) (xq_ai_in e121) e123 rfl ?_
  refine xe_iconst (n := 1) (by decide +kernel) rfl ?_
  refine xe_icmpne (off := 17) (t := 127) (by decide +kernel) (by decide) rfl (xq_ai_in e123) (show xin (1) by decide) (fun c124 => ?_) (fun c124 => ?_)
  · rw [if_pos c124] at h
    refine xe_lconst (n := 0) (z := 0) (by decide +kernel) rfl rfl ?_
    refine xW_lv rfl (l := []) (xsb_of trivial (show [0, 1, 2].Nodup by decide)) ?_
    exact k350_128 hq350  (show xiN (0) by decide) h
  · rw [if_neg c124] at h
    refine xe_alr (ins := .aload_n 1) (len := 1) (i := 1) (by decide +kernel) rfl rfl rfl rfl rfl ?_
    obtain ⟨v125, e126, h⟩ := xbnd h
    refine xs_gr (i := 1048) (c := 13) (k := 23) (by decide +kernel) (by decide) (by decide +kernel) e126 rfl ?_
    refine xe_alr (ins := .aload_n 0) (len := 1) (i := 0) (by decide +kernel) rfl rfl rfl rfl rfl ?_
    obtain ⟨v127, e128, h⟩ := xbnd h
    refine xs_gr (i := 949) (c := 15) (k := 85) (by decide +kernel) (by decide) (by decide +kernel) e128 rfl ?_
    refine xe_ldn (ins := .iload_n 2) (len := 1) (by decide +kernel) rfl rfl rfl rfl ?_
    obtain ⟨v129, e130, h⟩ := xbnd h
    refine xs_iald rfl (by decide +kernel) hx2 e130 rfl ?_
    obtain ⟨v131, e132, h⟩ := xbnd h
    refine xs_lald (by decide +kernel) (xq_ai_in e130) e132 rfl ?_
    refine xe_goto (off := 4) (nx := 128) (by decide +kernel) (by decide) ?_
    refine xW_lv rfl (l := []) (xsb_of trivial (show [0, 1, 2].Nodup by decide)) ?_
    exact k350_128 hq350  (xq_al_in e132) h
def f350b (q350 : Nat → Nat → Int → xj_M → Option (Int × xj_M)) (f : Nat) (a0 : Nat) (a1 : Nat) (a2 : Int) (M : xj_M) : Option (Int × xj_M) := ((xq_gr 15 84 (a0) M).bind fun v133 => ((xq_ai 3 (v133) (a2) M).bind fun v135 => (if (v135) < 1 ∨ 10 < (v135) then ((xq_is 15 (a0) M).bind fun _ => ((f353  f (a0) (a2) M).bind fun R140 => (some (R140.1, R140.2)))) else (if (v135) = 1 then ((xq_gr 15 88 (a0) M).bind fun v143 => ((xq_al (v143) (a2) M).bind fun v145 => (some (v145, M)))) else (if (v135) = 2 then ((xq_gr 13 20 (a1) M).bind fun v148 => ((xq_gr 15 85 (a0) M).bind fun v150 => ((xq_ai 3 (v150) (a2) M).bind fun v152 => ((xq_ai 3 (v148) (v152) M).bind fun v154 => (if ¬ (v154) = (2) then f350_98 q350  f (a0) (a1) (a2) M else ((xq_gr 13 23 (a1) M).bind fun v157 => ((xq_gr 15 85 (a0) M).bind fun v159 => ((xq_ai 3 (v159) (a2) M).bind fun v161 => ((xq_al (v157) (v161) M).bind fun v163 => ((xq_pi 15 91 (a0) (xwr (v163)) M).bind fun M165 => f350_98 q350  f (a0) (a1) (a2) M165)))))))))) else (if (v135) = 3 then ((xq_gr 15 85 (a0) M).bind fun v168 => ((xq_ai 3 (v168) (a2) M).bind fun v170 => ((xq_is 15 (a0) M).bind fun _ => ((q350 (a0) (a1) (v170) M).bind fun R174 => ((xq_gi 15 91 (a0) R174.2).bind fun v176 => (if ¬ (v176) = 0 then f350_163 q350  f (a0) (a2) (R174.1) (0) R174.2 else ((xq_gr 15 86 (a0) R174.2).bind fun v179 => ((xq_ai 3 (v179) (a2) R174.2).bind fun v181 => ((xq_is 15 (a0) R174.2).bind fun _ => ((q350 (a0) (a1) (v181) R174.2).bind fun R185 => f350_163 q350  f (a0) (a2) (R174.1) (R185.1) R185.2)))))))))) else (if (v135) = 4 then ((xq_is 15 (a0) M).bind fun _ => ((f352  f (a0) (a1) (a2) M).bind fun R190 => (some (R190.1, R190.2)))) else (if (v135) = 5 then ((xq_is 15 (a0) M).bind fun _ => ((f352  f (a0) (a1) (a2) M).bind fun R195 => (some (R195.1, R195.2)))) else (if (v135) = 6 then ((xq_is 15 (a0) M).bind fun _ => ((f353  f (a0) (a2) M).bind fun R200 => (some (R200.1, R200.2)))) else (if (v135) = 7 then ((xq_is 15 (a0) M).bind fun _ => ((f353  f (a0) (a2) M).bind fun R205 => (some (R205.1, R205.2)))) else (if (v135) = 8 then ((xq_is 15 (a0) M).bind fun _ => ((f353  f (a0) (a2) M).bind fun R210 => (some (R210.1, R210.2)))) else (if (v135) = 9 then ((xq_is 15 (a0) M).bind fun _ => ((f353  f (a0) (a2) M).bind fun R215 => (some (R215.1, R215.2)))) else ((xq_gr 15 85 (a0) M).bind fun v218 => ((xq_ai 3 (v218) (a2) M).bind fun v220 => ((xq_is 15 (a0) M).bind fun _ => ((q350 (a0) (a1) (v220) M).bind fun R224 => ((xq_gi 15 91 (a0) R224.2).bind fun v226 => (if (v226) = 0 then (if (R224.1) = (0) then ((xq_gr 15 87 (a0) R224.2).bind fun v230 => ((xq_ai 3 (v230) (a2) R224.2).bind fun v232 => f350_243 q350  f (v232) (a1) (a0) R224.2)) else ((xq_gr 15 86 (a0) R224.2).bind fun v234 => ((xq_ai 3 (v234) (a2) R224.2).bind fun v236 => f350_243 q350  f (v236) (a1) (a0) R224.2))) else f350_246 q350  f (0) R224.2))))))))))))))))))
theorem k350b {d f : Nat} {q350 : Nat → Nat → Int → xj_M → Option (Int × xj_M)} (hq350 : ∀ {e : Nat} {a0 : Nat} {a1 : Nat} {a2 : Int} {M : xj_M} {R : Int × xj_M}, d ≤ e → xin a2 → q350 a0 a1 a2 M = some R → xT e 350 [xR_ a0, xR_ a1, xI a2] M (xQl R)) {a0 : Nat} {a1 : Nat} {a2 : Int} {M : xj_M} {R : Int × xj_M} (ha2 : xin a2) (h : f350b q350 f a0 a1 a2 M = some R) : xT (d + 4) 350 [xR_ a0, xR_ a1, xI a2] M (xQl R) := by
  refine xT_m xr_350_e (X := (none, d + 3, none)) rfl (xa_1 (xR_cat _) (xa_1 (xR_cat _) (xa_1 (xI_cat _) xa_n))) (by decide) ?_
  unfold f350b at h
  refine xe_alr (ins := .aload_n 0) (len := 1) (i := 0) (by decide +kernel) rfl rfl rfl rfl rfl ?_
  obtain ⟨v133, e134, h⟩ := xbnd h
  refine xs_gr (i := 943) (c := 15) (k := 84) (by decide +kernel) (by decide) (by decide +kernel) e134 rfl ?_
  refine xe_ldn (ins := .iload_n 2) (len := 1) (by decide +kernel) rfl rfl rfl rfl ?_
  obtain ⟨v135, e136, h⟩ := xbnd h
  refine xs_iald rfl (by decide +kernel) ha2 e136 rfl ?_
  by_cases c137 : (v135) < 1 ∨ 10 < (v135)
  · rw [if_pos c137] at h
    refine xe_ts (dd := 241) (lo := 1) (hi := 10) (offs := #[54, 61, 123, 184, 184, 241, 241, 241, 241, 191]) (len := 54) (off := 241) (t := 247) (by decide +kernel) (xq_ai_in e136) (by rw [if_pos c137]) (by decide) ?_
    refine xe_alr (ins := .aload_n 0) (len := 1) (i := 0) (by decide +kernel) rfl rfl rfl rfl rfl ?_
    refine xe_ldn (ins := .iload_n 2) (len := 1) (by decide +kernel) rfl rfl rfl rfl ?_
    obtain ⟨_, e139, h⟩ := xbnd h
    obtain ⟨R140, e138, h⟩ := xbnd h
    refine xs_cv (i := 1064) (j := 353) (ar := [xI (a2)]) (rest := []) (r2 := xr_353) (by decide +kernel) (by decide +kernel) (by decide +kernel) xr_353_e rfl (by decide) (by decide) e139 ?_
    refine xc_l (k353 (d := d + 1)  ha2 e138) rfl (fun hi141 => ?_)
    cases h
    exact xe_ret_l (by decide +kernel) rfl ⟨rfl, rfl, hi141⟩
  · rw [if_neg c137] at h
    by_cases c142 : (v135) = 1
    · rw [if_pos c142] at h
      refine xe_ts (dd := 241) (lo := 1) (hi := 10) (offs := #[54, 61, 123, 184, 184, 241, 241, 241, 241, 191]) (len := 54) (off := 54) (t := 60) (by decide +kernel) (xq_ai_in e136) (by rw [if_neg c137, c142]; rfl) (by decide) ?_
      refine xe_alr (ins := .aload_n 0) (len := 1) (i := 0) (by decide +kernel) rfl rfl rfl rfl rfl ?_
      obtain ⟨v143, e144, h⟩ := xbnd h
      refine xs_gr (i := 958) (c := 15) (k := 88) (by decide +kernel) (by decide) (by decide +kernel) e144 rfl ?_
      refine xe_ldn (ins := .iload_n 2) (len := 1) (by decide +kernel) rfl rfl rfl rfl ?_
      obtain ⟨v145, e146, h⟩ := xbnd h
      refine xs_lald (by decide +kernel) ha2 e146 rfl ?_
      cases h
      exact xe_ret_l (by decide +kernel) rfl ⟨rfl, rfl, (xq_al_in e146)⟩
    · rw [if_neg c142] at h
      by_cases c147 : (v135) = 2
      · rw [if_pos c147] at h
        refine xe_ts (dd := 241) (lo := 1) (hi := 10) (offs := #[54, 61, 123, 184, 184, 241, 241, 241, 241, 191]) (len := 54) (off := 61) (t := 67) (by decide +kernel) (xq_ai_in e136) (by rw [if_neg c137, c147]; rfl) (by decide) ?_
        refine xe_alr (ins := .aload_n 1) (len := 1) (i := 1) (by decide +kernel) rfl rfl rfl rfl rfl ?_
        obtain ⟨v148, e149, h⟩ := xbnd h
        refine xs_gr (i := 1045) (c := 13) (k := 20) (by decide +kernel) (by decide) (by decide +kernel) e149 rfl ?_
        refine xe_alr (ins := .aload_n 0) (len := 1) (i := 0) (by decide +kernel) rfl rfl rfl rfl rfl ?_
        obtain ⟨v150, e151, h⟩ := xbnd h
        refine xs_gr (i := 949) (c := 15) (k := 85) (by decide +kernel) (by decide) (by decide +kernel) e151 rfl ?_
        refine xe_ldn (ins := .iload_n 2) (len := 1) (by decide +kernel) rfl rfl rfl rfl ?_
        obtain ⟨v152, e153, h⟩ := xbnd h
        refine xs_iald rfl (by decide +kernel) ha2 e153 rfl ?_
        obtain ⟨v154, e155, h⟩ := xbnd h
        refine xs_iald rfl (by decide +kernel) (xq_ai_in e153) e155 rfl ?_
        refine xe_iconst (n := 2) (by decide +kernel) rfl ?_
        refine xe_icmpne (off := 19) (t := 98) (by decide +kernel) (by decide) rfl (xq_ai_in e155) (show xin (2) by decide) (fun c156 => ?_) (fun c156 => ?_)
        · rw [if_pos c156] at h
          refine xW_lv rfl (l := [(0, xR_ (a0)), (1, xR_ (a1)), (2, xI (a2))]) (xsb_of ⟨rfl, rfl, rfl, trivial⟩ (show [0, 1, 2].Nodup by decide)) ?_
          exact k350_98 hq350  ha2 h
        · rw [if_neg c156] at h
          refine xe_alr (ins := .aload_n 0) (len := 1) (i := 0) (by decide +kernel) rfl rfl rfl rfl rfl ?_
          refine xe_alr (ins := .aload_n 1) (len := 1) (i := 1) (by decide +kernel) rfl rfl rfl rfl rfl ?_
          obtain ⟨v157, e158, h⟩ := xbnd h
          refine xs_gr (i := 1048) (c := 13) (k := 23) (by decide +kernel) (by decide) (by decide +kernel) e158 rfl ?_
          refine xe_alr (ins := .aload_n 0) (len := 1) (i := 0) (by decide +kernel) rfl rfl rfl rfl rfl ?_
          obtain ⟨v159, e160, h⟩ := xbnd h
          refine xs_gr (i := 949) (c := 15) (k := 85) (by decide +kernel) (by decide) (by decide +kernel) e160 rfl ?_
          refine xe_ldn (ins := .iload_n 2) (len := 1) (by decide +kernel) rfl rfl rfl rfl ?_
          obtain ⟨v161, e162, h⟩ := xbnd h
          refine xs_iald rfl (by decide +kernel) ha2 e162 rfl ?_
          obtain ⟨v163, e164, h⟩ := xbnd h
          refine xs_lald (by decide +kernel) (xq_ai_in e162) e164 rfl ?_
          refine xe_l2i (by decide +kernel) rfl ?_
          obtain ⟨M165, e166, h⟩ := xbnd h
          refine xs_p (i := 1051) (c := 15) (k := 91) (by decide +kernel) (by decide +kernel) (by decide +kernel) e166 rfl ?_
          refine xW_lv rfl (l := [(0, xR_ (a0)), (1, xR_ (a1)), (2, xI (a2))]) (xsb_of ⟨rfl, rfl, rfl, trivial⟩ (show [0, 1, 2].Nodup by decide)) ?_
          exact k350_98 hq350  ha2 h
      · rw [if_neg c147] at h
        by_cases c167 : (v135) = 3
        · rw [if_pos c167] at h
          refine xe_ts (dd := 241) (lo := 1) (hi := 10) (offs := #[54, 61, 123, 184, 184, 241, 241, 241, 241, 191]) (len := 54) (off := 123) (t := 129) (by decide +kernel) (xq_ai_in e136) (by rw [if_neg c137, c167]; rfl) (by decide) ?_
          refine xe_alr (ins := .aload_n 0) (len := 1) (i := 0) (by decide +kernel) rfl rfl rfl rfl rfl ?_
          refine xe_alr (ins := .aload_n 1) (len := 1) (i := 1) (by decide +kernel) rfl rfl rfl rfl rfl ?_
          refine xe_alr (ins := .aload_n 0) (len := 1) (i := 0) (by decide +kernel) rfl rfl rfl rfl rfl ?_
          obtain ⟨v168, e169, h⟩ := xbnd h
          refine xs_gr (i := 949) (c := 15) (k := 85) (by decide +kernel) (by decide) (by decide +kernel) e169 rfl ?_
          refine xe_ldn (ins := .iload_n 2) (len := 1) (by decide +kernel) rfl rfl rfl rfl ?_
          obtain ⟨v170, e171, h⟩ := xbnd h
          refine xs_iald rfl (by decide +kernel) ha2 e171 rfl ?_
          obtain ⟨_, e173, h⟩ := xbnd h
          obtain ⟨R174, e172, h⟩ := xbnd h
          refine xs_cv (i := 1054) (j := 350) (ar := [xI (v170), xR_ (a1)]) (rest := []) (r2 := xr_350) (by decide +kernel) (by decide +kernel) (by decide +kernel) xr_350_e rfl (by decide) (by decide) e173 ?_
          refine xc_l (hq350 (by omega) (xq_ai_in e171) e172) rfl (fun hi175 => ?_)
          refine xe_lsr (ins := .lstore_n 3) (len := 1) (i := 3) (by decide +kernel) rfl rfl rfl (by decide) (xk2_k (show ¬ (0 : Nat) = 3 by decide) (show ¬ (0 : Nat) = 3 + 1 by decide) (Or.inl (show ¬ (0 + 1 : Nat) = 3 by decide)) (xk2_k (show ¬ (1 : Nat) = 3 by decide) (show ¬ (1 : Nat) = 3 + 1 by decide) (Or.inl (show ¬ (1 + 1 : Nat) = 3 by decide)) (xk2_k (show ¬ (2 : Nat) = 3 by decide) (show ¬ (2 : Nat) = 3 + 1 by decide) (Or.inr (xI_cat _)) xk2_n))) rfl ?_
          refine xe_alr (ins := .aload_n 0) (len := 1) (i := 0) (by decide +kernel) rfl rfl rfl rfl rfl ?_
          obtain ⟨v176, e177, h⟩ := xbnd h
          refine xs_gi (i := 1051) (c := 15) (k := 91) (by decide +kernel) (by decide) (by decide +kernel) e177 rfl ?_
          refine xe_ifne (off := 17) (t := 162) (by decide +kernel) (by decide) rfl (xq_gi_in e177) (fun c178 => ?_) (fun c178 => ?_)
          · rw [if_pos c178] at h
            refine xe_lconst (n := 0) (z := 0) (by decide +kernel) rfl rfl ?_
            refine xW_lv rfl (l := [(0, xR_ (a0)), (2, xI (a2)), (3, xZ (R174.1))]) (xsb_of ⟨rfl, rfl, rfl, trivial⟩ (show [3, 0, 1, 2].Nodup by decide)) ?_
            exact k350_163 hq350  ha2 hi175 (show xiN (0) by decide) h
          · rw [if_neg c178] at h
            refine xe_alr (ins := .aload_n 0) (len := 1) (i := 0) (by decide +kernel) rfl rfl rfl rfl rfl ?_
            refine xe_alr (ins := .aload_n 1) (len := 1) (i := 1) (by decide +kernel) rfl rfl rfl rfl rfl ?_
            refine xe_alr (ins := .aload_n 0) (len := 1) (i := 0) (by decide +kernel) rfl rfl rfl rfl rfl ?_
            obtain ⟨v179, e180, h⟩ := xbnd h
            refine xs_gr (i := 952) (c := 15) (k := 86) (by decide +kernel) (by decide) (by decide +kernel) e180 rfl ?_
            refine xe_ldn (ins := .iload_n 2) (len := 1) (by decide +kernel) rfl rfl rfl rfl ?_
            obtain ⟨v181, e182, h⟩ := xbnd h
            refine xs_iald rfl (by decide +kernel) ha2 e182 rfl ?_
            obtain ⟨_, e184, h⟩ := xbnd h
            obtain ⟨R185, e183, h⟩ := xbnd h
            refine xs_cv (i := 1054) (j := 350) (ar := [xI (v181), xR_ (a1)]) (rest := []) (r2 := xr_350) (by decide +kernel) (by decide +kernel) (by decide +kernel) xr_350_e rfl (by decide) (by decide) e184 ?_
            refine xc_l (hq350 (by omega) (xq_ai_in e182) e183) rfl (fun hi186 => ?_)
            refine xe_goto (off := 4) (nx := 163) (by decide +kernel) (by decide) ?_
            refine xW_lv rfl (l := [(0, xR_ (a0)), (2, xI (a2)), (3, xZ (R174.1))]) (xsb_of ⟨rfl, rfl, rfl, trivial⟩ (show [3, 0, 1, 2].Nodup by decide)) ?_
            exact k350_163 hq350  ha2 hi175 hi186 h
        · rw [if_neg c167] at h
          by_cases c187 : (v135) = 4
          · rw [if_pos c187] at h
            refine xe_ts (dd := 241) (lo := 1) (hi := 10) (offs := #[54, 61, 123, 184, 184, 241, 241, 241, 241, 191]) (len := 54) (off := 184) (t := 190) (by decide +kernel) (xq_ai_in e136) (by rw [if_neg c137, c187]; rfl) (by decide) ?_
            refine xe_alr (ins := .aload_n 0) (len := 1) (i := 0) (by decide +kernel) rfl rfl rfl rfl rfl ?_
            refine xe_alr (ins := .aload_n 1) (len := 1) (i := 1) (by decide +kernel) rfl rfl rfl rfl rfl ?_
            refine xe_ldn (ins := .iload_n 2) (len := 1) (by decide +kernel) rfl rfl rfl rfl ?_
            obtain ⟨_, e189, h⟩ := xbnd h
            obtain ⟨R190, e188, h⟩ := xbnd h
            refine xs_cv (i := 1061) (j := 352) (ar := [xI (a2), xR_ (a1)]) (rest := []) (r2 := xr_352) (by decide +kernel) (by decide +kernel) (by decide +kernel) xr_352_e rfl (by decide) (by decide) e189 ?_
            refine xc_l (k352 (d := d + 1)  ha2 e188) rfl (fun hi191 => ?_)
            cases h
            exact xe_ret_l (by decide +kernel) rfl ⟨rfl, rfl, hi191⟩
          · rw [if_neg c187] at h
            by_cases c192 : (v135) = 5
            · rw [if_pos c192] at h
              refine xe_ts (dd := 241) (lo := 1) (hi := 10) (offs := #[54, 61, 123, 184, 184, 241, 241, 241, 241, 191]) (len := 54) (off := 184) (t := 190) (by decide +kernel) (xq_ai_in e136) (by rw [if_neg c137, c192]; rfl) (by decide) ?_
              refine xe_alr (ins := .aload_n 0) (len := 1) (i := 0) (by decide +kernel) rfl rfl rfl rfl rfl ?_
              refine xe_alr (ins := .aload_n 1) (len := 1) (i := 1) (by decide +kernel) rfl rfl rfl rfl rfl ?_
              refine xe_ldn (ins := .iload_n 2) (len := 1) (by decide +kernel) rfl rfl rfl rfl ?_
              obtain ⟨_, e194, h⟩ := xbnd h
              obtain ⟨R195, e193, h⟩ := xbnd h
              refine xs_cv (i := 1061) (j := 352) (ar := [xI (a2), xR_ (a1)]) (rest := []) (r2 := xr_352) (by decide +kernel) (by decide +kernel) (by decide +kernel) xr_352_e rfl (by decide) (by decide) e194 ?_
              refine xc_l (k352 (d := d + 1)  ha2 e193) rfl (fun hi196 => ?_)
              cases h
              exact xe_ret_l (by decide +kernel) rfl ⟨rfl, rfl, hi196⟩
            · rw [if_neg c192] at h
              by_cases c197 : (v135) = 6
              · rw [if_pos c197] at h
                refine xe_ts (dd := 241) (lo := 1) (hi := 10) (offs := #[54, 61, 123, 184, 184, 241, 241, 241, 241, 191]) (len := 54) (off := 241) (t := 247) (by decide +kernel) (xq_ai_in e136) (by rw [if_neg c137, c197]; rfl) (by decide) ?_
                refine xe_alr (ins := .aload_n 0) (len := 1) (i := 0) (by decide +kernel) rfl rfl rfl rfl rfl ?_
                refine xe_ldn (ins := .iload_n 2) (len := 1) (by decide +kernel) rfl rfl rfl rfl ?_
                obtain ⟨_, e199, h⟩ := xbnd h
                obtain ⟨R200, e198, h⟩ := xbnd h
                refine xs_cv (i := 1064) (j := 353) (ar := [xI (a2)]) (rest := []) (r2 := xr_353) (by decide +kernel) (by decide +kernel) (by decide +kernel) xr_353_e rfl (by decide) (by decide) e199 ?_
                refine xc_l (k353 (d := d + 1)  ha2 e198) rfl (fun hi201 => ?_)
                cases h
                exact xe_ret_l (by decide +kernel) rfl ⟨rfl, rfl, hi201⟩
              · rw [if_neg c197] at h
                by_cases c202 : (v135) = 7
                · rw [if_pos c202] at h
                  refine xe_ts (dd := 241) (lo := 1) (hi := 10) (offs := #[54, 61, 123, 184, 184, 241, 241, 241, 241, 191]) (len := 54) (off := 241) (t := 247) (by decide +kernel) (xq_ai_in e136) (by rw [if_neg c137, c202]; rfl) (by decide) ?_
                  refine xe_alr (ins := .aload_n 0) (len := 1) (i := 0) (by decide +kernel) rfl rfl rfl rfl rfl ?_
                  refine xe_ldn (ins := .iload_n 2) (len := 1) (by decide +kernel) rfl rfl rfl rfl ?_
                  obtain ⟨_, e204, h⟩ := xbnd h
                  obtain ⟨R205, e203, h⟩ := xbnd h
                  refine xs_cv (i := 1064) (j := 353) (ar := [xI (a2)]) (rest := []) (r2 := xr_353) (by decide +kernel) (by decide +kernel) (by decide +kernel) xr_353_e rfl (by decide) (by decide) e204 ?_
                  refine xc_l (k353 (d := d + 1)  ha2 e203) rfl (fun hi206 => ?_)
                  cases h
                  exact xe_ret_l (by decide +kernel) rfl ⟨rfl, rfl, hi206⟩
                · rw [if_neg c202] at h
                  by_cases c207 : (v135) = 8
                  · rw [if_pos c207] at h
                    refine xe_ts (dd := 241) (lo := 1) (hi := 10) (offs := #[54, 61, 123, 184, 184, 241, 241, 241, 241, 191]) (len := 54) (off := 241) (t := 247) (by decide +kernel) (xq_ai_in e136) (by rw [if_neg c137, c207]; rfl) (by decide) ?_
                    refine xe_alr (ins := .aload_n 0) (len := 1) (i := 0) (by decide +kernel) rfl rfl rfl rfl rfl ?_
                    refine xe_ldn (ins := .iload_n 2) (len := 1) (by decide +kernel) rfl rfl rfl rfl ?_
                    obtain ⟨_, e209, h⟩ := xbnd h
                    obtain ⟨R210, e208, h⟩ := xbnd h
                    refine xs_cv (i := 1064) (j := 353) (ar := [xI (a2)]) (rest := []) (r2 := xr_353) (by decide +kernel) (by decide +kernel) (by decide +kernel) xr_353_e rfl (by decide) (by decide) e209 ?_
                    refine xc_l (k353 (d := d + 1)  ha2 e208) rfl (fun hi211 => ?_)
                    cases h
                    exact xe_ret_l (by decide +kernel) rfl ⟨rfl, rfl, hi211⟩
                  · rw [if_neg c207] at h
                    by_cases c212 : (v135) = 9
                    · rw [if_pos c212] at h
                      refine xe_ts (dd := 241) (lo := 1) (hi := 10) (offs := #[54, 61, 123, 184, 184, 241, 241, 241, 241, 191]) (len := 54) (off := 241) (t := 247) (by decide +kernel) (xq_ai_in e136) (by rw [if_neg c137, c212]; rfl) (by decide) ?_
                      refine xe_alr (ins := .aload_n 0) (len := 1) (i := 0) (by decide +kernel) rfl rfl rfl rfl rfl ?_
                      refine xe_ldn (ins := .iload_n 2) (len := 1) (by decide +kernel) rfl rfl rfl rfl ?_
                      obtain ⟨_, e214, h⟩ := xbnd h
                      obtain ⟨R215, e213, h⟩ := xbnd h
                      refine xs_cv (i := 1064) (j := 353) (ar := [xI (a2)]) (rest := []) (r2 := xr_353) (by decide +kernel) (by decide +kernel) (by decide +kernel) xr_353_e rfl (by decide) (by decide) e214 ?_
                      refine xc_l (k353 (d := d + 1)  ha2 e213) rfl (fun hi216 => ?_)
                      cases h
                      exact xe_ret_l (by decide +kernel) rfl ⟨rfl, rfl, hi216⟩
                    · rw [if_neg c212] at h
                      have c217 : (v135) = 10 := by omega
                      refine xe_ts (dd := 241) (lo := 1) (hi := 10) (offs := #[54, 61, 123, 184, 184, 241, 241, 241, 241, 191]) (len := 54) (off := 191) (t := 197) (by decide +kernel) (xq_ai_in e136) (by rw [if_neg c137, c217]; rfl) (by decide) ?_
                      refine xe_alr (ins := .aload_n 0) (len := 1) (i := 0) (by decide +kernel) rfl rfl rfl rfl rfl ?_
                      refine xe_alr (ins := .aload_n 1) (len := 1) (i := 1) (by decide +kernel) rfl rfl rfl rfl rfl ?_
                      refine xe_alr (ins := .aload_n 0) (len := 1) (i := 0) (by decide +kernel) rfl rfl rfl rfl rfl ?_
                      obtain ⟨v218, e219, h⟩ := xbnd h
                      refine xs_gr (i := 949) (c := 15) (k := 85) (by decide +kernel) (by decide) (by decide +kernel) e219 rfl ?_
                      refine xe_ldn (ins := .iload_n 2) (len := 1) (by decide +kernel) rfl rfl rfl rfl ?_
                      obtain ⟨v220, e221, h⟩ := xbnd h
                      refine xs_iald rfl (by decide +kernel) ha2 e221 rfl ?_
                      obtain ⟨_, e223, h⟩ := xbnd h
                      obtain ⟨R224, e222, h⟩ := xbnd h
                      refine xs_cv (i := 1054) (j := 350) (ar := [xI (v220), xR_ (a1)]) (rest := []) (r2 := xr_350) (by decide +kernel) (by decide +kernel) (by decide +kernel) xr_350_e rfl (by decide) (by decide) e223 ?_
                      refine xc_l (hq350 (by omega) (xq_ai_in e221) e222) rfl (fun hi225 => ?_)
                      refine xe_lsr (ins := .lstore_n 3) (len := 1) (i := 3) (by decide +kernel) rfl rfl rfl (by decide) (xk2_k (show ¬ (0 : Nat) = 3 by decide) (show ¬ (0 : Nat) = 3 + 1 by decide) (Or.inl (show ¬ (0 + 1 : Nat) = 3 by decide)) (xk2_k (show ¬ (1 : Nat) = 3 by decide) (show ¬ (1 : Nat) = 3 + 1 by decide) (Or.inl (show ¬ (1 + 1 : Nat) = 3 by decide)) (xk2_k (show ¬ (2 : Nat) = 3 by decide) (show ¬ (2 : Nat) = 3 + 1 by decide) (Or.inr (xI_cat _)) xk2_n))) rfl ?_
                      refine xe_alr (ins := .aload_n 0) (len := 1) (i := 0) (by decide +kernel) rfl rfl rfl rfl rfl ?_
                      obtain ⟨v226, e227, h⟩ := xbnd h
                      refine xs_gi (i := 1051) (c := 15) (k := 91) (by decide +kernel) (by decide) (by decide +kernel) e227 rfl ?_
                      refine xe_ifeq (off := 7) (t := 220) (by decide +kernel) (by decide) rfl (xq_gi_in e227) (fun c228 => ?_) (fun c228 => ?_)
                      · rw [if_pos c228] at h
                        refine xe_alr (ins := .aload_n 0) (len := 1) (i := 0) (by decide +kernel) rfl rfl rfl rfl rfl ?_
                        refine xe_alr (ins := .aload_n 1) (len := 1) (i := 1) (by decide +kernel) rfl rfl rfl rfl rfl ?_
                        refine xe_ldn (ins := .lload_n 3) (len := 1) (by decide +kernel) rfl rfl rfl rfl ?_
                        refine xe_lconst (n := 0) (z := 0) (by decide +kernel) rfl rfl ?_
                        refine xe_lcmp (by decide +kernel) rfl hi225 (show xiN (0) by decide) ?_
                        refine xe_ifeq (off := 12) (t := 237) (by decide +kernel) (by decide) rfl (xin_cmp8 _ _) (fun c229 => ?_) (fun c229 => ?_)
                        · have c229 := xcmp8_eq.mp c229; rw [if_pos c229] at h
                          refine xe_alr (ins := .aload_n 0) (len := 1) (i := 0) (by decide +kernel) rfl rfl rfl rfl rfl ?_
                          obtain ⟨v230, e231, h⟩ := xbnd h
                          refine xs_gr (i := 955) (c := 15) (k := 87) (by decide +kernel) (by decide) (by decide +kernel) e231 rfl ?_
                          refine xe_ldn (ins := .iload_n 2) (len := 1) (by decide +kernel) rfl rfl rfl rfl ?_
                          obtain ⟨v232, e233, h⟩ := xbnd h
                          refine xs_iald rfl (by decide +kernel) ha2 e233 rfl ?_
                          refine xW_lv rfl (l := []) (xsb_of trivial (show [3, 0, 1, 2].Nodup by decide)) ?_
                          exact k350_243 hq350  (xq_ai_in e233) h
                        · have c229 := (not_congr xcmp8_eq).mp c229; rw [if_neg c229] at h
                          refine xe_alr (ins := .aload_n 0) (len := 1) (i := 0) (by decide +kernel) rfl rfl rfl rfl rfl ?_
                          obtain ⟨v234, e235, h⟩ := xbnd h
                          refine xs_gr (i := 952) (c := 15) (k := 86) (by decide +kernel) (by decide) (by decide +kernel) e235 rfl ?_
                          refine xe_ldn (ins := .iload_n 2) (len := 1) (by decide +kernel) rfl rfl rfl rfl ?_
                          obtain ⟨v236, e237, h⟩ := xbnd h
                          refine xs_iald rfl (by decide +kernel) ha2 e237 rfl ?_
                          refine xe_goto (off := 9) (nx := 243) (by decide +kernel) (by decide) ?_
                          refine xW_lv rfl (l := []) (xsb_of trivial (show [3, 0, 1, 2].Nodup by decide)) ?_
                          exact k350_243 hq350  (xq_ai_in e237) h
                      · rw [if_neg c228] at h
                        refine xe_lconst (n := 0) (z := 0) (by decide +kernel) rfl rfl ?_
                        refine xe_goto (off := 29) (nx := 246) (by decide +kernel) (by decide) ?_
                        refine xW_lv rfl (l := []) (xsb_of trivial (show [3, 0, 1, 2].Nodup by decide)) ?_
                        exact k350_246 hq350  (show xiN (0) by decide) h
def f350r (f : Nat) : Nat → Nat → Nat → Int → xj_M → Option (Int × xj_M)
  | 0, _, _, _, _ => none
  | n + 1, a0, a1, a2, M => f350b (f350r f n) f a0 a1 a2 M
theorem k350r {f : Nat} : ∀ {n d e : Nat} {a0 : Nat} {a1 : Nat} {a2 : Int} {M : xj_M} {R : Int × xj_M}, d + 4 * n ≤ e → xin a2 → f350r f n a0 a1 a2 M = some R → xT e 350 [xR_ a0, xR_ a1, xI a2] M (xQl R) := by
  intro n
  induction n with
  | zero => intros; rename_i h; cases h
  | succ n ih =>
    intro d e
    intros
    rename_i h
    obtain ⟨d2, rfl⟩ : ∃ d2, e = d2 + 4 := ⟨e - 4, by omega⟩
    refine k350b (d := d2) ?_ (by assumption) h
    intros
    rename_i g
    exact ih (d := d) (by omega) (by assumption) g
def f350 (f : Nat) (a0 : Nat) (a1 : Nat) (a2 : Int) (M : xj_M) : Option (Int × xj_M) := f350r f 64 a0 a1 a2 M
theorem k350 {d f : Nat} {a0 : Nat} {a1 : Nat} {a2 : Int} {M : xj_M} {R : Int × xj_M} (ha2 : xin a2) (h : f350 f a0 a1 a2 M = some R) : xT (d + 256) 350 [xR_ a0, xR_ a1, xI a2] M (xQl R) := k350r (d := 0) (by omega) ha2 h
/-- String.indexOf -/
def xr_388 : xj_mR := (18, yJ0_indexOf_7cf53, cJ0_indexOf_7cf53, 3, (Option.some Jvm.ClassFile.FieldType.int), 2, false, (4, 8), (1, 13))
set_option maxRecDepth 20000 in
theorem xr_388_e : xj_row 388 = some xr_388 := rfl
def f388  (f : Nat) (a0 : Nat) (a1 : Int) (a2 : Int) (M : xj_M) : Option (Int × xj_M) := ((xq_st (a0)).bind fun _ => ((f390  f (a0) M).bind fun R103 => (if (R103.1) = 0 then ((xq_sv (a0)).bind fun v106 => ((xq_st (a0)).bind fun _ => ((f385  f (a0) R103.2).bind fun R110 => none))) else ((xq_sv (a0)).bind fun v112 => ((xq_st (a0)).bind fun _ => ((f385  f (a0) R103.2).bind fun R116 => ((f395  f (v112) (a1) (a2) (R116.1) R116.2).bind fun R119 => (some (R119.1, R119.2)))))))))
theorem k388 {d f : Nat}   {a0 : Nat} {a1 : Int} {a2 : Int} {M : xj_M} {R : Int × xj_M} (ha1 : xin a1) (ha2 : xin a2) (h : f388  f a0 a1 a2 M = some R) : xT (d + 3) 388 [xR_ a0, xI a1, xI a2] M (xQi R) := by
  refine xT_m xr_388_e (X := (none, d + 2, none)) rfl (xa_1 (xR_cat _) (xa_1 (xI_cat _) (xa_1 (xI_cat _) xa_n))) (by decide) ?_
  unfold f388 at h
  refine xe_alr (ins := .aload_n 0) (len := 1) (i := 0) (by decide +kernel) rfl rfl rfl rfl rfl ?_
  obtain ⟨_, e102, h⟩ := xbnd h
  obtain ⟨R103, e101, h⟩ := xbnd h
  refine xs_cw (i := 492) (j := 390) (ar := []) (rest := []) (r2 := xr_390) (by decide +kernel) (by decide +kernel) (by decide +kernel) xr_390_e rfl (by decide) e102 ?_
  refine xc_i (k390 (d := d + 1)   e101) rfl (fun hi104 => ?_)
  refine xe_ifeq (off := 19) (t := 23) (by decide +kernel) (by decide) rfl hi104 (fun c105 => ?_) (fun c105 => ?_)
  · rw [if_pos c105] at h
    refine xe_alr (ins := .aload_n 0) (len := 1) (i := 0) (by decide +kernel) rfl rfl rfl rfl rfl ?_
    obtain ⟨v106, e107, h⟩ := xbnd h
    refine xe_sval rfl (by decide +kernel) e107 rfl ?_
    refine xe_ldn (ins := .iload_n 1) (len := 1) (by decide +kernel) rfl rfl rfl rfl ?_
    refine xe_ldn (ins := .iload_n 2) (len := 1) (by decide +kernel) rfl rfl rfl rfl ?_
    refine xe_alr (ins := .aload_n 0) (len := 1) (i := 0) (by decide +kernel) rfl rfl rfl rfl rfl ?_
    obtain ⟨_, e109, h⟩ := xbnd h
    obtain ⟨R110, e108, h⟩ := xbnd h
    refine xs_cw (i := 505) (j := 385) (ar := []) (rest := [xI (a2), xI (a1), xR_ (v106)]) (r2 := xr_385) (by decide +kernel) (by decide +kernel) (by decide +kernel) xr_385_e rfl (by simp only [List.map_cons, List.map_nil, List.sum_cons, List.sum_nil, xR_cat, xI_cat, xZ_cat]; decide) e109 ?_
    refine xc_i (k385 (d := d + 0)   e108) rfl (fun hi111 => ?_)
    cases h
  · rw [if_neg c105] at h
    refine xe_alr (ins := .aload_n 0) (len := 1) (i := 0) (by decide +kernel) rfl rfl rfl rfl rfl ?_
    obtain ⟨v112, e113, h⟩ := xbnd h
    refine xe_sval rfl (by decide +kernel) e113 rfl ?_
    refine xe_ldn (ins := .iload_n 1) (len := 1) (by decide +kernel) rfl rfl rfl rfl ?_
    refine xe_ldn (ins := .iload_n 2) (len := 1) (by decide +kernel) rfl rfl rfl rfl ?_
    refine xe_alr (ins := .aload_n 0) (len := 1) (i := 0) (by decide +kernel) rfl rfl rfl rfl rfl ?_
    obtain ⟨_, e115, h⟩ := xbnd h
    obtain ⟨R116, e114, h⟩ := xbnd h
    refine xs_cw (i := 505) (j := 385) (ar := []) (rest := [xI (a2), xI (a1), xR_ (v112)]) (r2 := xr_385) (by decide +kernel) (by decide +kernel) (by decide +kernel) xr_385_e rfl (by simp only [List.map_cons, List.map_nil, List.sum_cons, List.sum_nil, xR_cat, xI_cat, xZ_cat]; decide) e115 ?_
    refine xc_i (k385 (d := d + 0)   e114) rfl (fun hi117 => ?_)
    obtain ⟨R119, e118, h⟩ := xbnd h
    refine xs_cs (kd := 2) (by decide) (i := 637) (j := 395) (ar := [xI (R116.1), xI (a2), xI (a1), xR_ (v112)]) (rest := []) (r2 := xr_395) (by decide +kernel) (by decide +kernel) (by decide +kernel) xr_395_e rfl (by decide) ?_
    refine xc_i (k395 (d := d + 0)  ha1 ha2 hi117 e118) rfl (fun hi120 => ?_)
    refine xe_goto (off := 16) (nx := 36) (by decide +kernel) (by decide) ?_
    cases h
    exact xe_ret_i (ty := .int) (by decide +kernel) rfl rfl ⟨rfl, rfl, hi120⟩
-- ChangeHouseModel.bindsAll
def xr_277 : xj_mR := (15, yX15_bindsAll, cX15_bindsAll, 4, (Option.some Jvm.ClassFile.FieldType.boolean), 0, false, (9, 179), (1, 12))
set_option maxRecDepth 20000 in
theorem xr_277_e : xj_row 277 = some xr_277 := rfl
def f277_161  (r2 : Nat → Int → xj_M → Option (Int × xj_M)) (r17 : Nat → Int → Int → xj_M → Option (Int × xj_M)) (f : Nat) (x0 : Nat) (x1 : Int) (x2 : Int) (M : xj_M) : Option (Int × xj_M) := r17 (x0) (x1) (xwr ((x2) + (1))) M
theorem k277_161 {d f : Nat}  {r2 : Nat → Int → xj_M → Option (Int × xj_M)} {r17 : Nat → Int → Int → xj_M → Option (Int × xj_M)}  (hr2 : ∀ {x0 : Nat} {x1 : Int} {M : xj_M} {R : Int × xj_M}, xin x1 → r2 x0 x1 M = some R → xW (d + 4) (none, d + 4, none) xr_277 (2, [(0, xR_ x0), (1, xI x1)], [], M) (xQi R)) (hr17 : ∀ {x0 : Nat} {x1 : Int} {x2 : Int} {M : xj_M} {R : Int × xj_M}, xin x1 → xin x2 → r17 x0 x1 x2 M = some R → xW (d + 4) (none, d + 4, none) xr_277 (17, [(0, xR_ x0), (1, xI x1), (2, xI x2)], [], M) (xQi R)) {x0 : Nat} {x1 : Int} {x2 : Int} {M : xj_M} {R : Int × xj_M} (hx1 : xin x1) (hx2 : xin x2) (h : f277_161  r2 r17 f x0 x1 x2 M = some R) : xW (d + 4) (none, d + 4, none) xr_277 (161, [(0, xR_ x0), (1, xI x1), (2, xI x2)], [], M) (xQi R) := by
  unfold f277_161 at h
  refine xe_iincr (i := 2) (n := 1) (by decide +kernel) (by decide) rfl (xk_k (show ¬ (0 : Nat) = 2 by decide) (Or.inl (show ¬ (0 + 1 : Nat) = 2 by decide)) (xk_k (show ¬ (1 : Nat) = 2 by decide) (Or.inr (xI_cat _)) (xk_d rfl xk_n))) rfl ?_
  refine xe_goto (off := -147) (nx := 17) (by decide +kernel) (by decide) ?_
  refine xW_lv rfl (l := [(0, xR_ (x0)), (1, xI (x1)), (2, xI (xwr ((x2) + (1))))]) (xsb_of ⟨rfl, rfl, rfl, trivial⟩ (show [2, 0, 1].Nodup by decide)) ?_
  exact hr17 hx1 (xin_wr _) h
def f277_159   (f : Nat)  (M : xj_M) : Option (Int × xj_M) := (some (0, M))
theorem k277_159 {d f : Nat}      {M : xj_M} {R : Int × xj_M}  (h : f277_159   f  M = some R) : xW (d + 4) (none, d + 4, none) xr_277 (159, [], [], M) (xQi R) := by
  unfold f277_159 at h
  refine xe_iconst (n := 0) (by decide +kernel) rfl ?_
  cases h
  exact xe_ret_i (ty := .boolean) (by decide +kernel) rfl (by decide) ⟨rfl, rfl, (show xin (0) by decide)⟩
def f277_17b  (r2 : Nat → Int → xj_M → Option (Int × xj_M)) (r17 : Nat → Int → Int → xj_M → Option (Int × xj_M)) (f : Nat) (x0 : Nat) (x1 : Int) (x2 : Int) (M : xj_M) : Option (Int × xj_M) := ((xq_gr 15 29 (x0) M).bind fun v101 => ((xq_gr 14 21 (v101) M).bind fun v103 => ((xq_gi 15 39 (x0) M).bind fun v105 => ((xq_ai 3 (v103) (v105) M).bind fun v107 => (if (v107) ≤ (x2) then r2 (x0) (x1) M else ((xq_gi 15 39 (x0) M).bind fun v110 => ((xq_gr 15 29 (x0) M).bind fun v112 => ((xq_gr 14 27 (v112) M).bind fun v114 => ((xq_ai 3 (v114) (xwr ((xwr ((v110) * (8))) + (x2))) M).bind fun v116 => (if ¬ (v116) = (3) then f277_161  r2 r17 f (x0) (x1) (x2) M else ((xq_gr 15 29 (x0) M).bind fun v119 => ((xq_gr 14 28 (v119) M).bind fun v121 => ((xq_ai 3 (v121) (xwr ((xwr ((v110) * (8))) + (x2))) M).bind fun v123 => (if (v123) = (61) then ((xq_gr 15 29 (x0) M).bind fun v126 => ((xq_gr 14 30 (v126) M).bind fun v128 => ((xq_ai 3 (v128) (xwr ((xwr ((v110) * (8))) + (x2))) M).bind fun v130 => ((xq_gr 15 29 (x0) M).bind fun v132 => ((xq_gr 14 31 (v132) M).bind fun v134 => ((xq_ai 3 (v134) (xwr ((xwr ((v110) * (8))) + (x2))) M).bind fun v136 => ((xq_gr 15 29 (x0) M).bind fun v138 => ((xq_gr 14 31 (v138) M).bind fun v140 => ((xq_ai 3 (v140) (xwr ((xwr ((v110) * (8))) + (x2))) M).bind fun v142 => ((xq_gr 15 29 (x0) M).bind fun v144 => ((xq_gr 14 32 (v144) M).bind fun v146 => ((xq_ai 3 (v146) (xwr ((xwr ((v110) * (8))) + (x2))) M).bind fun v148 => ((xq_is 15 (x0) M).bind fun _ => ((f278  f (x0) (v130) (v136) (v142) (v148) M).bind fun R152 => (if (R152.1) = 0 then f277_159   f  R152.2 else ((xq_gr 15 29 (x0) R152.2).bind fun v155 => ((xq_gr 14 31 (v155) R152.2).bind fun v157 => ((xq_ai 3 (v157) (xwr ((xwr ((v110) * (8))) + (x2))) R152.2).bind fun v159 => ((xq_gr 15 29 (x0) R152.2).bind fun v161 => ((xq_gr 14 32 (v161) R152.2).bind fun v163 => ((xq_ai 3 (v163) (xwr ((xwr ((v110) * (8))) + (x2))) R152.2).bind fun v165 => ((xq_gr 15 29 (x0) R152.2).bind fun v167 => ((xq_gr 14 30 (v167) R152.2).bind fun v169 => ((xq_ai 3 (v169) (xwr ((xwr ((v110) * (8))) + (x2))) R152.2).bind fun v171 => ((xq_gr 15 29 (x0) R152.2).bind fun v173 => ((xq_gr 14 31 (v173) R152.2).bind fun v175 => ((xq_ai 3 (v175) (xwr ((xwr ((v110) * (8))) + (x2))) R152.2).bind fun v177 => ((xq_is 15 (x0) R152.2).bind fun _ => ((f278  f (x0) (v159) (v165) (v171) (v177) R152.2).bind fun R181 => (if ¬ (R181.1) = 0 then f277_161  r2 r17 f (x0) (x1) (x2) R181.2 else f277_159   f  R181.2)))))))))))))))))))))))))))))) else f277_161  r2 r17 f (x0) (x1) (x2) M))))))))))))))
theorem k277_17b {d f : Nat}  {r2 : Nat → Int → xj_M → Option (Int × xj_M)} {r17 : Nat → Int → Int → xj_M → Option (Int × xj_M)}  (hr2 : ∀ {x0 : Nat} {x1 : Int} {M : xj_M} {R : Int × xj_M}, xin x1 → r2 x0 x1 M = some R → xW (d + 4) (none, d + 4, none) xr_277 (2, [(0, xR_ x0), (1, xI x1)], [], M) (xQi R)) (hr17 : ∀ {x0 : Nat} {x1 : Int} {x2 : Int} {M : xj_M} {R : Int × xj_M}, xin x1 → xin x2 → r17 x0 x1 x2 M = some R → xW (d + 4) (none, d + 4, none) xr_277 (17, [(0, xR_ x0), (1, xI x1), (2, xI x2)], [], M) (xQi R)) {x0 : Nat} {x1 : Int} {x2 : Int} {M : xj_M} {R : Int × xj_M} (hx1 : xin x1) (hx2 : xin x2) (h : f277_17b  r2 r17 f x0 x1 x2 M = some R) : xW (d + 4) (none, d + 4, none) xr_277 (17, [(0, xR_ x0), (1, xI x1), (2, xI x2)], [], M) (xQi R) := by
  unfold f277_17b at h
  refine xe_ldn (ins := .iload_n 2) (len := 1) (by decide +kernel) rfl rfl rfl rfl ?_
  refine xe_alr (ins := .aload_n 0) (len := 1) (i := 0) (by decide +kernel) rfl rfl rfl rfl rfl ?_
  obtain ⟨v101, e102, h⟩ := xbnd h
  refine xs_gr (i := 439) (c := 15) (k := 29) (by decide +kernel) (by decide) (by decide +kernel) e102 rfl ?_
  obtain ⟨v103, e104, h⟩ := xbnd h
  refine xs_gr (i := 268) (c := 14) (k := 21) (by decide +kernel) (by decide) (by decide +kernel) e104 rfl ?_
  refine xe_alr (ins := .aload_n 0) (len := 1) (i := 0) (by decide +kernel) rfl rfl rfl rfl rfl ?_
  obtain ⟨v105, e106, h⟩ := xbnd h
  refine xs_gi (i := 501) (c := 15) (k := 39) (by decide +kernel) (by decide) (by decide +kernel) e106 rfl ?_
  obtain ⟨v107, e108, h⟩ := xbnd h
  refine xs_iald rfl (by decide +kernel) (xq_gi_in e106) e108 rfl ?_
  refine xe_icmpge (off := 137) (t := 167) (by decide +kernel) (by decide) rfl hx2 (xq_ai_in e108) (fun c109 => ?_) (fun c109 => ?_)
  · rw [if_pos c109] at h
    refine xe_goto (off := -165) (nx := 2) (by decide +kernel) (by decide) ?_
    refine xW_lv rfl (l := [(0, xR_ (x0)), (1, xI (x1))]) (xsb_of ⟨rfl, rfl, trivial⟩ (show [0, 1, 2].Nodup by decide)) ?_
    exact hr2 hx1 h
  · rw [if_neg c109] at h
    refine xe_alr (ins := .aload_n 0) (len := 1) (i := 0) (by decide +kernel) rfl rfl rfl rfl rfl ?_
    obtain ⟨v110, e111, h⟩ := xbnd h
    refine xs_gi (i := 501) (c := 15) (k := 39) (by decide +kernel) (by decide) (by decide +kernel) e111 rfl ?_
    refine xe_bipush (n := 8) (by decide +kernel) (by decide) rfl ?_
    refine xe_imul (by decide +kernel) rfl ?_
    refine xe_ldn (ins := .iload_n 2) (len := 1) (by decide +kernel) rfl rfl rfl rfl ?_
    refine xe_iadd (by decide +kernel) rfl ?_
    refine xe_isr (ins := .istore_n 3) (len := 1) (i := 3) (by decide +kernel) rfl rfl rfl (by decide) (xk_k (show ¬ (0 : Nat) = 3 by decide) (Or.inl (show ¬ (0 + 1 : Nat) = 3 by decide)) (xk_k (show ¬ (1 : Nat) = 3 by decide) (Or.inl (show ¬ (1 + 1 : Nat) = 3 by decide)) (xk_k (show ¬ (2 : Nat) = 3 by decide) (Or.inr (xI_cat _)) xk_n))) rfl ?_
    refine xe_alr (ins := .aload_n 0) (len := 1) (i := 0) (by decide +kernel) rfl rfl rfl rfl rfl ?_
    obtain ⟨v112, e113, h⟩ := xbnd h
    refine xs_gr (i := 439) (c := 15) (k := 29) (by decide +kernel) (by decide) (by decide +kernel) e113 rfl ?_
    obtain ⟨v114, e115, h⟩ := xbnd h
    refine xs_gr (i := 357) (c := 14) (k := 27) (by decide +kernel) (by decide) (by decide +kernel) e115 rfl ?_
    refine xe_ldn (ins := .iload_n 3) (len := 1) (by decide +kernel) rfl rfl rfl rfl ?_
    obtain ⟨v116, e117, h⟩ := xbnd h
    refine xs_iald rfl (by decide +kernel) (xin_wr _) e117 rfl ?_
    refine xe_iconst (n := 3) (by decide +kernel) rfl ?_
    refine xe_icmpne (off := 108) (t := 161) (by decide +kernel) (by decide) rfl (xq_ai_in e117) (show xin (3) by decide) (fun c118 => ?_) (fun c118 => ?_)
    · rw [if_pos c118] at h
      refine xW_lv rfl (l := [(0, xR_ (x0)), (1, xI (x1)), (2, xI (x2))]) (xsb_of ⟨rfl, rfl, rfl, trivial⟩ (show [3, 0, 1, 2].Nodup by decide)) ?_
      exact k277_161  hr2 hr17 hx1 hx2 h
    · rw [if_neg c118] at h
      refine xe_alr (ins := .aload_n 0) (len := 1) (i := 0) (by decide +kernel) rfl rfl rfl rfl rfl ?_
      obtain ⟨v119, e120, h⟩ := xbnd h
      refine xs_gr (i := 439) (c := 15) (k := 29) (by decide +kernel) (by decide) (by decide +kernel) e120 rfl ?_
      obtain ⟨v121, e122, h⟩ := xbnd h
      refine xs_gr (i := 363) (c := 14) (k := 28) (by decide +kernel) (by decide) (by decide +kernel) e122 rfl ?_
      refine xe_ldn (ins := .iload_n 3) (len := 1) (by decide +kernel) rfl rfl rfl rfl ?_
      obtain ⟨v123, e124, h⟩ := xbnd h
      refine xs_iald rfl (by decide +kernel) (xin_wr _) e124 rfl ?_
      refine xe_bipush (n := 61) (by decide +kernel) (by decide) rfl ?_
      refine xe_icmpeq (off := 6) (t := 73) (by decide +kernel) (by decide) rfl (xq_ai_in e124) (show xin (61) by decide) (fun c125 => ?_) (fun c125 => ?_)
      · rw [if_pos c125] at h
        refine xe_alr (ins := .aload_n 0) (len := 1) (i := 0) (by decide +kernel) rfl rfl rfl rfl rfl ?_
        refine xe_alr (ins := .aload_n 0) (len := 1) (i := 0) (by decide +kernel) rfl rfl rfl rfl rfl ?_
        obtain ⟨v126, e127, h⟩ := xbnd h
        refine xs_gr (i := 439) (c := 15) (k := 29) (by decide +kernel) (by decide) (by decide +kernel) e127 rfl ?_
        obtain ⟨v128, e129, h⟩ := xbnd h
        refine xs_gr (i := 351) (c := 14) (k := 30) (by decide +kernel) (by decide) (by decide +kernel) e129 rfl ?_
        refine xe_ldn (ins := .iload_n 3) (len := 1) (by decide +kernel) rfl rfl rfl rfl ?_
        obtain ⟨v130, e131, h⟩ := xbnd h
        refine xs_iald rfl (by decide +kernel) (xin_wr _) e131 rfl ?_
        refine xe_alr (ins := .aload_n 0) (len := 1) (i := 0) (by decide +kernel) rfl rfl rfl rfl rfl ?_
        obtain ⟨v132, e133, h⟩ := xbnd h
        refine xs_gr (i := 439) (c := 15) (k := 29) (by decide +kernel) (by decide) (by decide +kernel) e133 rfl ?_
        obtain ⟨v134, e135, h⟩ := xbnd h
        refine xs_gr (i := 360) (c := 14) (k := 31) (by decide +kernel) (by decide) (by decide +kernel) e135 rfl ?_
        refine xe_ldn (ins := .iload_n 3) (len := 1) (by decide +kernel) rfl rfl rfl rfl ?_
        obtain ⟨v136, e137, h⟩ := xbnd h
        refine xs_iald rfl (by decide +kernel) (xin_wr _) e137 rfl ?_
        refine xe_alr (ins := .aload_n 0) (len := 1) (i := 0) (by decide +kernel) rfl rfl rfl rfl rfl ?_
        obtain ⟨v138, e139, h⟩ := xbnd h
        refine xs_gr (i := 439) (c := 15) (k := 29) (by decide +kernel) (by decide) (by decide +kernel) e139 rfl ?_
        obtain ⟨v140, e141, h⟩ := xbnd h
        refine xs_gr (i := 360) (c := 14) (k := 31) (by decide +kernel) (by decide) (by decide +kernel) e141 rfl ?_
        refine xe_ldn (ins := .iload_n 3) (len := 1) (by decide +kernel) rfl rfl rfl rfl ?_
        obtain ⟨v142, e143, h⟩ := xbnd h
        refine xs_iald rfl (by decide +kernel) (xin_wr _) e143 rfl ?_
        refine xe_alr (ins := .aload_n 0) (len := 1) (i := 0) (by decide +kernel) rfl rfl rfl rfl rfl ?_
        obtain ⟨v144, e145, h⟩ := xbnd h
        refine xs_gr (i := 439) (c := 15) (k := 29) (by decide +kernel) (by decide) (by decide +kernel) e145 rfl ?_
        obtain ⟨v146, e147, h⟩ := xbnd h
        refine xs_gr (i := 366) (c := 14) (k := 32) (by decide +kernel) (by decide) (by decide +kernel) e147 rfl ?_
        refine xe_ldn (ins := .iload_n 3) (len := 1) (by decide +kernel) rfl rfl rfl rfl ?_
        obtain ⟨v148, e149, h⟩ := xbnd h
        refine xs_iald rfl (by decide +kernel) (xin_wr _) e149 rfl ?_
        obtain ⟨_, e151, h⟩ := xbnd h
        obtain ⟨R152, e150, h⟩ := xbnd h
        refine xs_cv (i := 526) (j := 278) (ar := [xI (v148), xI (v142), xI (v136), xI (v130)]) (rest := []) (r2 := xr_278) (by decide +kernel) (by decide +kernel) (by decide +kernel) xr_278_e rfl (by decide) (by decide) e151 ?_
        refine xc_i (k278 (d := d + 0)  (xq_ai_in e131) (xq_ai_in e137) (xq_ai_in e143) (xq_ai_in e149) e150) rfl (fun hi153 => ?_)
        refine xe_ifeq (off := 46) (t := 159) (by decide +kernel) (by decide) rfl hi153 (fun c154 => ?_) (fun c154 => ?_)
        · rw [if_pos c154] at h
          refine xW_lv rfl (l := []) (xsb_of trivial (show [3, 0, 1, 2].Nodup by decide)) ?_
          exact k277_159    h
        · rw [if_neg c154] at h
          refine xe_alr (ins := .aload_n 0) (len := 1) (i := 0) (by decide +kernel) rfl rfl rfl rfl rfl ?_
          refine xe_alr (ins := .aload_n 0) (len := 1) (i := 0) (by decide +kernel) rfl rfl rfl rfl rfl ?_
          obtain ⟨v155, e156, h⟩ := xbnd h
          refine xs_gr (i := 439) (c := 15) (k := 29) (by decide +kernel) (by decide) (by decide +kernel) e156 rfl ?_
          obtain ⟨v157, e158, h⟩ := xbnd h
          refine xs_gr (i := 360) (c := 14) (k := 31) (by decide +kernel) (by decide) (by decide +kernel) e158 rfl ?_
          refine xe_ldn (ins := .iload_n 3) (len := 1) (by decide +kernel) rfl rfl rfl rfl ?_
          obtain ⟨v159, e160, h⟩ := xbnd h
          refine xs_iald rfl (by decide +kernel) (xin_wr _) e160 rfl ?_
          refine xe_alr (ins := .aload_n 0) (len := 1) (i := 0) (by decide +kernel) rfl rfl rfl rfl rfl ?_
          obtain ⟨v161, e162, h⟩ := xbnd h
          refine xs_gr (i := 439) (c := 15) (k := 29) (by decide +kernel) (by decide) (by decide +kernel) e162 rfl ?_
          obtain ⟨v163, e164, h⟩ := xbnd h
          refine xs_gr (i := 366) (c := 14) (k := 32) (by decide +kernel) (by decide) (by decide +kernel) e164 rfl ?_
          refine xe_ldn (ins := .iload_n 3) (len := 1) (by decide +kernel) rfl rfl rfl rfl ?_
          obtain ⟨v165, e166, h⟩ := xbnd h
          refine xs_iald rfl (by decide +kernel) (xin_wr _) e166 rfl ?_
          refine xe_alr (ins := .aload_n 0) (len := 1) (i := 0) (by decide +kernel) rfl rfl rfl rfl rfl ?_
          obtain ⟨v167, e168, h⟩ := xbnd h
          refine xs_gr (i := 439) (c := 15) (k := 29) (by decide +kernel) (by decide) (by decide +kernel) e168 rfl ?_
          obtain ⟨v169, e170, h⟩ := xbnd h
          refine xs_gr (i := 351) (c := 14) (k := 30) (by decide +kernel) (by decide) (by decide +kernel) e170 rfl ?_
          refine xe_ldn (ins := .iload_n 3) (len := 1) (by decide +kernel) rfl rfl rfl rfl ?_
          obtain ⟨v171, e172, h⟩ := xbnd h
          refine xs_iald rfl (by decide +kernel) (xin_wr _) e172 rfl ?_
          refine xe_alr (ins := .aload_n 0) (len := 1) (i := 0) (by decide +kernel) rfl rfl rfl rfl rfl ?_
          obtain ⟨v173, e174, h⟩ := xbnd h
          refine xs_gr (i := 439) (c := 15) (k := 29) (by decide +kernel) (by decide) (by decide +kernel) e174 rfl ?_
          obtain ⟨v175, e176, h⟩ := xbnd h
          refine xs_gr (i := 360) (c := 14) (k := 31) (by decide +kernel) (by decide) (by decide +kernel) e176 rfl ?_
          refine xe_ldn (ins := .iload_n 3) (len := 1) (by decide +kernel) rfl rfl rfl rfl ?_
          obtain ⟨v177, e178, h⟩ := xbnd h
          refine xs_iald rfl (by decide +kernel) (xin_wr _) e178 rfl ?_
          obtain ⟨_, e180, h⟩ := xbnd h
          obtain ⟨R181, e179, h⟩ := xbnd h
          refine xs_cv (i := 526) (j := 278) (ar := [xI (v177), xI (v171), xI (v165), xI (v159)]) (rest := []) (r2 := xr_278) (by decide +kernel) (by decide +kernel) (by decide +kernel) xr_278_e rfl (by decide) (by decide) e180 ?_
          refine xc_i (k278 (d := d + 0)  (xq_ai_in e160) (xq_ai_in e166) (xq_ai_in e172) (xq_ai_in e178) e179) rfl (fun hi182 => ?_)
          refine xe_ifne (off := 5) (t := 161) (by decide +kernel) (by decide) rfl hi182 (fun c183 => ?_) (fun c183 => ?_)
          · rw [if_pos c183] at h
            refine xW_lv rfl (l := [(0, xR_ (x0)), (1, xI (x1)), (2, xI (x2))]) (xsb_of ⟨rfl, rfl, rfl, trivial⟩ (show [3, 0, 1, 2].Nodup by decide)) ?_
            exact k277_161  hr2 hr17 hx1 hx2 h
          · rw [if_neg c183] at h
            refine xW_lv rfl (l := []) (xsb_of trivial (show [3, 0, 1, 2].Nodup by decide)) ?_
            exact k277_159    h
      · rw [if_neg c125] at h
        refine xe_goto (off := 91) (nx := 161) (by decide +kernel) (by decide) ?_
        refine xW_lv rfl (l := [(0, xR_ (x0)), (1, xI (x1)), (2, xI (x2))]) (xsb_of ⟨rfl, rfl, rfl, trivial⟩ (show [3, 0, 1, 2].Nodup by decide)) ?_
        exact k277_161  hr2 hr17 hx1 hx2 h
def f277_17  (r2 : Nat → Int → xj_M → Option (Int × xj_M)) (f : Nat) : Nat → Nat → Int → Int → xj_M → Option (Int × xj_M)
  | 0, _, _, _, _ => none
  | n + 1, x0, x1, x2, M => f277_17b  r2 (f277_17  r2 f n) f x0 x1 x2 M
theorem k277_17 {d f : Nat}  {r2 : Nat → Int → xj_M → Option (Int × xj_M)}  (hr2 : ∀ {x0 : Nat} {x1 : Int} {M : xj_M} {R : Int × xj_M}, xin x1 → r2 x0 x1 M = some R → xW (d + 4) (none, d + 4, none) xr_277 (2, [(0, xR_ x0), (1, xI x1)], [], M) (xQi R)) : ∀ {n : Nat} {x0 : Nat} {x1 : Int} {x2 : Int} {M : xj_M} {R : Int × xj_M}, xin x1 → xin x2 → f277_17  r2 f n x0 x1 x2 M = some R → xW (d + 4) (none, d + 4, none) xr_277 (17, [(0, xR_ x0), (1, xI x1), (2, xI x2)], [], M) (xQi R) := by
  intro n
  induction n with
  | zero => intros; rename_i h; cases h
  | succ n ih => intros; rename_i h; exact k277_17b  hr2 ih (by assumption) (by assumption) h
def f277_2b  (r2 : Nat → Int → xj_M → Option (Int × xj_M)) (f : Nat) (x0 : Nat) (x1 : Int) (M : xj_M) : Option (Int × xj_M) := ((xq_gi 15 37 (x0) M).bind fun v184 => (if (x1) = (v184) then (some (1, M)) else ((xq_gi 15 37 (x0) M).bind fun v187 => f277_17  r2 f f (x0) (v187) (0) M)))
theorem k277_2b {d f : Nat}  {r2 : Nat → Int → xj_M → Option (Int × xj_M)}  (hr2 : ∀ {x0 : Nat} {x1 : Int} {M : xj_M} {R : Int × xj_M}, xin x1 → r2 x0 x1 M = some R → xW (d + 4) (none, d + 4, none) xr_277 (2, [(0, xR_ x0), (1, xI x1)], [], M) (xQi R)) {x0 : Nat} {x1 : Int} {M : xj_M} {R : Int × xj_M} (hx1 : xin x1) (h : f277_2b  r2 f x0 x1 M = some R) : xW (d + 4) (none, d + 4, none) xr_277 (2, [(0, xR_ x0), (1, xI x1)], [], M) (xQi R) := by
  unfold f277_2b at h
  refine xe_ldn (ins := .iload_n 1) (len := 1) (by decide +kernel) rfl rfl rfl rfl ?_
  refine xe_alr (ins := .aload_n 0) (len := 1) (i := 0) (by decide +kernel) rfl rfl rfl rfl rfl ?_
  obtain ⟨v184, e185, h⟩ := xbnd h
  refine xs_gi (i := 479) (c := 15) (k := 37) (by decide +kernel) (by decide) (by decide +kernel) e185 rfl ?_
  refine xe_icmpeq (off := 163) (t := 170) (by decide +kernel) (by decide) rfl hx1 (xq_gi_in e185) (fun c186 => ?_) (fun c186 => ?_)
  · rw [if_pos c186] at h
    refine xe_iconst (n := 1) (by decide +kernel) rfl ?_
    cases h
    exact xe_ret_i (ty := .boolean) (by decide +kernel) rfl (by decide) ⟨rfl, rfl, (show xin (1) by decide)⟩
  · rw [if_neg c186] at h
    refine xe_alr (ins := .aload_n 0) (len := 1) (i := 0) (by decide +kernel) rfl rfl rfl rfl rfl ?_
    obtain ⟨v187, e188, h⟩ := xbnd h
    refine xs_gi (i := 479) (c := 15) (k := 37) (by decide +kernel) (by decide) (by decide +kernel) e188 rfl ?_
    refine xe_isr (ins := .istore_n 1) (len := 1) (i := 1) (by decide +kernel) rfl rfl rfl (by decide) (xk_k (show ¬ (0 : Nat) = 1 by decide) (Or.inr (xR_cat _)) (xk_d rfl xk_n)) rfl ?_
    refine xe_iconst (n := 0) (by decide +kernel) rfl ?_
    refine xe_isr (ins := .istore_n 2) (len := 1) (i := 2) (by decide +kernel) rfl rfl rfl (by decide) (xk_k (show ¬ (1 : Nat) = 2 by decide) (Or.inr (xI_cat _)) (xk_k (show ¬ (0 : Nat) = 2 by decide) (Or.inl (show ¬ (0 + 1 : Nat) = 2 by decide)) xk_n)) rfl ?_
    refine xW_lv rfl (l := [(0, xR_ (x0)), (1, xI (v187)), (2, xI (0))]) (xsb_of ⟨rfl, rfl, rfl, trivial⟩ (show [2, 1, 0].Nodup by decide)) ?_
    exact k277_17  hr2 (xq_gi_in e188) (show xin (0) by decide) h
def f277_2   (f : Nat) : Nat → Nat → Int → xj_M → Option (Int × xj_M)
  | 0, _, _, _ => none
  | n + 1, x0, x1, M => f277_2b   (f277_2   f n) f x0 x1 M
theorem k277_2 {d f : Nat}     : ∀ {n : Nat} {x0 : Nat} {x1 : Int} {M : xj_M} {R : Int × xj_M}, xin x1 → f277_2   f n x0 x1 M = some R → xW (d + 4) (none, d + 4, none) xr_277 (2, [(0, xR_ x0), (1, xI x1)], [], M) (xQi R) := by
  intro n
  induction n with
  | zero => intros; rename_i h; cases h
  | succ n ih => intros; rename_i h; exact k277_2b   ih (by assumption) h
def f277  (f : Nat) (a0 : Nat) (M : xj_M) : Option (Int × xj_M) := f277_2   f f (a0) (-1) M
theorem k277 {d f : Nat}   {a0 : Nat} {M : xj_M} {R : Int × xj_M}  (h : f277  f a0 M = some R) : xT (d + 5) 277 [xR_ a0] M (xQi R) := by
  refine xT_m xr_277_e (X := (none, d + 4, none)) rfl (xa_1 (xR_cat _) xa_n) (by decide) ?_
  unfold f277 at h
  refine xe_iconst (n := -1) (by decide +kernel) rfl ?_
  refine xe_isr (ins := .istore_n 1) (len := 1) (i := 1) (by decide +kernel) rfl rfl rfl (by decide) (xk_k (show ¬ (0 : Nat) = 1 by decide) (Or.inr (xR_cat _)) xk_n) rfl ?_
  refine xW_lv rfl (l := [(0, xR_ (a0)), (1, xI (-1))]) (xsb_of ⟨rfl, rfl, trivial⟩ (show [1, 0].Nodup by decide)) ?_
  exact k277_2   (show xin (-1) by decide) h
