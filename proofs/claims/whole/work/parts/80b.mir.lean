/-! Mirrors (written by mk_mir.py) -/
-- ChangeHouse$Reader.passPart
def xr_61 : xj_mR := (4, yX4_passPart, cX4_passPart, 5, (Option.some Jvm.ClassFile.FieldType.boolean), 1, false, (5, 118), (1, 3))
set_option maxRecDepth 20000 in
theorem xr_61_e : xj_row 61 = some xr_61 := rfl
def f61_197   (f : Nat) (y0 : Int) (M : xj_M) : Option ((Nat ⊕ Int) × xj_M) := (if (y0) = 0 ∨ (y0) = 1 then some (.inr (y0), M) else none)
theorem k61_197 {d f : Nat}     {y0 : Int} {M : xj_M} {R : (Nat ⊕ Int) × xj_M} (hy0 : xin y0) (h : f61_197   f y0 M = some R) : xW (d + 6) (none, d + 6, none) xr_61 (197, [], [xI y0], M) (xQti R) := by
  unfold f61_197 at h
  by_cases c101 : (y0) = 0 ∨ (y0) = 1
  · rw [if_pos c101] at h; cases h; exact xe_ret_i (ty := .boolean) (by decide +kernel) rfl (xbool c101) ⟨rfl, rfl, fun v hv => by cases hv; exact hy0⟩
  · rw [if_neg c101] at h; cases h
def f61_187   (f : Nat) (x4 : Int) (M : xj_M) : Option ((Nat ⊕ Int) × xj_M) := (if ¬ (x4) = 0 then f61_197   f (0) M else f61_197   f (1) M)
theorem k61_187 {d f : Nat}     {x4 : Int} {M : xj_M} {R : (Nat ⊕ Int) × xj_M} (hx4 : xin x4) (h : f61_187   f x4 M = some R) : xW (d + 6) (none, d + 6, none) xr_61 (187, [(4, xI x4)], [], M) (xQti R) := by
  unfold f61_187 at h
  refine xe_ldn (ins := .iload 4) (len := 2) (by decide +kernel) rfl rfl rfl rfl ?_
  refine xe_ifne (off := 7) (t := 196) (by decide +kernel) (by decide) rfl hx4 (fun c102 => ?_) (fun c102 => ?_)
  · rw [if_pos c102] at h
    refine xe_iconst (n := 0) (by decide +kernel) rfl ?_
    refine xW_lv rfl (l := []) (xsb_of trivial (show [4].Nodup by decide)) ?_
    exact k61_197   (show xin (0) by decide) h
  · rw [if_neg c102] at h
    refine xe_iconst (n := 1) (by decide +kernel) rfl ?_
    refine xe_goto (off := 4) (nx := 197) (by decide +kernel) (by decide) ?_
    refine xW_lv rfl (l := []) (xsb_of trivial (show [4].Nodup by decide)) ?_
    exact k61_197   (show xin (1) by decide) h
def f61_160   (f : Nat) (x0 : Nat) (x2 : Int) (x3 : Int) (x4 : Int) (M : xj_M) : Option ((Nat ⊕ Int) × xj_M) := (if (x4) = 0 then ((xq_gr 4 10 (x0) M).bind fun v104 => ((xq_si (v104) (x2) (xwr ((x3) + (1))) M).bind fun M106 => f61_187   f (x4) M106)) else ((xq_gi 4 12 (x0) M).bind fun v108 => ((xq_pi 4 12 (x0) (xwr ((v108) - (1))) M).bind fun M110 => f61_187   f (x4) M110)))
theorem k61_160 {d f : Nat}     {x0 : Nat} {x2 : Int} {x3 : Int} {x4 : Int} {M : xj_M} {R : (Nat ⊕ Int) × xj_M} (hx2 : xin x2) (hx3 : xin x3) (hx4 : xin x4) (h : f61_160   f x0 x2 x3 x4 M = some R) : xW (d + 6) (none, d + 6, none) xr_61 (160, [(0, xR_ x0), (2, xI x2), (3, xI x3), (4, xI x4)], [], M) (xQti R) := by
  unfold f61_160 at h
  refine xe_ldn (ins := .iload 4) (len := 2) (by decide +kernel) rfl rfl rfl rfl ?_
  refine xe_ifeq (off := 16) (t := 178) (by decide +kernel) (by decide) rfl hx4 (fun c103 => ?_) (fun c103 => ?_)
  · rw [if_pos c103] at h
    refine xe_alr (ins := .aload_n 0) (len := 1) (i := 0) (by decide +kernel) rfl rfl rfl rfl rfl ?_
    obtain ⟨v104, e105, h⟩ := xbnd h
    refine xs_gr (i := 19) (c := 4) (k := 10) (by decide +kernel) (by decide) (by decide +kernel) e105 rfl ?_
    refine xe_ldn (ins := .iload_n 2) (len := 1) (by decide +kernel) rfl rfl rfl rfl ?_
    refine xe_ldn (ins := .iload_n 3) (len := 1) (by decide +kernel) rfl rfl rfl rfl ?_
    refine xe_iconst (n := 1) (by decide +kernel) rfl ?_
    refine xe_iadd (by decide +kernel) rfl ?_
    obtain ⟨M106, e107, h⟩ := xbnd h
    refine xs_iast (by decide +kernel) hx2 e107 rfl ?_
    refine xW_lv rfl (l := [(4, xI (x4))]) (xsb_of ⟨rfl, trivial⟩ (show [0, 2, 3, 4].Nodup by decide)) ?_
    exact k61_187   hx4 h
  · rw [if_neg c103] at h
    refine xe_alr (ins := .aload_n 0) (len := 1) (i := 0) (by decide +kernel) rfl rfl rfl rfl rfl ?_
    refine xe_dupr (by decide +kernel) rfl ?_
    obtain ⟨v108, e109, h⟩ := xbnd h
    refine xs_gi (i := 274) (c := 4) (k := 12) (by decide +kernel) (by decide) (by decide +kernel) e109 rfl ?_
    refine xe_iconst (n := 1) (by decide +kernel) rfl ?_
    refine xe_isub (by decide +kernel) rfl ?_
    obtain ⟨M110, e111, h⟩ := xbnd h
    refine xs_p (i := 274) (c := 4) (k := 12) (by decide +kernel) (by decide +kernel) (by decide +kernel) e111 rfl ?_
    refine xe_goto (off := 12) (nx := 187) (by decide +kernel) (by decide) ?_
    refine xW_lv rfl (l := [(4, xI (x4))]) (xsb_of ⟨rfl, trivial⟩ (show [0, 2, 3, 4].Nodup by decide)) ?_
    exact k61_187   hx4 h
def f61_71   (f : Nat) (x0 : Nat) (x2 : Int) (x3 : Int) (x4 : Int) (M : xj_M) : Option ((Nat ⊕ Int) × xj_M) := (if ¬ (x3) = (2) then (if ¬ (x3) = (3) then (if ¬ (x3) = (4) then f61_160   f (x0) (x2) (x3) (x4) M else ((xq_gr 4 8 (x0) M).bind fun v115 => ((xq_gr 4 11 (x0) M).bind fun v117 => ((xq_ai 3 (v117) (x2) M).bind fun v119 => ((xq_gi 4 9 (x0) M).bind fun v121 => ((xq_sl (v115) (v119) (v121) M).bind fun M123 => f61_160   f (x0) (x2) (x3) (x4) M123)))))) else ((xq_gr 4 8 (x0) M).bind fun v125 => ((xq_gr 4 11 (x0) M).bind fun v127 => ((xq_ai 3 (v127) (x2) M).bind fun v129 => ((xq_gi 4 9 (x0) M).bind fun v131 => ((xq_sl (v125) (v129) (xwr ((v131) + (1))) M).bind fun M133 => ((xq_gr 4 11 (x0) M133).bind fun v135 => ((xq_gi 4 9 (x0) M133).bind fun v137 => ((xq_si (v135) (x2) (v137) M133).bind fun M139 => ((xq_is 4 (x0) M139).bind fun _ => ((f56  f (x0) (15) (0) M139).bind fun M143 => f61_160   f (x0) (x2) (x3) (x4) M143))))))))))) else ((xq_gr 4 11 (x0) M).bind fun v145 => ((xq_gi 4 9 (x0) M).bind fun v147 => ((xq_si (v145) (x2) (v147) M).bind fun M149 => ((xq_is 4 (x0) M149).bind fun _ => ((f56  f (x0) (14) (0) M149).bind fun M153 => f61_160   f (x0) (x2) (x3) (x4) M153))))))
theorem k61_71 {d f : Nat}     {x0 : Nat} {x2 : Int} {x3 : Int} {x4 : Int} {M : xj_M} {R : (Nat ⊕ Int) × xj_M} (hx2 : xin x2) (hx3 : xin x3) (hx4 : xin x4) (h : f61_71   f x0 x2 x3 x4 M = some R) : xW (d + 6) (none, d + 6, none) xr_61 (71, [(0, xR_ x0), (2, xI x2), (3, xI x3), (4, xI x4)], [], M) (xQti R) := by
  unfold f61_71 at h
  refine xe_ldn (ins := .iload_n 3) (len := 1) (by decide +kernel) rfl rfl rfl rfl ?_
  refine xe_iconst (n := 2) (by decide +kernel) rfl ?_
  refine xe_icmpne (off := 23) (t := 96) (by decide +kernel) (by decide) rfl hx3 (show xin (2) by decide) (fun c112 => ?_) (fun c112 => ?_)
  · rw [if_pos c112] at h
    refine xe_ldn (ins := .iload_n 3) (len := 1) (by decide +kernel) rfl rfl rfl rfl ?_
    refine xe_iconst (n := 3) (by decide +kernel) rfl ?_
    refine xe_icmpne (off := 41) (t := 139) (by decide +kernel) (by decide) rfl hx3 (show xin (3) by decide) (fun c113 => ?_) (fun c113 => ?_)
    · rw [if_pos c113] at h
      refine xe_ldn (ins := .iload_n 3) (len := 1) (by decide +kernel) rfl rfl rfl rfl ?_
      refine xe_iconst (n := 4) (by decide +kernel) rfl ?_
      refine xe_icmpne (off := 19) (t := 160) (by decide +kernel) (by decide) rfl hx3 (show xin (4) by decide) (fun c114 => ?_) (fun c114 => ?_)
      · rw [if_pos c114] at h
        refine xW_lv rfl (l := [(0, xR_ (x0)), (2, xI (x2)), (3, xI (x3)), (4, xI (x4))]) (xsb_of ⟨rfl, rfl, rfl, rfl, trivial⟩ (show [0, 2, 3, 4].Nodup by decide)) ?_
        exact k61_160   hx2 hx3 hx4 h
      · rw [if_neg c114] at h
        refine xe_alr (ins := .aload_n 0) (len := 1) (i := 0) (by decide +kernel) rfl rfl rfl rfl rfl ?_
        obtain ⟨v115, e116, h⟩ := xbnd h
        refine xs_gr (i := 15) (c := 4) (k := 8) (by decide +kernel) (by decide) (by decide +kernel) e116 rfl ?_
        refine xe_alr (ins := .aload_n 0) (len := 1) (i := 0) (by decide +kernel) rfl rfl rfl rfl rfl ?_
        obtain ⟨v117, e118, h⟩ := xbnd h
        refine xs_gr (i := 22) (c := 4) (k := 11) (by decide +kernel) (by decide) (by decide +kernel) e118 rfl ?_
        refine xe_ldn (ins := .iload_n 2) (len := 1) (by decide +kernel) rfl rfl rfl rfl ?_
        obtain ⟨v119, e120, h⟩ := xbnd h
        refine xs_iald rfl (by decide +kernel) hx2 e120 rfl ?_
        refine xe_alr (ins := .aload_n 0) (len := 1) (i := 0) (by decide +kernel) rfl rfl rfl rfl rfl ?_
        obtain ⟨v121, e122, h⟩ := xbnd h
        refine xs_gi (i := 90) (c := 4) (k := 9) (by decide +kernel) (by decide) (by decide +kernel) e122 rfl ?_
        refine xe_i2l (by decide +kernel) rfl (xq_gi_in e122) ?_
        obtain ⟨M123, e124, h⟩ := xbnd h
        refine xs_last (by decide +kernel) (xq_ai_in e120) e124 rfl ?_
        refine xW_lv rfl (l := [(0, xR_ (x0)), (2, xI (x2)), (3, xI (x3)), (4, xI (x4))]) (xsb_of ⟨rfl, rfl, rfl, rfl, trivial⟩ (show [0, 2, 3, 4].Nodup by decide)) ?_
        exact k61_160   hx2 hx3 hx4 h
    · rw [if_neg c113] at h
      refine xe_alr (ins := .aload_n 0) (len := 1) (i := 0) (by decide +kernel) rfl rfl rfl rfl rfl ?_
      obtain ⟨v125, e126, h⟩ := xbnd h
      refine xs_gr (i := 15) (c := 4) (k := 8) (by decide +kernel) (by decide) (by decide +kernel) e126 rfl ?_
      refine xe_alr (ins := .aload_n 0) (len := 1) (i := 0) (by decide +kernel) rfl rfl rfl rfl rfl ?_
      obtain ⟨v127, e128, h⟩ := xbnd h
      refine xs_gr (i := 22) (c := 4) (k := 11) (by decide +kernel) (by decide) (by decide +kernel) e128 rfl ?_
      refine xe_ldn (ins := .iload_n 2) (len := 1) (by decide +kernel) rfl rfl rfl rfl ?_
      obtain ⟨v129, e130, h⟩ := xbnd h
      refine xs_iald rfl (by decide +kernel) hx2 e130 rfl ?_
      refine xe_alr (ins := .aload_n 0) (len := 1) (i := 0) (by decide +kernel) rfl rfl rfl rfl rfl ?_
      obtain ⟨v131, e132, h⟩ := xbnd h
      refine xs_gi (i := 90) (c := 4) (k := 9) (by decide +kernel) (by decide) (by decide +kernel) e132 rfl ?_
      refine xe_iconst (n := 1) (by decide +kernel) rfl ?_
      refine xe_iadd (by decide +kernel) rfl ?_
      refine xe_i2l (by decide +kernel) rfl (xin_wr _) ?_
      obtain ⟨M133, e134, h⟩ := xbnd h
      refine xs_last (by decide +kernel) (xq_ai_in e130) e134 rfl ?_
      refine xe_alr (ins := .aload_n 0) (len := 1) (i := 0) (by decide +kernel) rfl rfl rfl rfl rfl ?_
      obtain ⟨v135, e136, h⟩ := xbnd h
      refine xs_gr (i := 22) (c := 4) (k := 11) (by decide +kernel) (by decide) (by decide +kernel) e136 rfl ?_
      refine xe_ldn (ins := .iload_n 2) (len := 1) (by decide +kernel) rfl rfl rfl rfl ?_
      refine xe_alr (ins := .aload_n 0) (len := 1) (i := 0) (by decide +kernel) rfl rfl rfl rfl rfl ?_
      obtain ⟨v137, e138, h⟩ := xbnd h
      refine xs_gi (i := 90) (c := 4) (k := 9) (by decide +kernel) (by decide) (by decide +kernel) e138 rfl ?_
      obtain ⟨M139, e140, h⟩ := xbnd h
      refine xs_iast (by decide +kernel) hx2 e140 rfl ?_
      refine xe_alr (ins := .aload_n 0) (len := 1) (i := 0) (by decide +kernel) rfl rfl rfl rfl rfl ?_
      refine xe_bipush (n := 15) (by decide +kernel) (by decide) rfl ?_
      refine xe_lconst (n := 0) (z := 0) (by decide +kernel) rfl rfl ?_
      obtain ⟨_, e142, h⟩ := xbnd h
      obtain ⟨M143, e141, h⟩ := xbnd h
      refine xs_cv (i := 286) (j := 56) (ar := [xZ (0), xI (15)]) (rest := []) (r2 := xr_56) (by decide +kernel) (by decide +kernel) (by decide +kernel) xr_56_e rfl (by decide) (by decide) e142 ?_
      refine xc_v (k56 (d := d + 5)  (show xin (15) by decide) (show xiN (0) by decide) e141) rfl ?_
      refine xe_goto (off := 24) (nx := 160) (by decide +kernel) (by decide) ?_
      refine xW_lv rfl (l := [(0, xR_ (x0)), (2, xI (x2)), (3, xI (x3)), (4, xI (x4))]) (xsb_of ⟨rfl, rfl, rfl, rfl, trivial⟩ (show [0, 2, 3, 4].Nodup by decide)) ?_
      exact k61_160   hx2 hx3 hx4 h
  · rw [if_neg c112] at h
    refine xe_alr (ins := .aload_n 0) (len := 1) (i := 0) (by decide +kernel) rfl rfl rfl rfl rfl ?_
    obtain ⟨v145, e146, h⟩ := xbnd h
    refine xs_gr (i := 22) (c := 4) (k := 11) (by decide +kernel) (by decide) (by decide +kernel) e146 rfl ?_
    refine xe_ldn (ins := .iload_n 2) (len := 1) (by decide +kernel) rfl rfl rfl rfl ?_
    refine xe_alr (ins := .aload_n 0) (len := 1) (i := 0) (by decide +kernel) rfl rfl rfl rfl rfl ?_
    obtain ⟨v147, e148, h⟩ := xbnd h
    refine xs_gi (i := 90) (c := 4) (k := 9) (by decide +kernel) (by decide) (by decide +kernel) e148 rfl ?_
    obtain ⟨M149, e150, h⟩ := xbnd h
    refine xs_iast (by decide +kernel) hx2 e150 rfl ?_
    refine xe_alr (ins := .aload_n 0) (len := 1) (i := 0) (by decide +kernel) rfl rfl rfl rfl rfl ?_
    refine xe_bipush (n := 14) (by decide +kernel) (by decide) rfl ?_
    refine xe_lconst (n := 0) (z := 0) (by decide +kernel) rfl rfl ?_
    obtain ⟨_, e152, h⟩ := xbnd h
    obtain ⟨M153, e151, h⟩ := xbnd h
    refine xs_cv (i := 286) (j := 56) (ar := [xZ (0), xI (14)]) (rest := []) (r2 := xr_56) (by decide +kernel) (by decide +kernel) (by decide +kernel) xr_56_e rfl (by decide) (by decide) e152 ?_
    refine xc_v (k56 (d := d + 5)  (show xin (14) by decide) (show xiN (0) by decide) e151) rfl ?_
    refine xe_goto (off := 67) (nx := 160) (by decide +kernel) (by decide) ?_
    refine xW_lv rfl (l := [(0, xR_ (x0)), (2, xI (x2)), (3, xI (x3)), (4, xI (x4))]) (xsb_of ⟨rfl, rfl, rfl, rfl, trivial⟩ (show [0, 2, 3, 4].Nodup by decide)) ?_
    exact k61_160   hx2 hx3 hx4 h
def f61_52   (f : Nat) (x0 : Nat) (x2 : Int) (x3 : Int) (x4 : Int) (y0 : Int) (y1 : Int) (M : xj_M) : Option ((Nat ⊕ Int) × xj_M) := (if (y1) = (y0) then f61_71   f (x0) (x2) (x3) (x4) M else ((xq_gr 4 0 (x0) M).bind fun v156 => ((xq_gr 8 4 (v156) M).bind fun v158 => ((xq_gi 4 1 (x0) M).bind fun v160 => ((xq_ai 3 (v158) (v160) M).bind fun v162 => ((xq_is 4 (x0) M).bind fun _ => ((f36 f (x0) (v162) M).bind fun R166 => xth R166 (fun _ => f61_71   f (x0) (x2) (x3) (x4) R166.2))))))))
theorem k61_52 {d f : Nat}     {x0 : Nat} {x2 : Int} {x3 : Int} {x4 : Int} {y0 : Int} {y1 : Int} {M : xj_M} {R : (Nat ⊕ Int) × xj_M} (hx2 : xin x2) (hx3 : xin x3) (hx4 : xin x4) (hy0 : xin y0) (hy1 : xin y1) (h : f61_52   f x0 x2 x3 x4 y0 y1 M = some R) : xW (d + 6) (none, d + 6, none) xr_61 (52, [(0, xR_ x0), (2, xI x2), (3, xI x3), (4, xI x4)], [xI y0, xI y1], M) (xQti R) := by
  unfold f61_52 at h
  refine xe_icmpeq (off := 19) (t := 71) (by decide +kernel) (by decide) rfl hy1 hy0 (fun c155 => ?_) (fun c155 => ?_)
  · rw [if_pos c155] at h
    refine xW_lv rfl (l := [(0, xR_ (x0)), (2, xI (x2)), (3, xI (x3)), (4, xI (x4))]) (xsb_of ⟨rfl, rfl, rfl, rfl, trivial⟩ (show [0, 2, 3, 4].Nodup by decide)) ?_
    exact k61_71   hx2 hx3 hx4 h
  · rw [if_neg c155] at h
    refine xe_alr (ins := .aload_n 0) (len := 1) (i := 0) (by decide +kernel) rfl rfl rfl rfl rfl ?_
    refine xe_alr (ins := .aload_n 0) (len := 1) (i := 0) (by decide +kernel) rfl rfl rfl rfl rfl ?_
    obtain ⟨v156, e157, h⟩ := xbnd h
    refine xs_gr (i := 43) (c := 4) (k := 0) (by decide +kernel) (by decide) (by decide +kernel) e157 rfl ?_
    obtain ⟨v158, e159, h⟩ := xbnd h
    refine xs_gr (i := 80) (c := 8) (k := 4) (by decide +kernel) (by decide) (by decide +kernel) e159 rfl ?_
    refine xe_alr (ins := .aload_n 0) (len := 1) (i := 0) (by decide +kernel) rfl rfl rfl rfl rfl ?_
    obtain ⟨v160, e161, h⟩ := xbnd h
    refine xs_gi (i := 54) (c := 4) (k := 1) (by decide +kernel) (by decide) (by decide +kernel) e161 rfl ?_
    obtain ⟨v162, e163, h⟩ := xbnd h
    refine xs_iald rfl (by decide +kernel) (xq_gi_in e161) e163 rfl ?_
    obtain ⟨_, e165, h⟩ := xbnd h
    obtain ⟨R166, e164, h⟩ := xbnd h
    refine xs2_cv (kd := 0) (jj := 36) (by decide) (i := 83) (j := 36) (ar := [xI (v162)]) (rest := []) (r2 := xr_36) (by decide +kernel) (by decide +kernel) (by decide +kernel) xr_36_e rfl (by decide) (by decide) e165 ?_
    refine xct_v (k36 (d := d + 0) (xq_ai_in e163) e164) rfl (fun e1 g168 => ?_) (fun g168 => ?_)
    · rw [xth_l g168] at h; cases h; exact xK_thr rfl ⟨rfl, rfl, fun v hv => by cases hv⟩
    · rw [xth_r g168] at h
      refine xW_lv rfl (l := [(0, xR_ (x0)), (2, xI (x2)), (3, xI (x3)), (4, xI (x4))]) (xsb_of ⟨rfl, rfl, rfl, rfl, trivial⟩ (show [0, 2, 3, 4].Nodup by decide)) ?_
      exact k61_71   hx2 hx3 hx4 h
def f61_37   (f : Nat) (x0 : Nat) (x1 : Int) (x2 : Int) (x3 : Int) (y0 : Int) (M : xj_M) : Option ((Nat ⊕ Int) × xj_M) := (if (y0) = 0 then f61_52   f (x0) (x2) (x3) (y0) (44) (x1) M else f61_52   f (x0) (x2) (x3) (y0) (41) (x1) M)
theorem k61_37 {d f : Nat}     {x0 : Nat} {x1 : Int} {x2 : Int} {x3 : Int} {y0 : Int} {M : xj_M} {R : (Nat ⊕ Int) × xj_M} (hx1 : xin x1) (hx2 : xin x2) (hx3 : xin x3) (hy0 : xin y0) (h : f61_37   f x0 x1 x2 x3 y0 M = some R) : xW (d + 6) (none, d + 6, none) xr_61 (37, [(0, xR_ x0), (1, xI x1), (2, xI x2), (3, xI x3)], [xI y0], M) (xQti R) := by
  unfold f61_37 at h
  refine xe_isr (ins := .istore 4) (len := 2) (i := 4) (by decide +kernel) rfl rfl rfl (by decide) (xk_k (show ¬ (0 : Nat) = 4 by decide) (Or.inl (show ¬ (0 + 1 : Nat) = 4 by decide)) (xk_k (show ¬ (1 : Nat) = 4 by decide) (Or.inl (show ¬ (1 + 1 : Nat) = 4 by decide)) (xk_k (show ¬ (2 : Nat) = 4 by decide) (Or.inl (show ¬ (2 + 1 : Nat) = 4 by decide)) (xk_k (show ¬ (3 : Nat) = 4 by decide) (Or.inr (xI_cat _)) xk_n)))) rfl ?_
  refine xe_ldn (ins := .iload_n 1) (len := 1) (by decide +kernel) rfl rfl rfl rfl ?_
  refine xe_ldn (ins := .iload 4) (len := 2) (by decide +kernel) rfl rfl rfl rfl ?_
  refine xe_ifeq (off := 8) (t := 50) (by decide +kernel) (by decide) rfl hy0 (fun c170 => ?_) (fun c170 => ?_)
  · rw [if_pos c170] at h
    refine xe_bipush (n := 44) (by decide +kernel) (by decide) rfl ?_
    refine xW_lv rfl (l := [(0, xR_ (x0)), (2, xI (x2)), (3, xI (x3)), (4, xI (y0))]) (xsb_of ⟨rfl, rfl, rfl, rfl, trivial⟩ (show [4, 0, 1, 2, 3].Nodup by decide)) ?_
    exact k61_52   hx2 hx3 hy0 (show xin (44) by decide) hx1 h
  · rw [if_neg c170] at h
    refine xe_bipush (n := 41) (by decide +kernel) (by decide) rfl ?_
    refine xe_goto (off := 5) (nx := 52) (by decide +kernel) (by decide) ?_
    refine xW_lv rfl (l := [(0, xR_ (x0)), (2, xI (x2)), (3, xI (x3)), (4, xI (y0))]) (xsb_of ⟨rfl, rfl, rfl, rfl, trivial⟩ (show [4, 0, 1, 2, 3].Nodup by decide)) ?_
    exact k61_52   hx2 hx3 hy0 (show xin (41) by decide) hx1 h
def f61_32   (f : Nat) (x0 : Nat) (x1 : Int) (x2 : Int) (x3 : Int) (M : xj_M) : Option ((Nat ⊕ Int) × xj_M) := f61_37   f (x0) (x1) (x2) (x3) (1) M
theorem k61_32 {d f : Nat}     {x0 : Nat} {x1 : Int} {x2 : Int} {x3 : Int} {M : xj_M} {R : (Nat ⊕ Int) × xj_M} (hx1 : xin x1) (hx2 : xin x2) (hx3 : xin x3) (h : f61_32   f x0 x1 x2 x3 M = some R) : xW (d + 6) (none, d + 6, none) xr_61 (32, [(0, xR_ x0), (1, xI x1), (2, xI x2), (3, xI x3)], [], M) (xQti R) := by
  unfold f61_32 at h
  refine xe_iconst (n := 1) (by decide +kernel) rfl ?_
  refine xe_goto (off := 4) (nx := 37) (by decide +kernel) (by decide) ?_
  refine xW_lv rfl (l := [(0, xR_ (x0)), (1, xI (x1)), (2, xI (x2)), (3, xI (x3))]) (xsb_of ⟨rfl, rfl, rfl, rfl, trivial⟩ (show [0, 1, 2, 3].Nodup by decide)) ?_
  exact k61_37   hx1 hx2 hx3 (show xin (1) by decide) h
def f61_21   (f : Nat) (x0 : Nat) (x1 : Int) (x2 : Int) (y0 : Int) (M : xj_M) : Option ((Nat ⊕ Int) × xj_M) := (if (y0) = (1) then f61_32   f (x0) (x1) (x2) (y0) M else (if ¬ (y0) = (4) then f61_37   f (x0) (x1) (x2) (y0) (0) M else f61_32   f (x0) (x1) (x2) (y0) M))
theorem k61_21 {d f : Nat}     {x0 : Nat} {x1 : Int} {x2 : Int} {y0 : Int} {M : xj_M} {R : (Nat ⊕ Int) × xj_M} (hx1 : xin x1) (hx2 : xin x2) (hy0 : xin y0) (h : f61_21   f x0 x1 x2 y0 M = some R) : xW (d + 6) (none, d + 6, none) xr_61 (21, [(0, xR_ x0), (1, xI x1), (2, xI x2)], [xI y0], M) (xQti R) := by
  unfold f61_21 at h
  refine xe_isr (ins := .istore_n 3) (len := 1) (i := 3) (by decide +kernel) rfl rfl rfl (by decide) (xk_k (show ¬ (0 : Nat) = 3 by decide) (Or.inl (show ¬ (0 + 1 : Nat) = 3 by decide)) (xk_k (show ¬ (1 : Nat) = 3 by decide) (Or.inl (show ¬ (1 + 1 : Nat) = 3 by decide)) (xk_k (show ¬ (2 : Nat) = 3 by decide) (Or.inr (xI_cat _)) xk_n))) rfl ?_
  refine xe_ldn (ins := .iload_n 3) (len := 1) (by decide +kernel) rfl rfl rfl rfl ?_
  refine xe_iconst (n := 1) (by decide +kernel) rfl ?_
  refine xe_icmpeq (off := 8) (t := 32) (by decide +kernel) (by decide) rfl hy0 (show xin (1) by decide) (fun c171 => ?_) (fun c171 => ?_)
  · rw [if_pos c171] at h
    refine xW_lv rfl (l := [(0, xR_ (x0)), (1, xI (x1)), (2, xI (x2)), (3, xI (y0))]) (xsb_of ⟨rfl, rfl, rfl, rfl, trivial⟩ (show [3, 0, 1, 2].Nodup by decide)) ?_
    exact k61_32   hx1 hx2 hy0 h
  · rw [if_neg c171] at h
    refine xe_ldn (ins := .iload_n 3) (len := 1) (by decide +kernel) rfl rfl rfl rfl ?_
    refine xe_iconst (n := 4) (by decide +kernel) rfl ?_
    refine xe_icmpne (off := 7) (t := 36) (by decide +kernel) (by decide) rfl hy0 (show xin (4) by decide) (fun c172 => ?_) (fun c172 => ?_)
    · rw [if_pos c172] at h
      refine xe_iconst (n := 0) (by decide +kernel) rfl ?_
      refine xW_lv rfl (l := [(0, xR_ (x0)), (1, xI (x1)), (2, xI (x2)), (3, xI (y0))]) (xsb_of ⟨rfl, rfl, rfl, rfl, trivial⟩ (show [3, 0, 1, 2].Nodup by decide)) ?_
      exact k61_37   hx1 hx2 hy0 (show xin (0) by decide) h
    · rw [if_neg c172] at h
      refine xW_lv rfl (l := [(0, xR_ (x0)), (1, xI (x1)), (2, xI (x2)), (3, xI (y0))]) (xsb_of ⟨rfl, rfl, rfl, rfl, trivial⟩ (show [3, 0, 1, 2].Nodup by decide)) ?_
      exact k61_32   hx1 hx2 hy0 h
def f61  (f : Nat) (a0 : Nat) (a1 : Int) (M : xj_M) : Option ((Nat ⊕ Int) × xj_M) := ((xq_gi 4 12 (a0) M).bind fun v173 => (if (xwr ((v173) - (1))) < 0 then f61_21   f (a0) (a1) (xwr ((v173) - (1))) (0) M else ((xq_gr 4 10 (a0) M).bind fun v176 => ((xq_ai 3 (v176) (xwr ((v173) - (1))) M).bind fun v178 => f61_21   f (a0) (a1) (xwr ((v173) - (1))) (v178) M))))
theorem k61 {d f : Nat}   {a0 : Nat} {a1 : Int} {M : xj_M} {R : (Nat ⊕ Int) × xj_M} (ha1 : xin a1) (h : f61  f a0 a1 M = some R) : xT (d + 7) 61 [xR_ a0, xI a1] M (xQti R) := by
  refine xT_m xr_61_e (X := (none, d + 6, none)) rfl (xa_1 (xR_cat _) (xa_1 (xI_cat _) xa_n)) (by decide) ?_
  unfold f61 at h
  refine xe_alr (ins := .aload_n 0) (len := 1) (i := 0) (by decide +kernel) rfl rfl rfl rfl rfl ?_
  obtain ⟨v173, e174, h⟩ := xbnd h
  refine xs_gi (i := 274) (c := 4) (k := 12) (by decide +kernel) (by decide) (by decide +kernel) e174 rfl ?_
  refine xe_iconst (n := 1) (by decide +kernel) rfl ?_
  refine xe_isub (by decide +kernel) rfl ?_
  refine xe_isr (ins := .istore_n 2) (len := 1) (i := 2) (by decide +kernel) rfl rfl rfl (by decide) (xk_k (show ¬ (0 : Nat) = 2 by decide) (Or.inl (show ¬ (0 + 1 : Nat) = 2 by decide)) (xk_k (show ¬ (1 : Nat) = 2 by decide) (Or.inr (xI_cat _)) xk_n)) rfl ?_
  refine xe_ldn (ins := .iload_n 2) (len := 1) (by decide +kernel) rfl rfl rfl rfl ?_
  refine xe_iflt (off := 12) (t := 20) (by decide +kernel) (by decide) rfl (xin_wr _) (fun c175 => ?_) (fun c175 => ?_)
  · rw [if_pos c175] at h
    refine xe_iconst (n := 0) (by decide +kernel) rfl ?_
    refine xW_lv rfl (l := [(0, xR_ (a0)), (1, xI (a1)), (2, xI (xwr ((v173) - (1))))]) (xsb_of ⟨rfl, rfl, rfl, trivial⟩ (show [2, 0, 1].Nodup by decide)) ?_
    exact k61_21   ha1 (xin_wr _) (show xin (0) by decide) h
  · rw [if_neg c175] at h
    refine xe_alr (ins := .aload_n 0) (len := 1) (i := 0) (by decide +kernel) rfl rfl rfl rfl rfl ?_
    obtain ⟨v176, e177, h⟩ := xbnd h
    refine xs_gr (i := 19) (c := 4) (k := 10) (by decide +kernel) (by decide) (by decide +kernel) e177 rfl ?_
    refine xe_ldn (ins := .iload_n 2) (len := 1) (by decide +kernel) rfl rfl rfl rfl ?_
    obtain ⟨v178, e179, h⟩ := xbnd h
    refine xs_iald rfl (by decide +kernel) (xin_wr _) e179 rfl ?_
    refine xe_goto (off := 4) (nx := 21) (by decide +kernel) (by decide) ?_
    refine xW_lv rfl (l := [(0, xR_ (a0)), (1, xI (a1)), (2, xI (xwr ((v173) - (1))))]) (xsb_of ⟨rfl, rfl, rfl, trivial⟩ (show [2, 0, 1].Nodup by decide)) ?_
    exact k61_21   ha1 (xin_wr _) (xq_ai_in e179) h
-- ChangeHouse$Reader.changesFault
def xr_64 : xj_mR := (4, yX4_changesFault, cX4_changesFault, 3, (Option.some Jvm.ClassFile.FieldType.int), 0, false, (6, 11), (1, 3))
set_option maxRecDepth 20000 in
theorem xr_64_e : xj_row 64 = some xr_64 := rfl
def f64_44   (f : Nat)  (M : xj_M) : Option (Int × xj_M) := (some (2, M))
theorem k64_44 {d f : Nat}      {M : xj_M} {R : Int × xj_M}  (h : f64_44   f  M = some R) : xW (d + 0) (none, d + 0, none) xr_64 (44, [], [], M) (xQi R) := by
  unfold f64_44 at h
  refine xe_iconst (n := 2) (by decide +kernel) rfl ?_
  cases h
  exact xe_ret_i (ty := .int) (by decide +kernel) rfl rfl ⟨rfl, rfl, (show xin (2) by decide)⟩
def f64_2b  (r2 : Nat → Int → xj_M → Option (Int × xj_M)) (f : Nat) (x0 : Nat) (x1 : Int) (M : xj_M) : Option (Int × xj_M) := ((xq_gi 4 14 (x0) M).bind fun v101 => (if (v101) ≤ (x1) then (some (0, M)) else ((xq_gr 4 15 (x0) M).bind fun v104 => ((xq_ai 3 (v104) (x1) M).bind fun v106 => ((xq_gr 4 17 (x0) M).bind fun v108 => ((xq_ai 3 (v108) (x1) M).bind fun v110 => ((xq_pi 4 2 (x0) (v110) M).bind fun M112 => (if (v106) = (-1) then f64_44   f  M112 else ((xq_gr 4 3 (x0) M112).bind fun v115 => ((xq_gr 3 5 (v115) M112).bind fun v117 => ((xq_ab (v117) (v106) M112).bind fun v119 => (if ¬ (v119) = 0 then ((xq_gr 4 3 (x0) M112).bind fun v122 => ((xq_gr 3 3 (v122) M112).bind fun v124 => ((xq_ai 3 (v124) (v106) M112).bind fun v126 => ((xq_gr 4 18 (x0) M112).bind fun v128 => ((xq_ai 3 (v128) (x1) M112).bind fun v130 => (if (v126) = (v130) then r2 (x0) (xwr ((x1) + (1))) M112 else (some (3, M112)))))))) else f64_44   f  M112))))))))))))
theorem k64_2b {d f : Nat}  {r2 : Nat → Int → xj_M → Option (Int × xj_M)}  (hr2 : ∀ {x0 : Nat} {x1 : Int} {M : xj_M} {R : Int × xj_M}, xin x1 → r2 x0 x1 M = some R → xW (d + 0) (none, d + 0, none) xr_64 (2, [(0, xR_ x0), (1, xI x1)], [], M) (xQi R)) {x0 : Nat} {x1 : Int} {M : xj_M} {R : Int × xj_M} (hx1 : xin x1) (h : f64_2b  r2 f x0 x1 M = some R) : xW (d + 0) (none, d + 0, none) xr_64 (2, [(0, xR_ x0), (1, xI x1)], [], M) (xQi R) := by
  unfold f64_2b at h
  refine xe_ldn (ins := .iload_n 1) (len := 1) (by decide +kernel) rfl rfl rfl rfl ?_
  refine xe_alr (ins := .aload_n 0) (len := 1) (i := 0) (by decide +kernel) rfl rfl rfl rfl rfl ?_
  obtain ⟨v101, e102, h⟩ := xbnd h
  refine xs_gi (i := 155) (c := 4) (k := 14) (by decide +kernel) (by decide) (by decide +kernel) e102 rfl ?_
  refine xe_icmpge (off := 65) (t := 72) (by decide +kernel) (by decide) rfl hx1 (xq_gi_in e102) (fun c103 => ?_) (fun c103 => ?_)
  · rw [if_pos c103] at h
    refine xe_iconst (n := 0) (by decide +kernel) rfl ?_
    cases h
    exact xe_ret_i (ty := .int) (by decide +kernel) rfl rfl ⟨rfl, rfl, (show xin (0) by decide)⟩
  · rw [if_neg c103] at h
    refine xe_alr (ins := .aload_n 0) (len := 1) (i := 0) (by decide +kernel) rfl rfl rfl rfl rfl ?_
    obtain ⟨v104, e105, h⟩ := xbnd h
    refine xs_gr (i := 28) (c := 4) (k := 15) (by decide +kernel) (by decide) (by decide +kernel) e105 rfl ?_
    refine xe_ldn (ins := .iload_n 1) (len := 1) (by decide +kernel) rfl rfl rfl rfl ?_
    obtain ⟨v106, e107, h⟩ := xbnd h
    refine xs_iald rfl (by decide +kernel) hx1 e107 rfl ?_
    refine xe_isr (ins := .istore_n 2) (len := 1) (i := 2) (by decide +kernel) rfl rfl rfl (by decide) (xk_k (show ¬ (0 : Nat) = 2 by decide) (Or.inl (show ¬ (0 + 1 : Nat) = 2 by decide)) (xk_k (show ¬ (1 : Nat) = 2 by decide) (Or.inr (xI_cat _)) xk_n)) rfl ?_
    refine xe_alr (ins := .aload_n 0) (len := 1) (i := 0) (by decide +kernel) rfl rfl rfl rfl rfl ?_
    refine xe_alr (ins := .aload_n 0) (len := 1) (i := 0) (by decide +kernel) rfl rfl rfl rfl rfl ?_
    obtain ⟨v108, e109, h⟩ := xbnd h
    refine xs_gr (i := 34) (c := 4) (k := 17) (by decide +kernel) (by decide) (by decide +kernel) e109 rfl ?_
    refine xe_ldn (ins := .iload_n 1) (len := 1) (by decide +kernel) rfl rfl rfl rfl ?_
    obtain ⟨v110, e111, h⟩ := xbnd h
    refine xs_iald rfl (by decide +kernel) hx1 e111 rfl ?_
    obtain ⟨M112, e113, h⟩ := xbnd h
    refine xs_p (i := 159) (c := 4) (k := 2) (by decide +kernel) (by decide +kernel) (by decide +kernel) e113 rfl ?_
    refine xe_ldn (ins := .iload_n 2) (len := 1) (by decide +kernel) rfl rfl rfl rfl ?_
    refine xe_iconst (n := -1) (by decide +kernel) rfl ?_
    refine xe_icmpeq (off := 15) (t := 44) (by decide +kernel) (by decide) rfl (xq_ai_in e107) (show xin (-1) by decide) (fun c114 => ?_) (fun c114 => ?_)
    · rw [if_pos c114] at h
      refine xW_lv rfl (l := []) (xsb_of trivial (show [2, 0, 1].Nodup by decide)) ?_
      exact k64_44    h
    · rw [if_neg c114] at h
      refine xe_alr (ins := .aload_n 0) (len := 1) (i := 0) (by decide +kernel) rfl rfl rfl rfl rfl ?_
      obtain ⟨v115, e116, h⟩ := xbnd h
      refine xs_gr (i := 147) (c := 4) (k := 3) (by decide +kernel) (by decide) (by decide +kernel) e116 rfl ?_
      obtain ⟨v117, e118, h⟩ := xbnd h
      refine xs_gr (i := 169) (c := 3) (k := 5) (by decide +kernel) (by decide) (by decide +kernel) e118 rfl ?_
      refine xe_ldn (ins := .iload_n 2) (len := 1) (by decide +kernel) rfl rfl rfl rfl ?_
      obtain ⟨v119, e120, h⟩ := xbnd h
      refine xs_bald (by decide +kernel) (xq_ai_in e107) e120 rfl ?_
      refine xe_ifne (off := 5) (t := 46) (by decide +kernel) (by decide) rfl (xq_ab_in e120) (fun c121 => ?_) (fun c121 => ?_)
      · rw [if_pos c121] at h
        refine xe_alr (ins := .aload_n 0) (len := 1) (i := 0) (by decide +kernel) rfl rfl rfl rfl rfl ?_
        obtain ⟨v122, e123, h⟩ := xbnd h
        refine xs_gr (i := 147) (c := 4) (k := 3) (by decide +kernel) (by decide) (by decide +kernel) e123 rfl ?_
        obtain ⟨v124, e125, h⟩ := xbnd h
        refine xs_gr (i := 323) (c := 3) (k := 3) (by decide +kernel) (by decide) (by decide +kernel) e125 rfl ?_
        refine xe_ldn (ins := .iload_n 2) (len := 1) (by decide +kernel) rfl rfl rfl rfl ?_
        obtain ⟨v126, e127, h⟩ := xbnd h
        refine xs_iald rfl (by decide +kernel) (xq_ai_in e107) e127 rfl ?_
        refine xe_alr (ins := .aload_n 0) (len := 1) (i := 0) (by decide +kernel) rfl rfl rfl rfl rfl ?_
        obtain ⟨v128, e129, h⟩ := xbnd h
        refine xs_gr (i := 37) (c := 4) (k := 18) (by decide +kernel) (by decide) (by decide +kernel) e129 rfl ?_
        refine xe_ldn (ins := .iload_n 1) (len := 1) (by decide +kernel) rfl rfl rfl rfl ?_
        obtain ⟨v130, e131, h⟩ := xbnd h
        refine xs_iald rfl (by decide +kernel) hx1 e131 rfl ?_
        refine xe_icmpeq (off := 5) (t := 66) (by decide +kernel) (by decide) rfl (xq_ai_in e127) (xq_ai_in e131) (fun c132 => ?_) (fun c132 => ?_)
        · rw [if_pos c132] at h
          refine xe_iincr (i := 1) (n := 1) (by decide +kernel) (by decide) rfl (xk_k (show ¬ (2 : Nat) = 1 by decide) (Or.inl (show ¬ (2 + 1 : Nat) = 1 by decide)) (xk_k (show ¬ (0 : Nat) = 1 by decide) (Or.inr (xR_cat _)) (xk_d rfl xk_n))) rfl ?_
          refine xe_goto (off := -67) (nx := 2) (by decide +kernel) (by decide) ?_
          refine xW_lv rfl (l := [(0, xR_ (x0)), (1, xI (xwr ((x1) + (1))))]) (xsb_of ⟨rfl, rfl, trivial⟩ (show [1, 2, 0].Nodup by decide)) ?_
          exact hr2 (xin_wr _) h
        · rw [if_neg c132] at h
          refine xe_iconst (n := 3) (by decide +kernel) rfl ?_
          cases h
          exact xe_ret_i (ty := .int) (by decide +kernel) rfl rfl ⟨rfl, rfl, (show xin (3) by decide)⟩
      · rw [if_neg c121] at h
        refine xW_lv rfl (l := []) (xsb_of trivial (show [2, 0, 1].Nodup by decide)) ?_
        exact k64_44    h
def f64_2   (f : Nat) : Nat → Nat → Int → xj_M → Option (Int × xj_M)
  | 0, _, _, _ => none
  | n + 1, x0, x1, M => f64_2b   (f64_2   f n) f x0 x1 M
theorem k64_2 {d f : Nat}     : ∀ {n : Nat} {x0 : Nat} {x1 : Int} {M : xj_M} {R : Int × xj_M}, xin x1 → f64_2   f n x0 x1 M = some R → xW (d + 0) (none, d + 0, none) xr_64 (2, [(0, xR_ x0), (1, xI x1)], [], M) (xQi R) := by
  intro n
  induction n with
  | zero => intros; rename_i h; cases h
  | succ n ih => intros; rename_i h; exact k64_2b   ih (by assumption) h
def f64  (f : Nat) (a0 : Nat) (M : xj_M) : Option (Int × xj_M) := f64_2   f f (a0) (0) M
theorem k64 {d f : Nat}   {a0 : Nat} {M : xj_M} {R : Int × xj_M}  (h : f64  f a0 M = some R) : xT (d + 1) 64 [xR_ a0] M (xQi R) := by
  refine xT_m xr_64_e (X := (none, d + 0, none)) rfl (xa_1 (xR_cat _) xa_n) (by decide) ?_
  unfold f64 at h
  refine xe_iconst (n := 0) (by decide +kernel) rfl ?_
  refine xe_isr (ins := .istore_n 1) (len := 1) (i := 1) (by decide +kernel) rfl rfl rfl (by decide) (xk_k (show ¬ (0 : Nat) = 1 by decide) (Or.inr (xR_cat _)) xk_n) rfl ?_
  refine xW_lv rfl (l := [(0, xR_ (a0)), (1, xI (0))]) (xsb_of ⟨rfl, rfl, trivial⟩ (show [1, 0].Nodup by decide)) ?_
  exact k64_2   (show xin (0) by decide) h
-- ChangeHouse$Reader.toldTwice
def xr_65 : xj_mR := (4, yX4_toldTwice, cX4_toldTwice, 5, (Option.some Jvm.ClassFile.FieldType.int), 0, false, (5, 196), (1, 3))
set_option maxRecDepth 20000 in
theorem xr_65_e : xj_row 65 = some xr_65 := rfl
def f65_58  (r7 : Nat → Nat → Int → xj_M → Option (Int × xj_M)) (f : Nat) (x0 : Nat) (x1 : Nat) (x2 : Int) (x3 : Int) (y0 : Int) (M : xj_M) : Option (Int × xj_M) := ((xq_gr 4 15 (x0) M).bind fun v101 => ((xq_ai 3 (v101) (x2) M).bind fun v103 => ((xq_ai 3 (x1) (v103) M).bind fun v105 => (if (xand (v105) (y0)) = 0 then ((xq_gr 4 15 (x0) M).bind fun v108 => ((xq_ai 3 (v108) (x2) M).bind fun v110 => ((xq_ai 3 (x1) (v110) M).bind fun v112 => ((xq_si (x1) (v110) (xor_ (v112) (xshl (1) (x3))) M).bind fun M114 => r7 (x0) (x1) (xwr ((x2) + (1))) M114)))) else ((xq_gr 4 17 (x0) M).bind fun v116 => ((xq_ai 3 (v116) (x2) M).bind fun v118 => (some (v118, M))))))))
theorem k65_58 {d f : Nat}  {r7 : Nat → Nat → Int → xj_M → Option (Int × xj_M)}  (hr7 : ∀ {x0 : Nat} {x1 : Nat} {x2 : Int} {M : xj_M} {R : Int × xj_M}, xin x2 → r7 x0 x1 x2 M = some R → xW (d + 0) (none, d + 0, none) xr_65 (7, [(0, xR_ x0), (1, xR_ x1), (2, xI x2)], [], M) (xQi R)) {x0 : Nat} {x1 : Nat} {x2 : Int} {x3 : Int} {y0 : Int} {M : xj_M} {R : Int × xj_M} (hx2 : xin x2) (hx3 : xin x3) (hy0 : xin y0) (h : f65_58  r7 f x0 x1 x2 x3 y0 M = some R) : xW (d + 0) (none, d + 0, none) xr_65 (58, [(0, xR_ x0), (1, xR_ x1), (2, xI x2), (3, xI x3)], [xI y0], M) (xQi R) := by
  unfold f65_58 at h
  refine xe_isr (ins := .istore 4) (len := 2) (i := 4) (by decide +kernel) rfl rfl rfl (by decide) (xk_k (show ¬ (0 : Nat) = 4 by decide) (Or.inl (show ¬ (0 + 1 : Nat) = 4 by decide)) (xk_k (show ¬ (1 : Nat) = 4 by decide) (Or.inl (show ¬ (1 + 1 : Nat) = 4 by decide)) (xk_k (show ¬ (2 : Nat) = 4 by decide) (Or.inl (show ¬ (2 + 1 : Nat) = 4 by decide)) (xk_k (show ¬ (3 : Nat) = 4 by decide) (Or.inr (xI_cat _)) xk_n)))) rfl ?_
  refine xe_alr (ins := .aload_n 1) (len := 1) (i := 1) (by decide +kernel) rfl rfl rfl rfl rfl ?_
  refine xe_alr (ins := .aload_n 0) (len := 1) (i := 0) (by decide +kernel) rfl rfl rfl rfl rfl ?_
  obtain ⟨v101, e102, h⟩ := xbnd h
  refine xs_gr (i := 28) (c := 4) (k := 15) (by decide +kernel) (by decide) (by decide +kernel) e102 rfl ?_
  refine xe_ldn (ins := .iload_n 2) (len := 1) (by decide +kernel) rfl rfl rfl rfl ?_
  obtain ⟨v103, e104, h⟩ := xbnd h
  refine xs_iald rfl (by decide +kernel) hx2 e104 rfl ?_
  obtain ⟨v105, e106, h⟩ := xbnd h
  refine xs_iald rfl (by decide +kernel) (xq_ai_in e104) e106 rfl ?_
  refine xe_ldn (ins := .iload 4) (len := 2) (by decide +kernel) rfl rfl rfl rfl ?_
  refine xe_iand (by decide +kernel) rfl ?_
  refine xe_ifeq (off := 10) (t := 81) (by decide +kernel) (by decide) rfl (xin_of _) (fun c107 => ?_) (fun c107 => ?_)
  · rw [if_pos c107] at h
    refine xe_alr (ins := .aload_n 1) (len := 1) (i := 1) (by decide +kernel) rfl rfl rfl rfl rfl ?_
    refine xe_alr (ins := .aload_n 0) (len := 1) (i := 0) (by decide +kernel) rfl rfl rfl rfl rfl ?_
    obtain ⟨v108, e109, h⟩ := xbnd h
    refine xs_gr (i := 28) (c := 4) (k := 15) (by decide +kernel) (by decide) (by decide +kernel) e109 rfl ?_
    refine xe_ldn (ins := .iload_n 2) (len := 1) (by decide +kernel) rfl rfl rfl rfl ?_
    obtain ⟨v110, e111, h⟩ := xbnd h
    refine xs_iald rfl (by decide +kernel) hx2 e111 rfl ?_
    refine xe_dup2r (xI_cat _) (xR_cat _) (by decide +kernel) rfl ?_
    obtain ⟨v112, e113, h⟩ := xbnd h
    refine xs_iald rfl (by decide +kernel) (xq_ai_in e111) e113 rfl ?_
    refine xe_iconst (n := 1) (by decide +kernel) rfl ?_
    refine xe_ldn (ins := .iload_n 3) (len := 1) (by decide +kernel) rfl rfl rfl rfl ?_
    refine xe_ishl (by decide +kernel) rfl ?_
    refine xe_ior (by decide +kernel) rfl ?_
    obtain ⟨M114, e115, h⟩ := xbnd h
    refine xs_iast (by decide +kernel) (xq_ai_in e111) e115 rfl ?_
    refine xe_iincr (i := 2) (n := 1) (by decide +kernel) (by decide) rfl (xk_k (show ¬ (4 : Nat) = 2 by decide) (Or.inl (show ¬ (4 + 1 : Nat) = 2 by decide)) (xk_k (show ¬ (0 : Nat) = 2 by decide) (Or.inl (show ¬ (0 + 1 : Nat) = 2 by decide)) (xk_k (show ¬ (1 : Nat) = 2 by decide) (Or.inr (xR_cat _)) (xk_d rfl (xk_k (show ¬ (3 : Nat) = 2 by decide) (Or.inl (show ¬ (3 + 1 : Nat) = 2 by decide)) xk_n))))) rfl ?_
    refine xe_goto (off := -91) (nx := 7) (by decide +kernel) (by decide) ?_
    refine xW_lv rfl (l := [(0, xR_ (x0)), (1, xR_ (x1)), (2, xI (xwr ((x2) + (1))))]) (xsb_of ⟨rfl, rfl, rfl, trivial⟩ (show [2, 4, 0, 1, 3].Nodup by decide)) ?_
    exact hr7 (xin_wr _) h
  · rw [if_neg c107] at h
    refine xe_alr (ins := .aload_n 0) (len := 1) (i := 0) (by decide +kernel) rfl rfl rfl rfl rfl ?_
    obtain ⟨v116, e117, h⟩ := xbnd h
    refine xs_gr (i := 34) (c := 4) (k := 17) (by decide +kernel) (by decide) (by decide +kernel) e117 rfl ?_
    refine xe_ldn (ins := .iload_n 2) (len := 1) (by decide +kernel) rfl rfl rfl rfl ?_
    obtain ⟨v118, e119, h⟩ := xbnd h
    refine xs_iald rfl (by decide +kernel) hx2 e119 rfl ?_
    cases h
    exact xe_ret_i (ty := .int) (by decide +kernel) rfl rfl ⟨rfl, rfl, (xq_ai_in e119)⟩
def f65_7b  (r7 : Nat → Nat → Int → xj_M → Option (Int × xj_M)) (f : Nat) (x0 : Nat) (x1 : Nat) (x2 : Int) (M : xj_M) : Option (Int × xj_M) := ((xq_gi 4 14 (x0) M).bind fun v120 => (if (v120) ≤ (x2) then (some (-1, M)) else ((xq_gr 4 16 (x0) M).bind fun v123 => ((xq_ai 3 (v123) (x2) M).bind fun v125 => (if ¬ (v125) = (6) then (if ¬ (v125) = (7) then (if ¬ (v125) = (14) then f65_58  r7 f (x0) (x1) (x2) (v125) (0) M else f65_58  r7 f (x0) (x1) (x2) (v125) (64) M) else f65_58  r7 f (x0) (x1) (x2) (v125) (128) M) else f65_58  r7 f (x0) (x1) (x2) (v125) (16448) M)))))
theorem k65_7b {d f : Nat}  {r7 : Nat → Nat → Int → xj_M → Option (Int × xj_M)}  (hr7 : ∀ {x0 : Nat} {x1 : Nat} {x2 : Int} {M : xj_M} {R : Int × xj_M}, xin x2 → r7 x0 x1 x2 M = some R → xW (d + 0) (none, d + 0, none) xr_65 (7, [(0, xR_ x0), (1, xR_ x1), (2, xI x2)], [], M) (xQi R)) {x0 : Nat} {x1 : Nat} {x2 : Int} {M : xj_M} {R : Int × xj_M} (hx2 : xin x2) (h : f65_7b  r7 f x0 x1 x2 M = some R) : xW (d + 0) (none, d + 0, none) xr_65 (7, [(0, xR_ x0), (1, xR_ x1), (2, xI x2)], [], M) (xQi R) := by
  unfold f65_7b at h
  refine xe_ldn (ins := .iload_n 2) (len := 1) (by decide +kernel) rfl rfl rfl rfl ?_
  refine xe_alr (ins := .aload_n 0) (len := 1) (i := 0) (by decide +kernel) rfl rfl rfl rfl rfl ?_
  obtain ⟨v120, e121, h⟩ := xbnd h
  refine xs_gi (i := 155) (c := 4) (k := 14) (by decide +kernel) (by decide) (by decide +kernel) e121 rfl ?_
  refine xe_icmpge (off := 89) (t := 101) (by decide +kernel) (by decide) rfl hx2 (xq_gi_in e121) (fun c122 => ?_) (fun c122 => ?_)
  · rw [if_pos c122] at h
    refine xe_iconst (n := -1) (by decide +kernel) rfl ?_
    cases h
    exact xe_ret_i (ty := .int) (by decide +kernel) rfl rfl ⟨rfl, rfl, (show xin (-1) by decide)⟩
  · rw [if_neg c122] at h
    refine xe_alr (ins := .aload_n 0) (len := 1) (i := 0) (by decide +kernel) rfl rfl rfl rfl rfl ?_
    obtain ⟨v123, e124, h⟩ := xbnd h
    refine xs_gr (i := 31) (c := 4) (k := 16) (by decide +kernel) (by decide) (by decide +kernel) e124 rfl ?_
    refine xe_ldn (ins := .iload_n 2) (len := 1) (by decide +kernel) rfl rfl rfl rfl ?_
    obtain ⟨v125, e126, h⟩ := xbnd h
    refine xs_iald rfl (by decide +kernel) hx2 e126 rfl ?_
    refine xe_isr (ins := .istore_n 3) (len := 1) (i := 3) (by decide +kernel) rfl rfl rfl (by decide) (xk_k (show ¬ (0 : Nat) = 3 by decide) (Or.inl (show ¬ (0 + 1 : Nat) = 3 by decide)) (xk_k (show ¬ (1 : Nat) = 3 by decide) (Or.inl (show ¬ (1 + 1 : Nat) = 3 by decide)) (xk_k (show ¬ (2 : Nat) = 3 by decide) (Or.inr (xI_cat _)) xk_n))) rfl ?_
    refine xe_ldn (ins := .iload_n 3) (len := 1) (by decide +kernel) rfl rfl rfl rfl ?_
    refine xe_bipush (n := 6) (by decide +kernel) (by decide) rfl ?_
    refine xe_icmpne (off := 9) (t := 34) (by decide +kernel) (by decide) rfl (xq_ai_in e126) (show xin (6) by decide) (fun c127 => ?_) (fun c127 => ?_)
    · rw [if_pos c127] at h
      refine xe_ldn (ins := .iload_n 3) (len := 1) (by decide +kernel) rfl rfl rfl rfl ?_
      refine xe_bipush (n := 7) (by decide +kernel) (by decide) rfl ?_
      refine xe_icmpne (off := 9) (t := 46) (by decide +kernel) (by decide) rfl (xq_ai_in e126) (show xin (7) by decide) (fun c128 => ?_) (fun c128 => ?_)
      · rw [if_pos c128] at h
        refine xe_ldn (ins := .iload_n 3) (len := 1) (by decide +kernel) rfl rfl rfl rfl ?_
        refine xe_bipush (n := 14) (by decide +kernel) (by decide) rfl ?_
        refine xe_icmpne (off := 8) (t := 57) (by decide +kernel) (by decide) rfl (xq_ai_in e126) (show xin (14) by decide) (fun c129 => ?_) (fun c129 => ?_)
        · rw [if_pos c129] at h
          refine xe_iconst (n := 0) (by decide +kernel) rfl ?_
          refine xW_lv rfl (l := [(0, xR_ (x0)), (1, xR_ (x1)), (2, xI (x2)), (3, xI (v125))]) (xsb_of ⟨rfl, rfl, rfl, rfl, trivial⟩ (show [3, 0, 1, 2].Nodup by decide)) ?_
          exact k65_58  hr7 hx2 (xq_ai_in e126) (show xin (0) by decide) h
        · rw [if_neg c129] at h
          refine xe_bipush (n := 64) (by decide +kernel) (by decide) rfl ?_
          refine xe_goto (off := 4) (nx := 58) (by decide +kernel) (by decide) ?_
          refine xW_lv rfl (l := [(0, xR_ (x0)), (1, xR_ (x1)), (2, xI (x2)), (3, xI (v125))]) (xsb_of ⟨rfl, rfl, rfl, rfl, trivial⟩ (show [3, 0, 1, 2].Nodup by decide)) ?_
          exact k65_58  hr7 hx2 (xq_ai_in e126) (show xin (64) by decide) h
      · rw [if_neg c128] at h
        refine xe_sipush (n := 128) (by decide +kernel) (by decide) rfl ?_
        refine xe_goto (off := 15) (nx := 58) (by decide +kernel) (by decide) ?_
        refine xW_lv rfl (l := [(0, xR_ (x0)), (1, xR_ (x1)), (2, xI (x2)), (3, xI (v125))]) (xsb_of ⟨rfl, rfl, rfl, rfl, trivial⟩ (show [3, 0, 1, 2].Nodup by decide)) ?_
        exact k65_58  hr7 hx2 (xq_ai_in e126) (show xin (128) by decide) h
    · rw [if_neg c127] at h
      refine xe_sipush (n := 16448) (by decide +kernel) (by decide) rfl ?_
      refine xe_goto (off := 27) (nx := 58) (by decide +kernel) (by decide) ?_
      refine xW_lv rfl (l := [(0, xR_ (x0)), (1, xR_ (x1)), (2, xI (x2)), (3, xI (v125))]) (xsb_of ⟨rfl, rfl, rfl, rfl, trivial⟩ (show [3, 0, 1, 2].Nodup by decide)) ?_
      exact k65_58  hr7 hx2 (xq_ai_in e126) (show xin (16448) by decide) h
def f65_7   (f : Nat) : Nat → Nat → Nat → Int → xj_M → Option (Int × xj_M)
  | 0, _, _, _, _ => none
  | n + 1, x0, x1, x2, M => f65_7b   (f65_7   f n) f x0 x1 x2 M
theorem k65_7 {d f : Nat}     : ∀ {n : Nat} {x0 : Nat} {x1 : Nat} {x2 : Int} {M : xj_M} {R : Int × xj_M}, xin x2 → f65_7   f n x0 x1 x2 M = some R → xW (d + 0) (none, d + 0, none) xr_65 (7, [(0, xR_ x0), (1, xR_ x1), (2, xI x2)], [], M) (xQi R) := by
  intro n
  induction n with
  | zero => intros; rename_i h; cases h
  | succ n ih => intros; rename_i h; exact k65_7b   ih (by assumption) h
def f65  (f : Nat) (a0 : Nat) (M : xj_M) : Option (Int × xj_M) := ((xq_na 3 (16) M).bind fun p130 => f65_7   f f (a0) (p130.1) (0) p130.2)
theorem k65 {d f : Nat}   {a0 : Nat} {M : xj_M} {R : Int × xj_M}  (h : f65  f a0 M = some R) : xT (d + 1) 65 [xR_ a0] M (xQi R) := by
  refine xT_m xr_65_e (X := (none, d + 0, none)) rfl (xa_1 (xR_cat _) xa_n) (by decide) ?_
  unfold f65 at h
  refine xe_bipush (n := 16) (by decide +kernel) (by decide) rfl ?_
  obtain ⟨p130, e131, h⟩ := xbnd h
  refine xs_na (kk := 3) (ty := .int) (x := p130.1) (M1 := p130.2) (by decide +kernel) rfl (show xin (16) by decide) e131 rfl ?_
  refine xe_asr (ins := .astore_n 1) (len := 1) (i := 1) (by decide +kernel) rfl rfl rfl (by decide) (xk_k (show ¬ (0 : Nat) = 1 by decide) (Or.inr (xR_cat _)) xk_n) rfl ?_
  refine xe_iconst (n := 0) (by decide +kernel) rfl ?_
  refine xe_isr (ins := .istore_n 2) (len := 1) (i := 2) (by decide +kernel) rfl rfl rfl (by decide) (xk_k (show ¬ (1 : Nat) = 2 by decide) (Or.inr (xR_cat _)) (xk_k (show ¬ (0 : Nat) = 2 by decide) (Or.inl (show ¬ (0 + 1 : Nat) = 2 by decide)) xk_n)) rfl ?_
  refine xW_lv rfl (l := [(0, xR_ (a0)), (1, xR_ (p130.1)), (2, xI (0))]) (xsb_of ⟨rfl, rfl, rfl, trivial⟩ (show [2, 1, 0].Nodup by decide)) ?_
  exact k65_7   (show xin (0) by decide) h
-- ChangeHouse$Reader.unknownName
def xr_66 : xj_mR := (4, yX4_unknownName, cX4_unknownName, 3, (Option.some Jvm.ClassFile.FieldType.int), 0, false, (5, 200), (1, 3))
set_option maxRecDepth 20000 in
theorem xr_66_e : xj_row 66 = some xr_66 := rfl
def f66_46   (f : Nat) (x0 : Nat) (x1 : Int) (M : xj_M) : Option (Int × xj_M) := ((xq_gr 4 17 (x0) M).bind fun v101 => ((xq_ai 3 (v101) (x1) M).bind fun v103 => (some (v103, M))))
theorem k66_46 {d f : Nat}     {x0 : Nat} {x1 : Int} {M : xj_M} {R : Int × xj_M} (hx1 : xin x1) (h : f66_46   f x0 x1 M = some R) : xW (d + 0) (none, d + 0, none) xr_66 (46, [(0, xR_ x0), (1, xI x1)], [], M) (xQi R) := by
  unfold f66_46 at h
  refine xe_alr (ins := .aload_n 0) (len := 1) (i := 0) (by decide +kernel) rfl rfl rfl rfl rfl ?_
  obtain ⟨v101, e102, h⟩ := xbnd h
  refine xs_gr (i := 34) (c := 4) (k := 17) (by decide +kernel) (by decide) (by decide +kernel) e102 rfl ?_
  refine xe_ldn (ins := .iload_n 1) (len := 1) (by decide +kernel) rfl rfl rfl rfl ?_
  obtain ⟨v103, e104, h⟩ := xbnd h
  refine xs_iald rfl (by decide +kernel) hx1 e104 rfl ?_
  cases h
  exact xe_ret_i (ty := .int) (by decide +kernel) rfl rfl ⟨rfl, rfl, (xq_ai_in e104)⟩
def f66_53  (r2 : Nat → Int → xj_M → Option (Int × xj_M)) (f : Nat) (x0 : Nat) (x1 : Int) (M : xj_M) : Option (Int × xj_M) := r2 (x0) (xwr ((x1) + (1))) M
theorem k66_53 {d f : Nat}  {r2 : Nat → Int → xj_M → Option (Int × xj_M)}  (hr2 : ∀ {x0 : Nat} {x1 : Int} {M : xj_M} {R : Int × xj_M}, xin x1 → r2 x0 x1 M = some R → xW (d + 0) (none, d + 0, none) xr_66 (2, [(0, xR_ x0), (1, xI x1)], [], M) (xQi R)) {x0 : Nat} {x1 : Int} {M : xj_M} {R : Int × xj_M} (hx1 : xin x1) (h : f66_53  r2 f x0 x1 M = some R) : xW (d + 0) (none, d + 0, none) xr_66 (53, [(0, xR_ x0), (1, xI x1)], [], M) (xQi R) := by
  unfold f66_53 at h
  refine xe_iincr (i := 1) (n := 1) (by decide +kernel) (by decide) rfl (xk_k (show ¬ (0 : Nat) = 1 by decide) (Or.inr (xR_cat _)) (xk_d rfl xk_n)) rfl ?_
  refine xe_goto (off := -54) (nx := 2) (by decide +kernel) (by decide) ?_
  refine xW_lv rfl (l := [(0, xR_ (x0)), (1, xI (xwr ((x1) + (1))))]) (xsb_of ⟨rfl, rfl, trivial⟩ (show [1, 0].Nodup by decide)) ?_
  exact hr2 (xin_wr _) h
def f66_2b  (r2 : Nat → Int → xj_M → Option (Int × xj_M)) (f : Nat) (x0 : Nat) (x1 : Int) (M : xj_M) : Option (Int × xj_M) := ((xq_gi 4 14 (x0) M).bind fun v105 => (if (v105) ≤ (x1) then (some (-1, M)) else ((xq_gr 4 15 (x0) M).bind fun v108 => ((xq_ai 3 (v108) (x1) M).bind fun v110 => (if (v110) = (-1) then f66_46   f (x0) (x1) M else ((xq_gr 4 3 (x0) M).bind fun v113 => ((xq_gr 3 5 (v113) M).bind fun v115 => ((xq_ab (v115) (v110) M).bind fun v117 => (if ¬ (v117) = 0 then f66_53  r2 f (x0) (x1) M else ((xq_gr 4 3 (x0) M).bind fun v120 => ((xq_gr 3 7 (v120) M).bind fun v122 => ((xq_ab (v122) (v110) M).bind fun v124 => (if ¬ (v124) = 0 then f66_53  r2 f (x0) (x1) M else f66_46   f (x0) (x1) M)))))))))))))
theorem k66_2b {d f : Nat}  {r2 : Nat → Int → xj_M → Option (Int × xj_M)}  (hr2 : ∀ {x0 : Nat} {x1 : Int} {M : xj_M} {R : Int × xj_M}, xin x1 → r2 x0 x1 M = some R → xW (d + 0) (none, d + 0, none) xr_66 (2, [(0, xR_ x0), (1, xI x1)], [], M) (xQi R)) {x0 : Nat} {x1 : Int} {M : xj_M} {R : Int × xj_M} (hx1 : xin x1) (h : f66_2b  r2 f x0 x1 M = some R) : xW (d + 0) (none, d + 0, none) xr_66 (2, [(0, xR_ x0), (1, xI x1)], [], M) (xQi R) := by
  unfold f66_2b at h
  refine xe_ldn (ins := .iload_n 1) (len := 1) (by decide +kernel) rfl rfl rfl rfl ?_
  refine xe_alr (ins := .aload_n 0) (len := 1) (i := 0) (by decide +kernel) rfl rfl rfl rfl rfl ?_
  obtain ⟨v105, e106, h⟩ := xbnd h
  refine xs_gi (i := 155) (c := 4) (k := 14) (by decide +kernel) (by decide) (by decide +kernel) e106 rfl ?_
  refine xe_icmpge (off := 52) (t := 59) (by decide +kernel) (by decide) rfl hx1 (xq_gi_in e106) (fun c107 => ?_) (fun c107 => ?_)
  · rw [if_pos c107] at h
    refine xe_iconst (n := -1) (by decide +kernel) rfl ?_
    cases h
    exact xe_ret_i (ty := .int) (by decide +kernel) rfl rfl ⟨rfl, rfl, (show xin (-1) by decide)⟩
  · rw [if_neg c107] at h
    refine xe_alr (ins := .aload_n 0) (len := 1) (i := 0) (by decide +kernel) rfl rfl rfl rfl rfl ?_
    obtain ⟨v108, e109, h⟩ := xbnd h
    refine xs_gr (i := 28) (c := 4) (k := 15) (by decide +kernel) (by decide) (by decide +kernel) e109 rfl ?_
    refine xe_ldn (ins := .iload_n 1) (len := 1) (by decide +kernel) rfl rfl rfl rfl ?_
    obtain ⟨v110, e111, h⟩ := xbnd h
    refine xs_iald rfl (by decide +kernel) hx1 e111 rfl ?_
    refine xe_isr (ins := .istore_n 2) (len := 1) (i := 2) (by decide +kernel) rfl rfl rfl (by decide) (xk_k (show ¬ (0 : Nat) = 2 by decide) (Or.inl (show ¬ (0 + 1 : Nat) = 2 by decide)) (xk_k (show ¬ (1 : Nat) = 2 by decide) (Or.inr (xI_cat _)) xk_n)) rfl ?_
    refine xe_ldn (ins := .iload_n 2) (len := 1) (by decide +kernel) rfl rfl rfl rfl ?_
    refine xe_iconst (n := -1) (by decide +kernel) rfl ?_
    refine xe_icmpeq (off := 27) (t := 46) (by decide +kernel) (by decide) rfl (xq_ai_in e111) (show xin (-1) by decide) (fun c112 => ?_) (fun c112 => ?_)
    · rw [if_pos c112] at h
      refine xW_lv rfl (l := [(0, xR_ (x0)), (1, xI (x1))]) (xsb_of ⟨rfl, rfl, trivial⟩ (show [2, 0, 1].Nodup by decide)) ?_
      exact k66_46   hx1 h
    · rw [if_neg c112] at h
      refine xe_alr (ins := .aload_n 0) (len := 1) (i := 0) (by decide +kernel) rfl rfl rfl rfl rfl ?_
      obtain ⟨v113, e114, h⟩ := xbnd h
      refine xs_gr (i := 147) (c := 4) (k := 3) (by decide +kernel) (by decide) (by decide +kernel) e114 rfl ?_
      obtain ⟨v115, e116, h⟩ := xbnd h
      refine xs_gr (i := 169) (c := 3) (k := 5) (by decide +kernel) (by decide) (by decide +kernel) e116 rfl ?_
      refine xe_ldn (ins := .iload_n 2) (len := 1) (by decide +kernel) rfl rfl rfl rfl ?_
      obtain ⟨v117, e118, h⟩ := xbnd h
      refine xs_bald (by decide +kernel) (xq_ai_in e111) e118 rfl ?_
      refine xe_ifne (off := 22) (t := 53) (by decide +kernel) (by decide) rfl (xq_ab_in e118) (fun c119 => ?_) (fun c119 => ?_)
      · rw [if_pos c119] at h
        refine xW_lv rfl (l := [(0, xR_ (x0)), (1, xI (x1))]) (xsb_of ⟨rfl, rfl, trivial⟩ (show [2, 0, 1].Nodup by decide)) ?_
        exact k66_53  hr2 hx1 h
      · rw [if_neg c119] at h
        refine xe_alr (ins := .aload_n 0) (len := 1) (i := 0) (by decide +kernel) rfl rfl rfl rfl rfl ?_
        obtain ⟨v120, e121, h⟩ := xbnd h
        refine xs_gr (i := 147) (c := 4) (k := 3) (by decide +kernel) (by decide) (by decide +kernel) e121 rfl ?_
        obtain ⟨v122, e123, h⟩ := xbnd h
        refine xs_gr (i := 200) (c := 3) (k := 7) (by decide +kernel) (by decide) (by decide +kernel) e123 rfl ?_
        refine xe_ldn (ins := .iload_n 2) (len := 1) (by decide +kernel) rfl rfl rfl rfl ?_
        obtain ⟨v124, e125, h⟩ := xbnd h
        refine xs_bald (by decide +kernel) (xq_ai_in e111) e125 rfl ?_
        refine xe_ifne (off := 10) (t := 53) (by decide +kernel) (by decide) rfl (xq_ab_in e125) (fun c126 => ?_) (fun c126 => ?_)
        · rw [if_pos c126] at h
          refine xW_lv rfl (l := [(0, xR_ (x0)), (1, xI (x1))]) (xsb_of ⟨rfl, rfl, trivial⟩ (show [2, 0, 1].Nodup by decide)) ?_
          exact k66_53  hr2 hx1 h
        · rw [if_neg c126] at h
          refine xW_lv rfl (l := [(0, xR_ (x0)), (1, xI (x1))]) (xsb_of ⟨rfl, rfl, trivial⟩ (show [2, 0, 1].Nodup by decide)) ?_
          exact k66_46   hx1 h
def f66_2   (f : Nat) : Nat → Nat → Int → xj_M → Option (Int × xj_M)
  | 0, _, _, _ => none
  | n + 1, x0, x1, M => f66_2b   (f66_2   f n) f x0 x1 M
theorem k66_2 {d f : Nat}     : ∀ {n : Nat} {x0 : Nat} {x1 : Int} {M : xj_M} {R : Int × xj_M}, xin x1 → f66_2   f n x0 x1 M = some R → xW (d + 0) (none, d + 0, none) xr_66 (2, [(0, xR_ x0), (1, xI x1)], [], M) (xQi R) := by
  intro n
  induction n with
  | zero => intros; rename_i h; cases h
  | succ n ih => intros; rename_i h; exact k66_2b   ih (by assumption) h
def f66  (f : Nat) (a0 : Nat) (M : xj_M) : Option (Int × xj_M) := f66_2   f f (a0) (0) M
theorem k66 {d f : Nat}   {a0 : Nat} {M : xj_M} {R : Int × xj_M}  (h : f66  f a0 M = some R) : xT (d + 1) 66 [xR_ a0] M (xQi R) := by
  refine xT_m xr_66_e (X := (none, d + 0, none)) rfl (xa_1 (xR_cat _) xa_n) (by decide) ?_
  unfold f66 at h
  refine xe_iconst (n := 0) (by decide +kernel) rfl ?_
  refine xe_isr (ins := .istore_n 1) (len := 1) (i := 1) (by decide +kernel) rfl rfl rfl (by decide) (xk_k (show ¬ (0 : Nat) = 1 by decide) (Or.inr (xR_cat _)) xk_n) rfl ?_
  refine xW_lv rfl (l := [(0, xR_ (a0)), (1, xI (0))]) (xsb_of ⟨rfl, rfl, trivial⟩ (show [1, 0].Nodup by decide)) ?_
  exact k66_2   (show xin (0) by decide) h
-- ChangeHouse$Reader.otherWidth
def xr_67 : xj_mR := (4, yX4_otherWidth, cX4_otherWidth, 2, (Option.some Jvm.ClassFile.FieldType.int), 0, false, (5, 204), (1, 3))
set_option maxRecDepth 20000 in
theorem xr_67_e : xj_row 67 = some xr_67 := rfl
def f67_51  (r2 : Nat → Int → xj_M → Option (Int × xj_M)) (f : Nat) (x0 : Nat) (x1 : Int) (M : xj_M) : Option (Int × xj_M) := r2 (x0) (xwr ((x1) + (1))) M
theorem k67_51 {d f : Nat}  {r2 : Nat → Int → xj_M → Option (Int × xj_M)}  (hr2 : ∀ {x0 : Nat} {x1 : Int} {M : xj_M} {R : Int × xj_M}, xin x1 → r2 x0 x1 M = some R → xW (d + 0) (none, d + 0, none) xr_67 (2, [(0, xR_ x0), (1, xI x1)], [], M) (xQi R)) {x0 : Nat} {x1 : Int} {M : xj_M} {R : Int × xj_M} (hx1 : xin x1) (h : f67_51  r2 f x0 x1 M = some R) : xW (d + 0) (none, d + 0, none) xr_67 (51, [(0, xR_ x0), (1, xI x1)], [], M) (xQi R) := by
  unfold f67_51 at h
  refine xe_iincr (i := 1) (n := 1) (by decide +kernel) (by decide) rfl (xk_k (show ¬ (0 : Nat) = 1 by decide) (Or.inr (xR_cat _)) (xk_d rfl xk_n)) rfl ?_
  refine xe_goto (off := -52) (nx := 2) (by decide +kernel) (by decide) ?_
  refine xW_lv rfl (l := [(0, xR_ (x0)), (1, xI (xwr ((x1) + (1))))]) (xsb_of ⟨rfl, rfl, trivial⟩ (show [1, 0].Nodup by decide)) ?_
  exact hr2 (xin_wr _) h
def f67_2b  (r2 : Nat → Int → xj_M → Option (Int × xj_M)) (f : Nat) (x0 : Nat) (x1 : Int) (M : xj_M) : Option (Int × xj_M) := ((xq_gi 4 14 (x0) M).bind fun v101 => (if (v101) ≤ (x1) then (some (-1, M)) else ((xq_gr 4 16 (x0) M).bind fun v104 => ((xq_ai 3 (v104) (x1) M).bind fun v106 => (if (v106) = (7) then f67_51  r2 f (x0) (x1) M else ((xq_gr 4 18 (x0) M).bind fun v109 => ((xq_ai 3 (v109) (x1) M).bind fun v111 => ((xq_gr 4 3 (x0) M).bind fun v113 => ((xq_gr 3 3 (v113) M).bind fun v115 => ((xq_gr 4 15 (x0) M).bind fun v117 => ((xq_ai 3 (v117) (x1) M).bind fun v119 => ((xq_ai 3 (v115) (v119) M).bind fun v121 => (if (v111) = (v121) then f67_51  r2 f (x0) (x1) M else ((xq_gr 4 17 (x0) M).bind fun v124 => ((xq_ai 3 (v124) (x1) M).bind fun v126 => (some (v126, M)))))))))))))))))
theorem k67_2b {d f : Nat}  {r2 : Nat → Int → xj_M → Option (Int × xj_M)}  (hr2 : ∀ {x0 : Nat} {x1 : Int} {M : xj_M} {R : Int × xj_M}, xin x1 → r2 x0 x1 M = some R → xW (d + 0) (none, d + 0, none) xr_67 (2, [(0, xR_ x0), (1, xI x1)], [], M) (xQi R)) {x0 : Nat} {x1 : Int} {M : xj_M} {R : Int × xj_M} (hx1 : xin x1) (h : f67_2b  r2 f x0 x1 M = some R) : xW (d + 0) (none, d + 0, none) xr_67 (2, [(0, xR_ x0), (1, xI x1)], [], M) (xQi R) := by
  unfold f67_2b at h
  refine xe_ldn (ins := .iload_n 1) (len := 1) (by decide +kernel) rfl rfl rfl rfl ?_
  refine xe_alr (ins := .aload_n 0) (len := 1) (i := 0) (by decide +kernel) rfl rfl rfl rfl rfl ?_
  obtain ⟨v101, e102, h⟩ := xbnd h
  refine xs_gi (i := 155) (c := 4) (k := 14) (by decide +kernel) (by decide) (by decide +kernel) e102 rfl ?_
  refine xe_icmpge (off := 50) (t := 57) (by decide +kernel) (by decide) rfl hx1 (xq_gi_in e102) (fun c103 => ?_) (fun c103 => ?_)
  · rw [if_pos c103] at h
    refine xe_iconst (n := -1) (by decide +kernel) rfl ?_
    cases h
    exact xe_ret_i (ty := .int) (by decide +kernel) rfl rfl ⟨rfl, rfl, (show xin (-1) by decide)⟩
  · rw [if_neg c103] at h
    refine xe_alr (ins := .aload_n 0) (len := 1) (i := 0) (by decide +kernel) rfl rfl rfl rfl rfl ?_
    obtain ⟨v104, e105, h⟩ := xbnd h
    refine xs_gr (i := 31) (c := 4) (k := 16) (by decide +kernel) (by decide) (by decide +kernel) e105 rfl ?_
    refine xe_ldn (ins := .iload_n 1) (len := 1) (by decide +kernel) rfl rfl rfl rfl ?_
    obtain ⟨v106, e107, h⟩ := xbnd h
    refine xs_iald rfl (by decide +kernel) hx1 e107 rfl ?_
    refine xe_bipush (n := 7) (by decide +kernel) (by decide) rfl ?_
    refine xe_icmpeq (off := 33) (t := 51) (by decide +kernel) (by decide) rfl (xq_ai_in e107) (show xin (7) by decide) (fun c108 => ?_) (fun c108 => ?_)
    · rw [if_pos c108] at h
      refine xW_lv rfl (l := [(0, xR_ (x0)), (1, xI (x1))]) (xsb_of ⟨rfl, rfl, trivial⟩ (show [0, 1].Nodup by decide)) ?_
      exact k67_51  hr2 hx1 h
    · rw [if_neg c108] at h
      refine xe_alr (ins := .aload_n 0) (len := 1) (i := 0) (by decide +kernel) rfl rfl rfl rfl rfl ?_
      obtain ⟨v109, e110, h⟩ := xbnd h
      refine xs_gr (i := 37) (c := 4) (k := 18) (by decide +kernel) (by decide) (by decide +kernel) e110 rfl ?_
      refine xe_ldn (ins := .iload_n 1) (len := 1) (by decide +kernel) rfl rfl rfl rfl ?_
      obtain ⟨v111, e112, h⟩ := xbnd h
      refine xs_iald rfl (by decide +kernel) hx1 e112 rfl ?_
      refine xe_alr (ins := .aload_n 0) (len := 1) (i := 0) (by decide +kernel) rfl rfl rfl rfl rfl ?_
      obtain ⟨v113, e114, h⟩ := xbnd h
      refine xs_gr (i := 147) (c := 4) (k := 3) (by decide +kernel) (by decide) (by decide +kernel) e114 rfl ?_
      obtain ⟨v115, e116, h⟩ := xbnd h
      refine xs_gr (i := 323) (c := 3) (k := 3) (by decide +kernel) (by decide) (by decide +kernel) e116 rfl ?_
      refine xe_alr (ins := .aload_n 0) (len := 1) (i := 0) (by decide +kernel) rfl rfl rfl rfl rfl ?_
      obtain ⟨v117, e118, h⟩ := xbnd h
      refine xs_gr (i := 28) (c := 4) (k := 15) (by decide +kernel) (by decide) (by decide +kernel) e118 rfl ?_
      refine xe_ldn (ins := .iload_n 1) (len := 1) (by decide +kernel) rfl rfl rfl rfl ?_
      obtain ⟨v119, e120, h⟩ := xbnd h
      refine xs_iald rfl (by decide +kernel) hx1 e120 rfl ?_
      obtain ⟨v121, e122, h⟩ := xbnd h
      refine xs_iald rfl (by decide +kernel) (xq_ai_in e120) e122 rfl ?_
      refine xe_icmpeq (off := 10) (t := 51) (by decide +kernel) (by decide) rfl (xq_ai_in e112) (xq_ai_in e122) (fun c123 => ?_) (fun c123 => ?_)
      · rw [if_pos c123] at h
        refine xW_lv rfl (l := [(0, xR_ (x0)), (1, xI (x1))]) (xsb_of ⟨rfl, rfl, trivial⟩ (show [0, 1].Nodup by decide)) ?_
        exact k67_51  hr2 hx1 h
      · rw [if_neg c123] at h
        refine xe_alr (ins := .aload_n 0) (len := 1) (i := 0) (by decide +kernel) rfl rfl rfl rfl rfl ?_
        obtain ⟨v124, e125, h⟩ := xbnd h
        refine xs_gr (i := 34) (c := 4) (k := 17) (by decide +kernel) (by decide) (by decide +kernel) e125 rfl ?_
        refine xe_ldn (ins := .iload_n 1) (len := 1) (by decide +kernel) rfl rfl rfl rfl ?_
        obtain ⟨v126, e127, h⟩ := xbnd h
        refine xs_iald rfl (by decide +kernel) hx1 e127 rfl ?_
        cases h
        exact xe_ret_i (ty := .int) (by decide +kernel) rfl rfl ⟨rfl, rfl, (xq_ai_in e127)⟩
def f67_2   (f : Nat) : Nat → Nat → Int → xj_M → Option (Int × xj_M)
  | 0, _, _, _ => none
  | n + 1, x0, x1, M => f67_2b   (f67_2   f n) f x0 x1 M
theorem k67_2 {d f : Nat}     : ∀ {n : Nat} {x0 : Nat} {x1 : Int} {M : xj_M} {R : Int × xj_M}, xin x1 → f67_2   f n x0 x1 M = some R → xW (d + 0) (none, d + 0, none) xr_67 (2, [(0, xR_ x0), (1, xI x1)], [], M) (xQi R) := by
  intro n
  induction n with
  | zero => intros; rename_i h; cases h
  | succ n ih => intros; rename_i h; exact k67_2b   ih (by assumption) h
def f67  (f : Nat) (a0 : Nat) (M : xj_M) : Option (Int × xj_M) := f67_2   f f (a0) (0) M
theorem k67 {d f : Nat}   {a0 : Nat} {M : xj_M} {R : Int × xj_M}  (h : f67  f a0 M = some R) : xT (d + 1) 67 [xR_ a0] M (xQi R) := by
  refine xT_m xr_67_e (X := (none, d + 0, none)) rfl (xa_1 (xR_cat _) xa_n) (by decide) ?_
  unfold f67 at h
  refine xe_iconst (n := 0) (by decide +kernel) rfl ?_
  refine xe_isr (ins := .istore_n 1) (len := 1) (i := 1) (by decide +kernel) rfl rfl rfl (by decide) (xk_k (show ¬ (0 : Nat) = 1 by decide) (Or.inr (xR_cat _)) xk_n) rfl ?_
  refine xW_lv rfl (l := [(0, xR_ (a0)), (1, xI (0))]) (xsb_of ⟨rfl, rfl, trivial⟩ (show [1, 0].Nodup by decide)) ?_
  exact k67_2   (show xin (0) by decide) h
-- ChangeHouse$Rows.<init>
def xr_68 : xj_mR := (5, yX5_init, cX5_init, 3, (Option.none : Option Jvm.ClassFile.FieldType), 2, true, (1, 217), (1, 6))
set_option maxRecDepth 20000 in
theorem xr_68_e : xj_row 68 = some xr_68 := rfl
def f68  (f : Nat) (a0 : Nat) (a1 : Int) (a2 : Int) (M : xj_M) : Option (xj_M) := ((xq_nz (a0)).bind fun _ => ((xq_pi 5 0 (a0) (a1) M).bind fun M102 => ((xq_na 4 (xwr ((a1) * (a2))) M102).bind fun p104 => ((xq_pr 5 2 (a0) (p104.1) p104.2).bind fun M106 => ((xq_na 3 (a2) M106).bind fun p108 => ((xq_pr 5 3 (a0) (p108.1) p108.2).bind fun M110 => (some M110)))))))
theorem k68 {d f : Nat}   {a0 : Nat} {a1 : Int} {a2 : Int} {M : xj_M} {R : xj_M} (ha1 : xin a1) (ha2 : xin a2) (h : f68  f a0 a1 a2 M = some R) : xT (d + 1) 68 [xR_ a0, xI a1, xI a2] M (xQv R) := by
  refine xT_m xr_68_e (X := (none, d + 0, none)) rfl (xa_1 (xR_cat _) (xa_1 (xI_cat _) (xa_1 (xI_cat _) xa_n))) (by decide) ?_
  unfold f68 at h
  refine xe_alr (ins := .aload_n 0) (len := 1) (i := 0) (by decide +kernel) rfl rfl rfl rfl rfl ?_
  obtain ⟨_, e101, h⟩ := xbnd h
  refine xe_oi (i := 3) (j := 0) (by decide +kernel) (by decide +kernel) (by rfl) (xq_nz_ne e101) rfl ?_
  refine xe_alr (ins := .aload_n 0) (len := 1) (i := 0) (by decide +kernel) rfl rfl rfl rfl rfl ?_
  refine xe_ldn (ins := .iload_n 1) (len := 1) (by decide +kernel) rfl rfl rfl rfl ?_
  obtain ⟨M102, e103, h⟩ := xbnd h
  refine xs_p (i := 9) (c := 5) (k := 0) (by decide +kernel) (by decide +kernel) (by decide +kernel) e103 rfl ?_
  refine xe_alr (ins := .aload_n 0) (len := 1) (i := 0) (by decide +kernel) rfl rfl rfl rfl rfl ?_
  refine xe_ldn (ins := .iload_n 1) (len := 1) (by decide +kernel) rfl rfl rfl rfl ?_
  refine xe_ldn (ins := .iload_n 2) (len := 1) (by decide +kernel) rfl rfl rfl rfl ?_
  refine xe_imul (by decide +kernel) rfl ?_
  obtain ⟨p104, e105, h⟩ := xbnd h
  refine xs_na (kk := 4) (ty := .long) (x := p104.1) (M1 := p104.2) (by decide +kernel) rfl (xin_wr _) e105 rfl ?_
  obtain ⟨M106, e107, h⟩ := xbnd h
  refine xs_p (i := 15) (c := 5) (k := 2) (by decide +kernel) (by decide +kernel) (by decide +kernel) e107 rfl ?_
  refine xe_alr (ins := .aload_n 0) (len := 1) (i := 0) (by decide +kernel) rfl rfl rfl rfl rfl ?_
  refine xe_ldn (ins := .iload_n 2) (len := 1) (by decide +kernel) rfl rfl rfl rfl ?_
  obtain ⟨p108, e109, h⟩ := xbnd h
  refine xs_na (kk := 3) (ty := .int) (x := p108.1) (M1 := p108.2) (by decide +kernel) rfl ha2 e109 rfl ?_
  obtain ⟨M110, e111, h⟩ := xbnd h
  refine xs_p (i := 19) (c := 5) (k := 3) (by decide +kernel) (by decide +kernel) (by decide +kernel) e111 rfl ?_
  cases h
  exact xe_ret_v (by decide +kernel) rfl ⟨rfl, rfl⟩
-- ChangeHouse$Rows.start
def xr_69 : xj_mR := (5, yX5_start, cX5_start, 2, (Option.none : Option Jvm.ClassFile.FieldType), 1, false, (6, 94), (1, 6))
set_option maxRecDepth 20000 in
theorem xr_69_e : xj_row 69 = some xr_69 := rfl
def f69  (f : Nat) (a0 : Nat) (a1 : Int) (M : xj_M) : Option (xj_M) := ((xq_pi 5 0 (a0) (a1) M).bind fun M101 => ((xq_pi 5 1 (a0) (0) M101).bind fun M103 => (some M103)))
theorem k69 {d f : Nat}   {a0 : Nat} {a1 : Int} {M : xj_M} {R : xj_M} (ha1 : xin a1) (h : f69  f a0 a1 M = some R) : xT (d + 1) 69 [xR_ a0, xI a1] M (xQv R) := by
  refine xT_m xr_69_e (X := (none, d + 0, none)) rfl (xa_1 (xR_cat _) (xa_1 (xI_cat _) xa_n)) (by decide) ?_
  unfold f69 at h
  refine xe_alr (ins := .aload_n 0) (len := 1) (i := 0) (by decide +kernel) rfl rfl rfl rfl rfl ?_
  refine xe_ldn (ins := .iload_n 1) (len := 1) (by decide +kernel) rfl rfl rfl rfl ?_
  obtain ⟨M101, e102, h⟩ := xbnd h
  refine xs_p (i := 9) (c := 5) (k := 0) (by decide +kernel) (by decide +kernel) (by decide +kernel) e102 rfl ?_
  refine xe_alr (ins := .aload_n 0) (len := 1) (i := 0) (by decide +kernel) rfl rfl rfl rfl rfl ?_
  refine xe_iconst (n := 0) (by decide +kernel) rfl ?_
  obtain ⟨M103, e104, h⟩ := xbnd h
  refine xs_p (i := 23) (c := 5) (k := 1) (by decide +kernel) (by decide +kernel) (by decide +kernel) e104 rfl ?_
  cases h
  exact xe_ret_v (by decide +kernel) rfl ⟨rfl, rfl⟩
-- ChangeHouse$Rows.at
def xr_70 : xj_mR := (5, yX5_at, cX5_at, 3, (Option.some Jvm.ClassFile.FieldType.long), 2, false, (6, 197), (1, 6))
set_option maxRecDepth 20000 in
theorem xr_70_e : xj_row 70 = some xr_70 := rfl
def f70  (f : Nat) (a0 : Nat) (a1 : Int) (a2 : Int) (M : xj_M) : Option (Int × xj_M) := ((xq_gr 5 2 (a0) M).bind fun v101 => ((xq_gi 5 0 (a0) M).bind fun v103 => ((xq_al (v101) (xwr ((xwr ((a1) * (v103))) + (a2))) M).bind fun v105 => (some (v105, M)))))
theorem k70 {d f : Nat}   {a0 : Nat} {a1 : Int} {a2 : Int} {M : xj_M} {R : Int × xj_M} (ha1 : xin a1) (ha2 : xin a2) (h : f70  f a0 a1 a2 M = some R) : xT (d + 1) 70 [xR_ a0, xI a1, xI a2] M (xQl R) := by
  refine xT_m xr_70_e (X := (none, d + 0, none)) rfl (xa_1 (xR_cat _) (xa_1 (xI_cat _) (xa_1 (xI_cat _) xa_n))) (by decide) ?_
  unfold f70 at h
  refine xe_alr (ins := .aload_n 0) (len := 1) (i := 0) (by decide +kernel) rfl rfl rfl rfl rfl ?_
  obtain ⟨v101, e102, h⟩ := xbnd h
  refine xs_gr (i := 15) (c := 5) (k := 2) (by decide +kernel) (by decide) (by decide +kernel) e102 rfl ?_
  refine xe_ldn (ins := .iload_n 1) (len := 1) (by decide +kernel) rfl rfl rfl rfl ?_
  refine xe_alr (ins := .aload_n 0) (len := 1) (i := 0) (by decide +kernel) rfl rfl rfl rfl rfl ?_
  obtain ⟨v103, e104, h⟩ := xbnd h
  refine xs_gi (i := 9) (c := 5) (k := 0) (by decide +kernel) (by decide) (by decide +kernel) e104 rfl ?_
  refine xe_imul (by decide +kernel) rfl ?_
  refine xe_ldn (ins := .iload_n 2) (len := 1) (by decide +kernel) rfl rfl rfl rfl ?_
  refine xe_iadd (by decide +kernel) rfl ?_
  obtain ⟨v105, e106, h⟩ := xbnd h
  refine xs_lald (by decide +kernel) (xin_wr _) e106 rfl ?_
  cases h
  exact xe_ret_l (by decide +kernel) rfl ⟨rfl, rfl, (xq_al_in e106)⟩
-- ChangeHouse$Rows.compare
def xr_71 : xj_mR := (5, yX5_compare, cX5_compare, 7, (Option.some Jvm.ClassFile.FieldType.int), 3, false, (6, 113), (1, 6))
set_option maxRecDepth 20000 in
theorem xr_71_e : xj_row 71 = some xr_71 := rfl
def f71_50   (f : Nat) (y0 : Int) (M : xj_M) : Option (Int × xj_M) := (some (y0, M))
theorem k71_50 {d f : Nat}     {y0 : Int} {M : xj_M} {R : Int × xj_M} (hy0 : xin y0) (h : f71_50   f y0 M = some R) : xW (d + 0) (none, d + 0, none) xr_71 (50, [], [xI y0], M) (xQi R) := by
  unfold f71_50 at h
  cases h
  exact xe_ret_i (ty := .int) (by decide +kernel) rfl rfl ⟨rfl, rfl, hy0⟩
def f71_3b  (r3 : Nat → Int → Nat → Int → Int → xj_M → Option (Int × xj_M)) (f : Nat) (x0 : Nat) (x1 : Int) (x2 : Nat) (x3 : Int) (x4 : Int) (M : xj_M) : Option (Int × xj_M) := (if (x3) ≤ (x4) then (some (0, M)) else ((xq_gr 5 2 (x0) M).bind fun v102 => ((xq_gi 5 0 (x0) M).bind fun v104 => ((xq_al (v102) (xwr ((xwr ((x1) * (v104))) + (x4))) M).bind fun v106 => ((xq_al (x2) (x4) M).bind fun v108 => (if (v106) = (v108) then r3 (x0) (x1) (x2) (x3) (xwr ((x4) + (1))) M else ((xq_al (x2) (x4) M).bind fun v111 => (if (v111) ≤ (v106) then f71_50   f (1) M else f71_50   f (-1) M))))))))
theorem k71_3b {d f : Nat}  {r3 : Nat → Int → Nat → Int → Int → xj_M → Option (Int × xj_M)}  (hr3 : ∀ {x0 : Nat} {x1 : Int} {x2 : Nat} {x3 : Int} {x4 : Int} {M : xj_M} {R : Int × xj_M}, xin x1 → xin x3 → xin x4 → r3 x0 x1 x2 x3 x4 M = some R → xW (d + 0) (none, d + 0, none) xr_71 (3, [(0, xR_ x0), (1, xI x1), (2, xR_ x2), (3, xI x3), (4, xI x4)], [], M) (xQi R)) {x0 : Nat} {x1 : Int} {x2 : Nat} {x3 : Int} {x4 : Int} {M : xj_M} {R : Int × xj_M} (hx1 : xin x1) (hx3 : xin x3) (hx4 : xin x4) (h : f71_3b  r3 f x0 x1 x2 x3 x4 M = some R) : xW (d + 0) (none, d + 0, none) xr_71 (3, [(0, xR_ x0), (1, xI x1), (2, xR_ x2), (3, xI x3), (4, xI x4)], [], M) (xQi R) := by
  unfold f71_3b at h
  refine xe_ldn (ins := .iload 4) (len := 2) (by decide +kernel) rfl rfl rfl rfl ?_
  refine xe_ldn (ins := .iload_n 3) (len := 1) (by decide +kernel) rfl rfl rfl rfl ?_
  refine xe_icmpge (off := 51) (t := 57) (by decide +kernel) (by decide) rfl hx4 hx3 (fun c101 => ?_) (fun c101 => ?_)
  · rw [if_pos c101] at h
    refine xe_iconst (n := 0) (by decide +kernel) rfl ?_
    cases h
    exact xe_ret_i (ty := .int) (by decide +kernel) rfl rfl ⟨rfl, rfl, (show xin (0) by decide)⟩
  · rw [if_neg c101] at h
    refine xe_alr (ins := .aload_n 0) (len := 1) (i := 0) (by decide +kernel) rfl rfl rfl rfl rfl ?_
    obtain ⟨v102, e103, h⟩ := xbnd h
    refine xs_gr (i := 15) (c := 5) (k := 2) (by decide +kernel) (by decide) (by decide +kernel) e103 rfl ?_
    refine xe_ldn (ins := .iload_n 1) (len := 1) (by decide +kernel) rfl rfl rfl rfl ?_
    refine xe_alr (ins := .aload_n 0) (len := 1) (i := 0) (by decide +kernel) rfl rfl rfl rfl rfl ?_
    obtain ⟨v104, e105, h⟩ := xbnd h
    refine xs_gi (i := 9) (c := 5) (k := 0) (by decide +kernel) (by decide) (by decide +kernel) e105 rfl ?_
    refine xe_imul (by decide +kernel) rfl ?_
    refine xe_ldn (ins := .iload 4) (len := 2) (by decide +kernel) rfl rfl rfl rfl ?_
    refine xe_iadd (by decide +kernel) rfl ?_
    obtain ⟨v106, e107, h⟩ := xbnd h
    refine xs_lald (by decide +kernel) (xin_wr _) e107 rfl ?_
    refine xe_lsr (ins := .lstore 5) (len := 2) (i := 5) (by decide +kernel) rfl rfl rfl (by decide) (xk2_k (show ¬ (0 : Nat) = 5 by decide) (show ¬ (0 : Nat) = 5 + 1 by decide) (Or.inl (show ¬ (0 + 1 : Nat) = 5 by decide)) (xk2_k (show ¬ (1 : Nat) = 5 by decide) (show ¬ (1 : Nat) = 5 + 1 by decide) (Or.inl (show ¬ (1 + 1 : Nat) = 5 by decide)) (xk2_k (show ¬ (2 : Nat) = 5 by decide) (show ¬ (2 : Nat) = 5 + 1 by decide) (Or.inl (show ¬ (2 + 1 : Nat) = 5 by decide)) (xk2_k (show ¬ (3 : Nat) = 5 by decide) (show ¬ (3 : Nat) = 5 + 1 by decide) (Or.inl (show ¬ (3 + 1 : Nat) = 5 by decide)) (xk2_k (show ¬ (4 : Nat) = 5 by decide) (show ¬ (4 : Nat) = 5 + 1 by decide) (Or.inr (xI_cat _)) xk2_n))))) rfl ?_
    refine xe_ldn (ins := .lload 5) (len := 2) (by decide +kernel) rfl rfl rfl rfl ?_
    refine xe_alr (ins := .aload_n 2) (len := 1) (i := 2) (by decide +kernel) rfl rfl rfl rfl rfl ?_
    refine xe_ldn (ins := .iload 4) (len := 2) (by decide +kernel) rfl rfl rfl rfl ?_
    obtain ⟨v108, e109, h⟩ := xbnd h
    refine xs_lald (by decide +kernel) hx4 e109 rfl ?_
    refine xe_lcmp (by decide +kernel) rfl (xq_al_in e107) (xq_al_in e109) ?_
    refine xe_ifeq (off := 19) (t := 51) (by decide +kernel) (by decide) rfl (xin_cmp8 _ _) (fun c110 => ?_) (fun c110 => ?_)
    · have c110 := xcmp8_eq.mp c110; rw [if_pos c110] at h
      refine xe_iincr (i := 4) (n := 1) (by decide +kernel) (by decide) rfl (xk_k (show ¬ (5 : Nat) = 4 by decide) (Or.inl (show ¬ (5 + 1 : Nat) = 4 by decide)) (xk_k (show ¬ (0 : Nat) = 4 by decide) (Or.inl (show ¬ (0 + 1 : Nat) = 4 by decide)) (xk_k (show ¬ (1 : Nat) = 4 by decide) (Or.inl (show ¬ (1 + 1 : Nat) = 4 by decide)) (xk_k (show ¬ (2 : Nat) = 4 by decide) (Or.inl (show ¬ (2 + 1 : Nat) = 4 by decide)) (xk_k (show ¬ (3 : Nat) = 4 by decide) (Or.inr (xI_cat _)) (xk_d rfl xk_n)))))) rfl ?_
      refine xe_goto (off := -51) (nx := 3) (by decide +kernel) (by decide) ?_
      refine xW_lv rfl (l := [(0, xR_ (x0)), (1, xI (x1)), (2, xR_ (x2)), (3, xI (x3)), (4, xI (xwr ((x4) + (1))))]) (xsb_of ⟨rfl, rfl, rfl, rfl, rfl, trivial⟩ (show [4, 5, 0, 1, 2, 3].Nodup by decide)) ?_
      exact hr3 hx1 hx3 (xin_wr _) h
    · have c110 := (not_congr xcmp8_eq).mp c110; rw [if_neg c110] at h
      refine xe_ldn (ins := .lload 5) (len := 2) (by decide +kernel) rfl rfl rfl rfl ?_
      refine xe_alr (ins := .aload_n 2) (len := 1) (i := 2) (by decide +kernel) rfl rfl rfl rfl rfl ?_
      refine xe_ldn (ins := .iload 4) (len := 2) (by decide +kernel) rfl rfl rfl rfl ?_
      obtain ⟨v111, e112, h⟩ := xbnd h
      refine xs_lald (by decide +kernel) hx4 e112 rfl ?_
      refine xe_lcmp (by decide +kernel) rfl (xq_al_in e107) (xq_al_in e112) ?_
      refine xe_ifge (off := 7) (t := 49) (by decide +kernel) (by decide) rfl (xin_cmp8 _ _) (fun c113 => ?_) (fun c113 => ?_)
      · have c113 := xcmp8_ge.mp c113; rw [if_pos c113] at h
        refine xe_iconst (n := 1) (by decide +kernel) rfl ?_
        refine xW_lv rfl (l := []) (xsb_of trivial (show [5, 0, 1, 2, 3, 4].Nodup by decide)) ?_
        exact k71_50   (show xin (1) by decide) h
      · have c113 := (not_congr xcmp8_ge).mp c113; rw [if_neg c113] at h
        refine xe_iconst (n := -1) (by decide +kernel) rfl ?_
        refine xe_goto (off := 4) (nx := 50) (by decide +kernel) (by decide) ?_
        refine xW_lv rfl (l := []) (xsb_of trivial (show [5, 0, 1, 2, 3, 4].Nodup by decide)) ?_
        exact k71_50   (show xin (-1) by decide) h
def f71_3   (f : Nat) : Nat → Nat → Int → Nat → Int → Int → xj_M → Option (Int × xj_M)
  | 0, _, _, _, _, _, _ => none
  | n + 1, x0, x1, x2, x3, x4, M => f71_3b   (f71_3   f n) f x0 x1 x2 x3 x4 M
theorem k71_3 {d f : Nat}     : ∀ {n : Nat} {x0 : Nat} {x1 : Int} {x2 : Nat} {x3 : Int} {x4 : Int} {M : xj_M} {R : Int × xj_M}, xin x1 → xin x3 → xin x4 → f71_3   f n x0 x1 x2 x3 x4 M = some R → xW (d + 0) (none, d + 0, none) xr_71 (3, [(0, xR_ x0), (1, xI x1), (2, xR_ x2), (3, xI x3), (4, xI x4)], [], M) (xQi R) := by
  intro n
  induction n with
  | zero => intros; rename_i h; cases h
  | succ n ih => intros; rename_i h; exact k71_3b   ih (by assumption) (by assumption) (by assumption) h
def f71  (f : Nat) (a0 : Nat) (a1 : Int) (a2 : Nat) (a3 : Int) (M : xj_M) : Option (Int × xj_M) := f71_3   f f (a0) (a1) (a2) (a3) (0) M
theorem k71 {d f : Nat}   {a0 : Nat} {a1 : Int} {a2 : Nat} {a3 : Int} {M : xj_M} {R : Int × xj_M} (ha1 : xin a1) (ha3 : xin a3) (h : f71  f a0 a1 a2 a3 M = some R) : xT (d + 1) 71 [xR_ a0, xI a1, xR_ a2, xI a3] M (xQi R) := by
  refine xT_m xr_71_e (X := (none, d + 0, none)) rfl (xa_1 (xR_cat _) (xa_1 (xI_cat _) (xa_1 (xR_cat _) (xa_1 (xI_cat _) xa_n)))) (by decide) ?_
  unfold f71 at h
  refine xe_iconst (n := 0) (by decide +kernel) rfl ?_
  refine xe_isr (ins := .istore 4) (len := 2) (i := 4) (by decide +kernel) rfl rfl rfl (by decide) (xk_k (show ¬ (0 : Nat) = 4 by decide) (Or.inl (show ¬ (0 + 1 : Nat) = 4 by decide)) (xk_k (show ¬ (1 : Nat) = 4 by decide) (Or.inl (show ¬ (1 + 1 : Nat) = 4 by decide)) (xk_k (show ¬ (2 : Nat) = 4 by decide) (Or.inl (show ¬ (2 + 1 : Nat) = 4 by decide)) (xk_k (show ¬ (3 : Nat) = 4 by decide) (Or.inr (xI_cat _)) xk_n)))) rfl ?_
  refine xW_lv rfl (l := [(0, xR_ (a0)), (1, xI (a1)), (2, xR_ (a2)), (3, xI (a3)), (4, xI (0))]) (xsb_of ⟨rfl, rfl, rfl, rfl, rfl, trivial⟩ (show [4, 0, 1, 2, 3].Nodup by decide)) ?_
  exact k71_3   ha1 ha3 (show xin (0) by decide) h
-- ChangeHouse$Rows.compareRow
def xr_72 : xj_mR := (5, yX5_compareRow, cX5_compareRow, 10, (Option.some Jvm.ClassFile.FieldType.int), 4, false, (6, 137), (1, 6))
set_option maxRecDepth 20000 in
theorem xr_72_e : xj_row 72 = some xr_72 := rfl
def f72_63   (f : Nat) (y0 : Int) (M : xj_M) : Option (Int × xj_M) := (some (y0, M))
theorem k72_63 {d f : Nat}     {y0 : Int} {M : xj_M} {R : Int × xj_M} (hy0 : xin y0) (h : f72_63   f y0 M = some R) : xW (d + 0) (none, d + 0, none) xr_72 (63, [], [xI y0], M) (xQi R) := by
  unfold f72_63 at h
  cases h
  exact xe_ret_i (ty := .int) (by decide +kernel) rfl rfl ⟨rfl, rfl, hy0⟩
def f72_3b  (r3 : Nat → Int → Nat → Int → Int → Int → xj_M → Option (Int × xj_M)) (f : Nat) (x0 : Nat) (x1 : Int) (x2 : Nat) (x3 : Int) (x4 : Int) (x5 : Int) (M : xj_M) : Option (Int × xj_M) := (if (x4) ≤ (x5) then (some (0, M)) else ((xq_gr 5 2 (x0) M).bind fun v102 => ((xq_gi 5 0 (x0) M).bind fun v104 => ((xq_al (v102) (xwr ((xwr ((x1) * (v104))) + (x5))) M).bind fun v106 => ((xq_gr 5 2 (x2) M).bind fun v108 => ((xq_gi 5 0 (x2) M).bind fun v110 => ((xq_al (v108) (xwr ((xwr ((x3) * (v110))) + (x5))) M).bind fun v112 => (if (v106) = (v112) then r3 (x0) (x1) (x2) (x3) (x4) (xwr ((x5) + (1))) M else (if (v112) ≤ (v106) then f72_63   f (1) M else f72_63   f (-1) M)))))))))
theorem k72_3b {d f : Nat}  {r3 : Nat → Int → Nat → Int → Int → Int → xj_M → Option (Int × xj_M)}  (hr3 : ∀ {x0 : Nat} {x1 : Int} {x2 : Nat} {x3 : Int} {x4 : Int} {x5 : Int} {M : xj_M} {R : Int × xj_M}, xin x1 → xin x3 → xin x4 → xin x5 → r3 x0 x1 x2 x3 x4 x5 M = some R → xW (d + 0) (none, d + 0, none) xr_72 (3, [(0, xR_ x0), (1, xI x1), (2, xR_ x2), (3, xI x3), (4, xI x4), (5, xI x5)], [], M) (xQi R)) {x0 : Nat} {x1 : Int} {x2 : Nat} {x3 : Int} {x4 : Int} {x5 : Int} {M : xj_M} {R : Int × xj_M} (hx1 : xin x1) (hx3 : xin x3) (hx4 : xin x4) (hx5 : xin x5) (h : f72_3b  r3 f x0 x1 x2 x3 x4 x5 M = some R) : xW (d + 0) (none, d + 0, none) xr_72 (3, [(0, xR_ x0), (1, xI x1), (2, xR_ x2), (3, xI x3), (4, xI x4), (5, xI x5)], [], M) (xQi R) := by
  unfold f72_3b at h
  refine xe_ldn (ins := .iload 5) (len := 2) (by decide +kernel) rfl rfl rfl rfl ?_
  refine xe_ldn (ins := .iload 4) (len := 2) (by decide +kernel) rfl rfl rfl rfl ?_
  refine xe_icmpge (off := 63) (t := 70) (by decide +kernel) (by decide) rfl hx5 hx4 (fun c101 => ?_) (fun c101 => ?_)
  · rw [if_pos c101] at h
    refine xe_iconst (n := 0) (by decide +kernel) rfl ?_
    cases h
    exact xe_ret_i (ty := .int) (by decide +kernel) rfl rfl ⟨rfl, rfl, (show xin (0) by decide)⟩
  · rw [if_neg c101] at h
    refine xe_alr (ins := .aload_n 0) (len := 1) (i := 0) (by decide +kernel) rfl rfl rfl rfl rfl ?_
    obtain ⟨v102, e103, h⟩ := xbnd h
    refine xs_gr (i := 15) (c := 5) (k := 2) (by decide +kernel) (by decide) (by decide +kernel) e103 rfl ?_
    refine xe_ldn (ins := .iload_n 1) (len := 1) (by decide +kernel) rfl rfl rfl rfl ?_
    refine xe_alr (ins := .aload_n 0) (len := 1) (i := 0) (by decide +kernel) rfl rfl rfl rfl rfl ?_
    obtain ⟨v104, e105, h⟩ := xbnd h
    refine xs_gi (i := 9) (c := 5) (k := 0) (by decide +kernel) (by decide) (by decide +kernel) e105 rfl ?_
    refine xe_imul (by decide +kernel) rfl ?_
    refine xe_ldn (ins := .iload 5) (len := 2) (by decide +kernel) rfl rfl rfl rfl ?_
    refine xe_iadd (by decide +kernel) rfl ?_
    obtain ⟨v106, e107, h⟩ := xbnd h
    refine xs_lald (by decide +kernel) (xin_wr _) e107 rfl ?_
    refine xe_lsr (ins := .lstore 6) (len := 2) (i := 6) (by decide +kernel) rfl rfl rfl (by decide) (xk2_k (show ¬ (0 : Nat) = 6 by decide) (show ¬ (0 : Nat) = 6 + 1 by decide) (Or.inl (show ¬ (0 + 1 : Nat) = 6 by decide)) (xk2_k (show ¬ (1 : Nat) = 6 by decide) (show ¬ (1 : Nat) = 6 + 1 by decide) (Or.inl (show ¬ (1 + 1 : Nat) = 6 by decide)) (xk2_k (show ¬ (2 : Nat) = 6 by decide) (show ¬ (2 : Nat) = 6 + 1 by decide) (Or.inl (show ¬ (2 + 1 : Nat) = 6 by decide)) (xk2_k (show ¬ (3 : Nat) = 6 by decide) (show ¬ (3 : Nat) = 6 + 1 by decide) (Or.inl (show ¬ (3 + 1 : Nat) = 6 by decide)) (xk2_k (show ¬ (4 : Nat) = 6 by decide) (show ¬ (4 : Nat) = 6 + 1 by decide) (Or.inl (show ¬ (4 + 1 : Nat) = 6 by decide)) (xk2_k (show ¬ (5 : Nat) = 6 by decide) (show ¬ (5 : Nat) = 6 + 1 by decide) (Or.inr (xI_cat _)) xk2_n)))))) rfl ?_
    refine xe_alr (ins := .aload_n 2) (len := 1) (i := 2) (by decide +kernel) rfl rfl rfl rfl rfl ?_
    obtain ⟨v108, e109, h⟩ := xbnd h
    refine xs_gr (i := 15) (c := 5) (k := 2) (by decide +kernel) (by decide) (by decide +kernel) e109 rfl ?_
    refine xe_ldn (ins := .iload_n 3) (len := 1) (by decide +kernel) rfl rfl rfl rfl ?_
    refine xe_alr (ins := .aload_n 2) (len := 1) (i := 2) (by decide +kernel) rfl rfl rfl rfl rfl ?_
    obtain ⟨v110, e111, h⟩ := xbnd h
    refine xs_gi (i := 9) (c := 5) (k := 0) (by decide +kernel) (by decide) (by decide +kernel) e111 rfl ?_
    refine xe_imul (by decide +kernel) rfl ?_
    refine xe_ldn (ins := .iload 5) (len := 2) (by decide +kernel) rfl rfl rfl rfl ?_
    refine xe_iadd (by decide +kernel) rfl ?_
    obtain ⟨v112, e113, h⟩ := xbnd h
    refine xs_lald (by decide +kernel) (xin_wr _) e113 rfl ?_
    refine xe_lsr (ins := .lstore 8) (len := 2) (i := 8) (by decide +kernel) rfl rfl rfl (by decide) (xk2_k (show ¬ (6 : Nat) = 8 by decide) (show ¬ (6 : Nat) = 8 + 1 by decide) (Or.inl (show ¬ (6 + 1 : Nat) = 8 by decide)) (xk2_k (show ¬ (0 : Nat) = 8 by decide) (show ¬ (0 : Nat) = 8 + 1 by decide) (Or.inl (show ¬ (0 + 1 : Nat) = 8 by decide)) (xk2_k (show ¬ (1 : Nat) = 8 by decide) (show ¬ (1 : Nat) = 8 + 1 by decide) (Or.inl (show ¬ (1 + 1 : Nat) = 8 by decide)) (xk2_k (show ¬ (2 : Nat) = 8 by decide) (show ¬ (2 : Nat) = 8 + 1 by decide) (Or.inl (show ¬ (2 + 1 : Nat) = 8 by decide)) (xk2_k (show ¬ (3 : Nat) = 8 by decide) (show ¬ (3 : Nat) = 8 + 1 by decide) (Or.inl (show ¬ (3 + 1 : Nat) = 8 by decide)) (xk2_k (show ¬ (4 : Nat) = 8 by decide) (show ¬ (4 : Nat) = 8 + 1 by decide) (Or.inl (show ¬ (4 + 1 : Nat) = 8 by decide)) (xk2_k (show ¬ (5 : Nat) = 8 by decide) (show ¬ (5 : Nat) = 8 + 1 by decide) (Or.inl (show ¬ (5 + 1 : Nat) = 8 by decide)) xk2_n))))))) rfl ?_
    refine xe_ldn (ins := .lload 6) (len := 2) (by decide +kernel) rfl rfl rfl rfl ?_
    refine xe_ldn (ins := .lload 8) (len := 2) (by decide +kernel) rfl rfl rfl rfl ?_
    refine xe_lcmp (by decide +kernel) rfl (xq_al_in e107) (xq_al_in e113) ?_
    refine xe_ifeq (off := 17) (t := 64) (by decide +kernel) (by decide) rfl (xin_cmp8 _ _) (fun c114 => ?_) (fun c114 => ?_)
    · have c114 := xcmp8_eq.mp c114; rw [if_pos c114] at h
      refine xe_iincr (i := 5) (n := 1) (by decide +kernel) (by decide) rfl (xk_k (show ¬ (8 : Nat) = 5 by decide) (Or.inl (show ¬ (8 + 1 : Nat) = 5 by decide)) (xk_k (show ¬ (6 : Nat) = 5 by decide) (Or.inl (show ¬ (6 + 1 : Nat) = 5 by decide)) (xk_k (show ¬ (0 : Nat) = 5 by decide) (Or.inl (show ¬ (0 + 1 : Nat) = 5 by decide)) (xk_k (show ¬ (1 : Nat) = 5 by decide) (Or.inl (show ¬ (1 + 1 : Nat) = 5 by decide)) (xk_k (show ¬ (2 : Nat) = 5 by decide) (Or.inl (show ¬ (2 + 1 : Nat) = 5 by decide)) (xk_k (show ¬ (3 : Nat) = 5 by decide) (Or.inl (show ¬ (3 + 1 : Nat) = 5 by decide)) (xk_k (show ¬ (4 : Nat) = 5 by decide) (Or.inr (xI_cat _)) (xk_d rfl xk_n)))))))) rfl ?_
      refine xe_goto (off := -64) (nx := 3) (by decide +kernel) (by decide) ?_
      refine xW_lv rfl (l := [(0, xR_ (x0)), (1, xI (x1)), (2, xR_ (x2)), (3, xI (x3)), (4, xI (x4)), (5, xI (xwr ((x5) + (1))))]) (xsb_of ⟨rfl, rfl, rfl, rfl, rfl, rfl, trivial⟩ (show [5, 8, 6, 0, 1, 2, 3, 4].Nodup by decide)) ?_
      exact hr3 hx1 hx3 hx4 (xin_wr _) h
    · have c114 := (not_congr xcmp8_eq).mp c114; rw [if_neg c114] at h
      refine xe_ldn (ins := .lload 6) (len := 2) (by decide +kernel) rfl rfl rfl rfl ?_
      refine xe_ldn (ins := .lload 8) (len := 2) (by decide +kernel) rfl rfl rfl rfl ?_
      refine xe_lcmp (by decide +kernel) rfl (xq_al_in e107) (xq_al_in e113) ?_
      refine xe_ifge (off := 7) (t := 62) (by decide +kernel) (by decide) rfl (xin_cmp8 _ _) (fun c115 => ?_) (fun c115 => ?_)
      · have c115 := xcmp8_ge.mp c115; rw [if_pos c115] at h
        refine xe_iconst (n := 1) (by decide +kernel) rfl ?_
        refine xW_lv rfl (l := []) (xsb_of trivial (show [8, 6, 0, 1, 2, 3, 4, 5].Nodup by decide)) ?_
        exact k72_63   (show xin (1) by decide) h
      · have c115 := (not_congr xcmp8_ge).mp c115; rw [if_neg c115] at h
        refine xe_iconst (n := -1) (by decide +kernel) rfl ?_
        refine xe_goto (off := 4) (nx := 63) (by decide +kernel) (by decide) ?_
        refine xW_lv rfl (l := []) (xsb_of trivial (show [8, 6, 0, 1, 2, 3, 4, 5].Nodup by decide)) ?_
        exact k72_63   (show xin (-1) by decide) h
def f72_3   (f : Nat) : Nat → Nat → Int → Nat → Int → Int → Int → xj_M → Option (Int × xj_M)
  | 0, _, _, _, _, _, _, _ => none
  | n + 1, x0, x1, x2, x3, x4, x5, M => f72_3b   (f72_3   f n) f x0 x1 x2 x3 x4 x5 M
theorem k72_3 {d f : Nat}     : ∀ {n : Nat} {x0 : Nat} {x1 : Int} {x2 : Nat} {x3 : Int} {x4 : Int} {x5 : Int} {M : xj_M} {R : Int × xj_M}, xin x1 → xin x3 → xin x4 → xin x5 → f72_3   f n x0 x1 x2 x3 x4 x5 M = some R → xW (d + 0) (none, d + 0, none) xr_72 (3, [(0, xR_ x0), (1, xI x1), (2, xR_ x2), (3, xI x3), (4, xI x4), (5, xI x5)], [], M) (xQi R) := by
  intro n
  induction n with
  | zero => intros; rename_i h; cases h
  | succ n ih => intros; rename_i h; exact k72_3b   ih (by assumption) (by assumption) (by assumption) (by assumption) h
def f72  (f : Nat) (a0 : Nat) (a1 : Int) (a2 : Nat) (a3 : Int) (a4 : Int) (M : xj_M) : Option (Int × xj_M) := f72_3   f f (a0) (a1) (a2) (a3) (a4) (0) M
theorem k72 {d f : Nat}   {a0 : Nat} {a1 : Int} {a2 : Nat} {a3 : Int} {a4 : Int} {M : xj_M} {R : Int × xj_M} (ha1 : xin a1) (ha3 : xin a3) (ha4 : xin a4) (h : f72  f a0 a1 a2 a3 a4 M = some R) : xT (d + 1) 72 [xR_ a0, xI a1, xR_ a2, xI a3, xI a4] M (xQi R) := by
  refine xT_m xr_72_e (X := (none, d + 0, none)) rfl (xa_1 (xR_cat _) (xa_1 (xI_cat _) (xa_1 (xR_cat _) (xa_1 (xI_cat _) (xa_1 (xI_cat _) xa_n))))) (by decide) ?_
  unfold f72 at h
  refine xe_iconst (n := 0) (by decide +kernel) rfl ?_
  refine xe_isr (ins := .istore 5) (len := 2) (i := 5) (by decide +kernel) rfl rfl rfl (by decide) (xk_k (show ¬ (0 : Nat) = 5 by decide) (Or.inl (show ¬ (0 + 1 : Nat) = 5 by decide)) (xk_k (show ¬ (1 : Nat) = 5 by decide) (Or.inl (show ¬ (1 + 1 : Nat) = 5 by decide)) (xk_k (show ¬ (2 : Nat) = 5 by decide) (Or.inl (show ¬ (2 + 1 : Nat) = 5 by decide)) (xk_k (show ¬ (3 : Nat) = 5 by decide) (Or.inl (show ¬ (3 + 1 : Nat) = 5 by decide)) (xk_k (show ¬ (4 : Nat) = 5 by decide) (Or.inr (xI_cat _)) xk_n))))) rfl ?_
  refine xW_lv rfl (l := [(0, xR_ (a0)), (1, xI (a1)), (2, xR_ (a2)), (3, xI (a3)), (4, xI (a4)), (5, xI (0))]) (xsb_of ⟨rfl, rfl, rfl, rfl, rfl, rfl, trivial⟩ (show [5, 0, 1, 2, 3, 4].Nodup by decide)) ?_
  exact k72_3   ha1 ha3 ha4 (show xin (0) by decide) h
-- ChangeHouse$Rows.search
def xr_73 : xj_mR := (5, yX5_search, cX5_search, 7, (Option.some Jvm.ClassFile.FieldType.int), 3, false, (6, 109), (1, 6))
set_option maxRecDepth 20000 in
theorem xr_73_e : xj_row 73 = some xr_73 := rfl
def f73_50  (r9 : Nat → Nat → Int → Int → Int → Int → xj_M → Option (Int × xj_M)) (f : Nat) (x0 : Nat) (x1 : Nat) (x2 : Int) (x3 : Int) (x4 : Int) (x5 : Int) (M : xj_M) : Option (Int × xj_M) := r9 (x0) (x1) (x2) (x3) (x4) (x5) M
theorem k73_50 {d f : Nat}  {r9 : Nat → Nat → Int → Int → Int → Int → xj_M → Option (Int × xj_M)}  (hr9 : ∀ {x0 : Nat} {x1 : Nat} {x2 : Int} {x3 : Int} {x4 : Int} {x5 : Int} {M : xj_M} {R : Int × xj_M}, xin x2 → xin x3 → xin x4 → xin x5 → r9 x0 x1 x2 x3 x4 x5 M = some R → xW (d + 1) (none, d + 1, none) xr_73 (9, [(0, xR_ x0), (1, xR_ x1), (2, xI x2), (3, xI x3), (4, xI x4), (5, xI x5)], [], M) (xQi R)) {x0 : Nat} {x1 : Nat} {x2 : Int} {x3 : Int} {x4 : Int} {x5 : Int} {M : xj_M} {R : Int × xj_M} (hx2 : xin x2) (hx3 : xin x3) (hx4 : xin x4) (hx5 : xin x5) (h : f73_50  r9 f x0 x1 x2 x3 x4 x5 M = some R) : xW (d + 1) (none, d + 1, none) xr_73 (50, [(0, xR_ x0), (1, xR_ x1), (2, xI x2), (3, xI x3), (4, xI x4), (5, xI x5)], [], M) (xQi R) := by
  unfold f73_50 at h
  refine xe_goto (off := -41) (nx := 9) (by decide +kernel) (by decide) ?_
  refine xW_lv rfl (l := [(0, xR_ (x0)), (1, xR_ (x1)), (2, xI (x2)), (3, xI (x3)), (4, xI (x4)), (5, xI (x5))]) (xsb_of ⟨rfl, rfl, rfl, rfl, rfl, rfl, trivial⟩ (show [0, 1, 2, 3, 4, 5].Nodup by decide)) ?_
  exact hr9 hx2 hx3 hx4 hx5 h
def f73_9b  (r9 : Nat → Nat → Int → Int → Int → Int → xj_M → Option (Int × xj_M)) (f : Nat) (x0 : Nat) (x1 : Nat) (x2 : Int) (x3 : Int) (x4 : Int) (x5 : Int) (M : xj_M) : Option (Int × xj_M) := (if (x5) ≤ (x4) then (some (x4, M)) else ((xq_is 5 (x0) M).bind fun _ => ((f71  f (x0) (xush (xwr ((x4) + (x5))) (1)) (x1) (x2) M).bind fun R104 => (if (x3) ≤ (R104.1) then f73_50  r9 f (x0) (x1) (x2) (x3) (x4) (xush (xwr ((x4) + (x5))) (1)) R104.2 else f73_50  r9 f (x0) (x1) (x2) (x3) (xwr ((xush (xwr ((x4) + (x5))) (1)) + (1))) (x5) R104.2))))
theorem k73_9b {d f : Nat}  {r9 : Nat → Nat → Int → Int → Int → Int → xj_M → Option (Int × xj_M)}  (hr9 : ∀ {x0 : Nat} {x1 : Nat} {x2 : Int} {x3 : Int} {x4 : Int} {x5 : Int} {M : xj_M} {R : Int × xj_M}, xin x2 → xin x3 → xin x4 → xin x5 → r9 x0 x1 x2 x3 x4 x5 M = some R → xW (d + 1) (none, d + 1, none) xr_73 (9, [(0, xR_ x0), (1, xR_ x1), (2, xI x2), (3, xI x3), (4, xI x4), (5, xI x5)], [], M) (xQi R)) {x0 : Nat} {x1 : Nat} {x2 : Int} {x3 : Int} {x4 : Int} {x5 : Int} {M : xj_M} {R : Int × xj_M} (hx2 : xin x2) (hx3 : xin x3) (hx4 : xin x4) (hx5 : xin x5) (h : f73_9b  r9 f x0 x1 x2 x3 x4 x5 M = some R) : xW (d + 1) (none, d + 1, none) xr_73 (9, [(0, xR_ x0), (1, xR_ x1), (2, xI x2), (3, xI x3), (4, xI x4), (5, xI x5)], [], M) (xQi R) := by
  unfold f73_9b at h
  refine xe_ldn (ins := .iload 4) (len := 2) (by decide +kernel) rfl rfl rfl rfl ?_
  refine xe_ldn (ins := .iload 5) (len := 2) (by decide +kernel) rfl rfl rfl rfl ?_
  refine xe_icmpge (off := 40) (t := 53) (by decide +kernel) (by decide) rfl hx4 hx5 (fun c101 => ?_) (fun c101 => ?_)
  · rw [if_pos c101] at h
    refine xe_ldn (ins := .iload 4) (len := 2) (by decide +kernel) rfl rfl rfl rfl ?_
    cases h
    exact xe_ret_i (ty := .int) (by decide +kernel) rfl rfl ⟨rfl, rfl, hx4⟩
  · rw [if_neg c101] at h
    refine xe_ldn (ins := .iload 4) (len := 2) (by decide +kernel) rfl rfl rfl rfl ?_
    refine xe_ldn (ins := .iload 5) (len := 2) (by decide +kernel) rfl rfl rfl rfl ?_
    refine xe_iadd (by decide +kernel) rfl ?_
    refine xe_iconst (n := 1) (by decide +kernel) rfl ?_
    refine xe_iushr (by decide +kernel) rfl ?_
    refine xe_isr (ins := .istore 6) (len := 2) (i := 6) (by decide +kernel) rfl rfl rfl (by decide) (xk_k (show ¬ (0 : Nat) = 6 by decide) (Or.inl (show ¬ (0 + 1 : Nat) = 6 by decide)) (xk_k (show ¬ (1 : Nat) = 6 by decide) (Or.inl (show ¬ (1 + 1 : Nat) = 6 by decide)) (xk_k (show ¬ (2 : Nat) = 6 by decide) (Or.inl (show ¬ (2 + 1 : Nat) = 6 by decide)) (xk_k (show ¬ (3 : Nat) = 6 by decide) (Or.inl (show ¬ (3 + 1 : Nat) = 6 by decide)) (xk_k (show ¬ (4 : Nat) = 6 by decide) (Or.inl (show ¬ (4 + 1 : Nat) = 6 by decide)) (xk_k (show ¬ (5 : Nat) = 6 by decide) (Or.inr (xI_cat _)) xk_n)))))) rfl ?_
    refine xe_alr (ins := .aload_n 0) (len := 1) (i := 0) (by decide +kernel) rfl rfl rfl rfl rfl ?_
    refine xe_ldn (ins := .iload 6) (len := 2) (by decide +kernel) rfl rfl rfl rfl ?_
    refine xe_alr (ins := .aload_n 1) (len := 1) (i := 1) (by decide +kernel) rfl rfl rfl rfl rfl ?_
    refine xe_ldn (ins := .iload_n 2) (len := 1) (by decide +kernel) rfl rfl rfl rfl ?_
    obtain ⟨_, e103, h⟩ := xbnd h
    obtain ⟨R104, e102, h⟩ := xbnd h
    refine xs_cv (i := 26) (j := 71) (ar := [xI (x2), xR_ (x1), xI (xush (xwr ((x4) + (x5))) (1))]) (rest := []) (r2 := xr_71) (by decide +kernel) (by decide +kernel) (by decide +kernel) xr_71_e rfl (by decide) (by decide) e103 ?_
    refine xc_i (k71 (d := d + 0)  (xin_of _) hx2 e102) rfl (fun hi105 => ?_)
    refine xe_ldn (ins := .iload_n 3) (len := 1) (by decide +kernel) rfl rfl rfl rfl ?_
    refine xe_icmpge (off := 12) (t := 46) (by decide +kernel) (by decide) rfl hi105 hx3 (fun c106 => ?_) (fun c106 => ?_)
    · rw [if_pos c106] at h
      refine xe_ldn (ins := .iload 6) (len := 2) (by decide +kernel) rfl rfl rfl rfl ?_
      refine xe_isr (ins := .istore 5) (len := 2) (i := 5) (by decide +kernel) rfl rfl rfl (by decide) (xk_k (show ¬ (6 : Nat) = 5 by decide) (Or.inl (show ¬ (6 + 1 : Nat) = 5 by decide)) (xk_k (show ¬ (0 : Nat) = 5 by decide) (Or.inl (show ¬ (0 + 1 : Nat) = 5 by decide)) (xk_k (show ¬ (1 : Nat) = 5 by decide) (Or.inl (show ¬ (1 + 1 : Nat) = 5 by decide)) (xk_k (show ¬ (2 : Nat) = 5 by decide) (Or.inl (show ¬ (2 + 1 : Nat) = 5 by decide)) (xk_k (show ¬ (3 : Nat) = 5 by decide) (Or.inl (show ¬ (3 + 1 : Nat) = 5 by decide)) (xk_k (show ¬ (4 : Nat) = 5 by decide) (Or.inr (xI_cat _)) (xk_d rfl xk_n))))))) rfl ?_
      refine xW_lv rfl (l := [(0, xR_ (x0)), (1, xR_ (x1)), (2, xI (x2)), (3, xI (x3)), (4, xI (x4)), (5, xI (xush (xwr ((x4) + (x5))) (1)))]) (xsb_of ⟨rfl, rfl, rfl, rfl, rfl, rfl, trivial⟩ (show [5, 6, 0, 1, 2, 3, 4].Nodup by decide)) ?_
      exact k73_50  hr9 hx2 hx3 hx4 (xin_of _) h
    · rw [if_neg c106] at h
      refine xe_ldn (ins := .iload 6) (len := 2) (by decide +kernel) rfl rfl rfl rfl ?_
      refine xe_iconst (n := 1) (by decide +kernel) rfl ?_
      refine xe_iadd (by decide +kernel) rfl ?_
      refine xe_isr (ins := .istore 4) (len := 2) (i := 4) (by decide +kernel) rfl rfl rfl (by decide) (xk_k (show ¬ (6 : Nat) = 4 by decide) (Or.inl (show ¬ (6 + 1 : Nat) = 4 by decide)) (xk_k (show ¬ (0 : Nat) = 4 by decide) (Or.inl (show ¬ (0 + 1 : Nat) = 4 by decide)) (xk_k (show ¬ (1 : Nat) = 4 by decide) (Or.inl (show ¬ (1 + 1 : Nat) = 4 by decide)) (xk_k (show ¬ (2 : Nat) = 4 by decide) (Or.inl (show ¬ (2 + 1 : Nat) = 4 by decide)) (xk_k (show ¬ (3 : Nat) = 4 by decide) (Or.inr (xI_cat _)) (xk_d rfl (xk_k (show ¬ (5 : Nat) = 4 by decide) (Or.inl (show ¬ (5 + 1 : Nat) = 4 by decide)) xk_n))))))) rfl ?_
      refine xe_goto (off := 7) (nx := 50) (by decide +kernel) (by decide) ?_
      refine xW_lv rfl (l := [(0, xR_ (x0)), (1, xR_ (x1)), (2, xI (x2)), (3, xI (x3)), (4, xI (xwr ((xush (xwr ((x4) + (x5))) (1)) + (1)))), (5, xI (x5))]) (xsb_of ⟨rfl, rfl, rfl, rfl, rfl, rfl, trivial⟩ (show [4, 6, 0, 1, 2, 3, 5].Nodup by decide)) ?_
      exact k73_50  hr9 hx2 hx3 (xin_wr _) hx5 h
def f73_9   (f : Nat) : Nat → Nat → Nat → Int → Int → Int → Int → xj_M → Option (Int × xj_M)
  | 0, _, _, _, _, _, _, _ => none
  | n + 1, x0, x1, x2, x3, x4, x5, M => f73_9b   (f73_9   f n) f x0 x1 x2 x3 x4 x5 M
theorem k73_9 {d f : Nat}     : ∀ {n : Nat} {x0 : Nat} {x1 : Nat} {x2 : Int} {x3 : Int} {x4 : Int} {x5 : Int} {M : xj_M} {R : Int × xj_M}, xin x2 → xin x3 → xin x4 → xin x5 → f73_9   f n x0 x1 x2 x3 x4 x5 M = some R → xW (d + 1) (none, d + 1, none) xr_73 (9, [(0, xR_ x0), (1, xR_ x1), (2, xI x2), (3, xI x3), (4, xI x4), (5, xI x5)], [], M) (xQi R) := by
  intro n
  induction n with
  | zero => intros; rename_i h; cases h
  | succ n ih => intros; rename_i h; exact k73_9b   ih (by assumption) (by assumption) (by assumption) (by assumption) h
def f73  (f : Nat) (a0 : Nat) (a1 : Nat) (a2 : Int) (a3 : Int) (M : xj_M) : Option (Int × xj_M) := ((xq_gi 5 1 (a0) M).bind fun v107 => f73_9   f f (a0) (a1) (a2) (a3) (0) (v107) M)
theorem k73 {d f : Nat}   {a0 : Nat} {a1 : Nat} {a2 : Int} {a3 : Int} {M : xj_M} {R : Int × xj_M} (ha2 : xin a2) (ha3 : xin a3) (h : f73  f a0 a1 a2 a3 M = some R) : xT (d + 2) 73 [xR_ a0, xR_ a1, xI a2, xI a3] M (xQi R) := by
  refine xT_m xr_73_e (X := (none, d + 1, none)) rfl (xa_1 (xR_cat _) (xa_1 (xR_cat _) (xa_1 (xI_cat _) (xa_1 (xI_cat _) xa_n)))) (by decide) ?_
  unfold f73 at h
  refine xe_iconst (n := 0) (by decide +kernel) rfl ?_
  refine xe_isr (ins := .istore 4) (len := 2) (i := 4) (by decide +kernel) rfl rfl rfl (by decide) (xk_k (show ¬ (0 : Nat) = 4 by decide) (Or.inl (show ¬ (0 + 1 : Nat) = 4 by decide)) (xk_k (show ¬ (1 : Nat) = 4 by decide) (Or.inl (show ¬ (1 + 1 : Nat) = 4 by decide)) (xk_k (show ¬ (2 : Nat) = 4 by decide) (Or.inl (show ¬ (2 + 1 : Nat) = 4 by decide)) (xk_k (show ¬ (3 : Nat) = 4 by decide) (Or.inr (xI_cat _)) xk_n)))) rfl ?_
  refine xe_alr (ins := .aload_n 0) (len := 1) (i := 0) (by decide +kernel) rfl rfl rfl rfl rfl ?_
  obtain ⟨v107, e108, h⟩ := xbnd h
  refine xs_gi (i := 23) (c := 5) (k := 1) (by decide +kernel) (by decide) (by decide +kernel) e108 rfl ?_
  refine xe_isr (ins := .istore 5) (len := 2) (i := 5) (by decide +kernel) rfl rfl rfl (by decide) (xk_k (show ¬ (4 : Nat) = 5 by decide) (Or.inr (xI_cat _)) (xk_k (show ¬ (0 : Nat) = 5 by decide) (Or.inl (show ¬ (0 + 1 : Nat) = 5 by decide)) (xk_k (show ¬ (1 : Nat) = 5 by decide) (Or.inl (show ¬ (1 + 1 : Nat) = 5 by decide)) (xk_k (show ¬ (2 : Nat) = 5 by decide) (Or.inl (show ¬ (2 + 1 : Nat) = 5 by decide)) (xk_k (show ¬ (3 : Nat) = 5 by decide) (Or.inl (show ¬ (3 + 1 : Nat) = 5 by decide)) xk_n))))) rfl ?_
  refine xW_lv rfl (l := [(0, xR_ (a0)), (1, xR_ (a1)), (2, xI (a2)), (3, xI (a3)), (4, xI (0)), (5, xI (v107))]) (xsb_of ⟨rfl, rfl, rfl, rfl, rfl, rfl, trivial⟩ (show [5, 4, 0, 1, 2, 3].Nodup by decide)) ?_
  exact k73_9   ha2 ha3 (show xin (0) by decide) (xq_gi_in e108) h
-- ChangeHouse$Rows.find
def xr_74 : xj_mR := (5, yX5_find, cX5_find, 3, (Option.some Jvm.ClassFile.FieldType.int), 1, false, (6, 105), (1, 6))
set_option maxRecDepth 20000 in
theorem xr_74_e : xj_row 74 = some xr_74 := rfl
def f74_39   (f : Nat) (y0 : Int) (M : xj_M) : Option (Int × xj_M) := (some (y0, M))
theorem k74_39 {d f : Nat}     {y0 : Int} {M : xj_M} {R : Int × xj_M} (hy0 : xin y0) (h : f74_39   f y0 M = some R) : xW (d + 2) (none, d + 2, none) xr_74 (39, [], [xI y0], M) (xQi R) := by
  unfold f74_39 at h
  cases h
  exact xe_ret_i (ty := .int) (by decide +kernel) rfl rfl ⟨rfl, rfl, hy0⟩
def f74_36   (f : Nat) (x2 : Int) (M : xj_M) : Option (Int × xj_M) := f74_39   f (xwr ((-1) - (x2))) M
theorem k74_36 {d f : Nat}     {x2 : Int} {M : xj_M} {R : Int × xj_M} (hx2 : xin x2) (h : f74_36   f x2 M = some R) : xW (d + 2) (none, d + 2, none) xr_74 (36, [(2, xI x2)], [], M) (xQi R) := by
  unfold f74_36 at h
  refine xe_iconst (n := -1) (by decide +kernel) rfl ?_
  refine xe_ldn (ins := .iload_n 2) (len := 1) (by decide +kernel) rfl rfl rfl rfl ?_
  refine xe_isub (by decide +kernel) rfl ?_
  refine xW_lv rfl (l := []) (xsb_of trivial (show [2].Nodup by decide)) ?_
  exact k74_39   (xin_wr _) h
def f74  (f : Nat) (a0 : Nat) (a1 : Nat) (M : xj_M) : Option (Int × xj_M) := ((xq_gi 5 0 (a0) M).bind fun v101 => ((xq_is 5 (a0) M).bind fun _ => ((f73  f (a0) (a1) (v101) (0) M).bind fun R105 => ((xq_gi 5 1 (a0) R105.2).bind fun v107 => (if (v107) ≤ (R105.1) then f74_36   f (R105.1) R105.2 else ((xq_gi 5 0 (a0) R105.2).bind fun v110 => ((xq_is 5 (a0) R105.2).bind fun _ => ((f71  f (a0) (R105.1) (a1) (v110) R105.2).bind fun R114 => (if ¬ (R114.1) = 0 then f74_36   f (R105.1) R114.2 else f74_39   f (R105.1) R114.2)))))))))
theorem k74 {d f : Nat}   {a0 : Nat} {a1 : Nat} {M : xj_M} {R : Int × xj_M}  (h : f74  f a0 a1 M = some R) : xT (d + 3) 74 [xR_ a0, xR_ a1] M (xQi R) := by
  refine xT_m xr_74_e (X := (none, d + 2, none)) rfl (xa_1 (xR_cat _) (xa_1 (xR_cat _) xa_n)) (by decide) ?_
  unfold f74 at h
  refine xe_alr (ins := .aload_n 0) (len := 1) (i := 0) (by decide +kernel) rfl rfl rfl rfl rfl ?_
  refine xe_alr (ins := .aload_n 1) (len := 1) (i := 1) (by decide +kernel) rfl rfl rfl rfl rfl ?_
  refine xe_alr (ins := .aload_n 0) (len := 1) (i := 0) (by decide +kernel) rfl rfl rfl rfl rfl ?_
  obtain ⟨v101, e102, h⟩ := xbnd h
  refine xs_gi (i := 9) (c := 5) (k := 0) (by decide +kernel) (by decide) (by decide +kernel) e102 rfl ?_
  refine xe_iconst (n := 0) (by decide +kernel) rfl ?_
  obtain ⟨_, e104, h⟩ := xbnd h
  obtain ⟨R105, e103, h⟩ := xbnd h
  refine xs_cv (i := 30) (j := 73) (ar := [xI (0), xI (v101), xR_ (a1)]) (rest := []) (r2 := xr_73) (by decide +kernel) (by decide +kernel) (by decide +kernel) xr_73_e rfl (by decide) (by decide) e104 ?_
  refine xc_i (k73 (d := d + 0)  (xq_gi_in e102) (show xin (0) by decide) e103) rfl (fun hi106 => ?_)
  refine xe_isr (ins := .istore_n 2) (len := 1) (i := 2) (by decide +kernel) rfl rfl rfl (by decide) (xk_k (show ¬ (0 : Nat) = 2 by decide) (Or.inl (show ¬ (0 + 1 : Nat) = 2 by decide)) (xk_k (show ¬ (1 : Nat) = 2 by decide) (Or.inr (xR_cat _)) xk_n)) rfl ?_
  refine xe_ldn (ins := .iload_n 2) (len := 1) (by decide +kernel) rfl rfl rfl rfl ?_
  refine xe_alr (ins := .aload_n 0) (len := 1) (i := 0) (by decide +kernel) rfl rfl rfl rfl rfl ?_
  obtain ⟨v107, e108, h⟩ := xbnd h
  refine xs_gi (i := 23) (c := 5) (k := 1) (by decide +kernel) (by decide) (by decide +kernel) e108 rfl ?_
  refine xe_icmpge (off := 20) (t := 36) (by decide +kernel) (by decide) rfl hi106 (xq_gi_in e108) (fun c109 => ?_) (fun c109 => ?_)
  · rw [if_pos c109] at h
    refine xW_lv rfl (l := [(2, xI (R105.1))]) (xsb_of ⟨rfl, trivial⟩ (show [2, 0, 1].Nodup by decide)) ?_
    exact k74_36   hi106 h
  · rw [if_neg c109] at h
    refine xe_alr (ins := .aload_n 0) (len := 1) (i := 0) (by decide +kernel) rfl rfl rfl rfl rfl ?_
    refine xe_ldn (ins := .iload_n 2) (len := 1) (by decide +kernel) rfl rfl rfl rfl ?_
    refine xe_alr (ins := .aload_n 1) (len := 1) (i := 1) (by decide +kernel) rfl rfl rfl rfl rfl ?_
    refine xe_alr (ins := .aload_n 0) (len := 1) (i := 0) (by decide +kernel) rfl rfl rfl rfl rfl ?_
    obtain ⟨v110, e111, h⟩ := xbnd h
    refine xs_gi (i := 9) (c := 5) (k := 0) (by decide +kernel) (by decide) (by decide +kernel) e111 rfl ?_
    obtain ⟨_, e113, h⟩ := xbnd h
    obtain ⟨R114, e112, h⟩ := xbnd h
    refine xs_cv (i := 26) (j := 71) (ar := [xI (v110), xR_ (a1), xI (R105.1)]) (rest := []) (r2 := xr_71) (by decide +kernel) (by decide +kernel) (by decide +kernel) xr_71_e rfl (by decide) (by decide) e113 ?_
    refine xc_i (k71 (d := d + 1)  hi106 (xq_gi_in e111) e112) rfl (fun hi115 => ?_)
    refine xe_ifne (off := 7) (t := 36) (by decide +kernel) (by decide) rfl hi115 (fun c116 => ?_) (fun c116 => ?_)
    · rw [if_pos c116] at h
      refine xW_lv rfl (l := [(2, xI (R105.1))]) (xsb_of ⟨rfl, trivial⟩ (show [2, 0, 1].Nodup by decide)) ?_
      exact k74_36   hi106 h
    · rw [if_neg c116] at h
      refine xe_ldn (ins := .iload_n 2) (len := 1) (by decide +kernel) rfl rfl rfl rfl ?_
      refine xe_goto (off := 6) (nx := 39) (by decide +kernel) (by decide) ?_
      refine xW_lv rfl (l := []) (xsb_of trivial (show [2, 0, 1].Nodup by decide)) ?_
      exact k74_39   hi106 h
-- ChangeHouse$Rows.findKey
def xr_75 : xj_mR := (5, yX5_findKey, cX5_findKey, 4, (Option.some Jvm.ClassFile.FieldType.int), 2, false, (6, 121), (1, 6))
set_option maxRecDepth 20000 in
theorem xr_75_e : xj_row 75 = some xr_75 := rfl
def f75_31   (f : Nat) (y0 : Int) (M : xj_M) : Option (Int × xj_M) := (some (y0, M))
theorem k75_31 {d f : Nat}     {y0 : Int} {M : xj_M} {R : Int × xj_M} (hy0 : xin y0) (h : f75_31   f y0 M = some R) : xW (d + 2) (none, d + 2, none) xr_75 (31, [], [xI y0], M) (xQi R) := by
  unfold f75_31 at h
  cases h
  exact xe_ret_i (ty := .int) (by decide +kernel) rfl rfl ⟨rfl, rfl, hy0⟩
def f75_30   (f : Nat)  (M : xj_M) : Option (Int × xj_M) := f75_31   f (-1) M
theorem k75_30 {d f : Nat}      {M : xj_M} {R : Int × xj_M}  (h : f75_30   f  M = some R) : xW (d + 2) (none, d + 2, none) xr_75 (30, [], [], M) (xQi R) := by
  unfold f75_30 at h
  refine xe_iconst (n := -1) (by decide +kernel) rfl ?_
  refine xW_lv rfl (l := []) (xsb_of trivial (show [].Nodup by decide)) ?_
  exact k75_31   (show xin (-1) by decide) h
def f75  (f : Nat) (a0 : Nat) (a1 : Nat) (a2 : Int) (M : xj_M) : Option (Int × xj_M) := ((xq_is 5 (a0) M).bind fun _ => ((f73  f (a0) (a1) (a2) (0) M).bind fun R103 => ((xq_gi 5 1 (a0) R103.2).bind fun v105 => (if (v105) ≤ (R103.1) then f75_30   f  R103.2 else ((xq_is 5 (a0) R103.2).bind fun _ => ((f71  f (a0) (R103.1) (a1) (a2) R103.2).bind fun R110 => (if ¬ (R110.1) = 0 then f75_30   f  R110.2 else f75_31   f (R103.1) R110.2)))))))
theorem k75 {d f : Nat}   {a0 : Nat} {a1 : Nat} {a2 : Int} {M : xj_M} {R : Int × xj_M} (ha2 : xin a2) (h : f75  f a0 a1 a2 M = some R) : xT (d + 3) 75 [xR_ a0, xR_ a1, xI a2] M (xQi R) := by
  refine xT_m xr_75_e (X := (none, d + 2, none)) rfl (xa_1 (xR_cat _) (xa_1 (xR_cat _) (xa_1 (xI_cat _) xa_n))) (by decide) ?_
  unfold f75 at h
  refine xe_alr (ins := .aload_n 0) (len := 1) (i := 0) (by decide +kernel) rfl rfl rfl rfl rfl ?_
  refine xe_alr (ins := .aload_n 1) (len := 1) (i := 1) (by decide +kernel) rfl rfl rfl rfl rfl ?_
  refine xe_ldn (ins := .iload_n 2) (len := 1) (by decide +kernel) rfl rfl rfl rfl ?_
  refine xe_iconst (n := 0) (by decide +kernel) rfl ?_
  obtain ⟨_, e102, h⟩ := xbnd h
  obtain ⟨R103, e101, h⟩ := xbnd h
  refine xs_cv (i := 30) (j := 73) (ar := [xI (0), xI (a2), xR_ (a1)]) (rest := []) (r2 := xr_73) (by decide +kernel) (by decide +kernel) (by decide +kernel) xr_73_e rfl (by decide) (by decide) e102 ?_
  refine xc_i (k73 (d := d + 0)  ha2 (show xin (0) by decide) e101) rfl (fun hi104 => ?_)
  refine xe_isr (ins := .istore_n 3) (len := 1) (i := 3) (by decide +kernel) rfl rfl rfl (by decide) (xk_k (show ¬ (0 : Nat) = 3 by decide) (Or.inl (show ¬ (0 + 1 : Nat) = 3 by decide)) (xk_k (show ¬ (1 : Nat) = 3 by decide) (Or.inl (show ¬ (1 + 1 : Nat) = 3 by decide)) (xk_k (show ¬ (2 : Nat) = 3 by decide) (Or.inr (xI_cat _)) xk_n))) rfl ?_
  refine xe_ldn (ins := .iload_n 3) (len := 1) (by decide +kernel) rfl rfl rfl rfl ?_
  refine xe_alr (ins := .aload_n 0) (len := 1) (i := 0) (by decide +kernel) rfl rfl rfl rfl rfl ?_
  obtain ⟨v105, e106, h⟩ := xbnd h
  refine xs_gi (i := 23) (c := 5) (k := 1) (by decide +kernel) (by decide) (by decide +kernel) e106 rfl ?_
  refine xe_icmpge (off := 17) (t := 30) (by decide +kernel) (by decide) rfl hi104 (xq_gi_in e106) (fun c107 => ?_) (fun c107 => ?_)
  · rw [if_pos c107] at h
    refine xW_lv rfl (l := []) (xsb_of trivial (show [3, 0, 1, 2].Nodup by decide)) ?_
    exact k75_30    h
  · rw [if_neg c107] at h
    refine xe_alr (ins := .aload_n 0) (len := 1) (i := 0) (by decide +kernel) rfl rfl rfl rfl rfl ?_
    refine xe_ldn (ins := .iload_n 3) (len := 1) (by decide +kernel) rfl rfl rfl rfl ?_
    refine xe_alr (ins := .aload_n 1) (len := 1) (i := 1) (by decide +kernel) rfl rfl rfl rfl rfl ?_
    refine xe_ldn (ins := .iload_n 2) (len := 1) (by decide +kernel) rfl rfl rfl rfl ?_
    obtain ⟨_, e109, h⟩ := xbnd h
    obtain ⟨R110, e108, h⟩ := xbnd h
    refine xs_cv (i := 26) (j := 71) (ar := [xI (a2), xR_ (a1), xI (R103.1)]) (rest := []) (r2 := xr_71) (by decide +kernel) (by decide +kernel) (by decide +kernel) xr_71_e rfl (by decide) (by decide) e109 ?_
    refine xc_i (k71 (d := d + 1)  hi104 ha2 e108) rfl (fun hi111 => ?_)
    refine xe_ifne (off := 7) (t := 30) (by decide +kernel) (by decide) rfl hi111 (fun c112 => ?_) (fun c112 => ?_)
    · rw [if_pos c112] at h
      refine xW_lv rfl (l := []) (xsb_of trivial (show [3, 0, 1, 2].Nodup by decide)) ?_
      exact k75_30    h
    · rw [if_neg c112] at h
      refine xe_ldn (ins := .iload_n 3) (len := 1) (by decide +kernel) rfl rfl rfl rfl ?_
      refine xe_goto (off := 4) (nx := 31) (by decide +kernel) (by decide) ?_
      refine xW_lv rfl (l := []) (xsb_of trivial (show [3, 0, 1, 2].Nodup by decide)) ?_
      exact k75_31   hi104 h
-- ChangeHouse$Rows.insert
def xr_76 : xj_mR := (5, yX5_insert, cX5_insert, 4, (Option.none : Option Jvm.ClassFile.FieldType), 3, false, (6, 125), (1, 6))
set_option maxRecDepth 20000 in
theorem xr_76_e : xj_row 76 = some xr_76 := rfl
def f76_24   (f : Nat)  (M : xj_M) : Option (xj_M) := (some M)
theorem k76_24 {d f : Nat}      {M : xj_M} {R : xj_M}  (h : f76_24   f  M = some R) : xW (d + 0) (none, d + 0, none) xr_76 (24, [], [], M) (xQv R) := by
  unfold f76_24 at h
  cases h
  exact xe_ret_v (by decide +kernel) rfl ⟨rfl, rfl⟩
def f76  (f : Nat) (a0 : Nat) (a1 : Int) (a2 : Nat) (a3 : Int) (M : xj_M) : Option (xj_M) := ((xq_gi 5 1 (a0) M).bind fun v101 => ((xq_gr 5 3 (a0) M).bind fun v103 => ((xq_ln (v103) M).bind fun v105 => (if (v105) ≤ (v101) then f76_24   f  M else (if (a1) < 0 then f76_24   f  M else ((xq_gi 5 1 (a0) M).bind fun v109 => (if (a1) ≤ (v109) then ((xq_gr 5 2 (a0) M).bind fun v112 => ((xq_gi 5 0 (a0) M).bind fun v114 => ((xq_gr 5 2 (a0) M).bind fun v116 => ((xq_gi 5 0 (a0) M).bind fun v118 => ((xq_gi 5 1 (a0) M).bind fun v120 => ((xq_gi 5 0 (a0) M).bind fun v122 => ((xq_cp (v112) (xwr ((a1) * (v114))) (v116) (xwr ((xwr ((a1) + (1))) * (v118))) (xwr ((xwr ((v120) - (a1))) * (v122))) M).bind fun M124 => ((xq_gr 5 3 (a0) M124).bind fun v126 => ((xq_gr 5 3 (a0) M124).bind fun v128 => ((xq_gi 5 1 (a0) M124).bind fun v130 => ((xq_cp (v126) (a1) (v128) (xwr ((a1) + (1))) (xwr ((v130) - (a1))) M124).bind fun M132 => ((xq_gr 5 2 (a0) M132).bind fun v134 => ((xq_gi 5 0 (a0) M132).bind fun v136 => ((xq_gi 5 0 (a0) M132).bind fun v138 => ((xq_cp (a2) (0) (v134) (xwr ((a1) * (v136))) (v138) M132).bind fun M140 => ((xq_gr 5 3 (a0) M140).bind fun v142 => ((xq_si (v142) (a1) (a3) M140).bind fun M144 => ((xq_gi 5 1 (a0) M144).bind fun v146 => ((xq_pi 5 1 (a0) (xwr ((v146) + (1))) M144).bind fun M148 => (some M148)))))))))))))))))))) else f76_24   f  M)))))))
theorem k76 {d f : Nat}   {a0 : Nat} {a1 : Int} {a2 : Nat} {a3 : Int} {M : xj_M} {R : xj_M} (ha1 : xin a1) (ha3 : xin a3) (h : f76  f a0 a1 a2 a3 M = some R) : xT (d + 1) 76 [xR_ a0, xI a1, xR_ a2, xI a3] M (xQv R) := by
  refine xT_m xr_76_e (X := (none, d + 0, none)) rfl (xa_1 (xR_cat _) (xa_1 (xI_cat _) (xa_1 (xR_cat _) (xa_1 (xI_cat _) xa_n)))) (by decide) ?_
  unfold f76 at h
  refine xe_alr (ins := .aload_n 0) (len := 1) (i := 0) (by decide +kernel) rfl rfl rfl rfl rfl ?_
  obtain ⟨v101, e102, h⟩ := xbnd h
  refine xs_gi (i := 23) (c := 5) (k := 1) (by decide +kernel) (by decide) (by decide +kernel) e102 rfl ?_
  refine xe_alr (ins := .aload_n 0) (len := 1) (i := 0) (by decide +kernel) rfl rfl rfl rfl rfl ?_
  obtain ⟨v103, e104, h⟩ := xbnd h
  refine xs_gr (i := 19) (c := 5) (k := 3) (by decide +kernel) (by decide) (by decide +kernel) e104 rfl ?_
  obtain ⟨v105, e106, h⟩ := xbnd h
  refine xs_alen rfl (by decide +kernel) e106 rfl ?_
  refine xe_icmpge (off := 15) (t := 24) (by decide +kernel) (by decide) rfl (xq_gi_in e102) (xq_ln_in e106) (fun c107 => ?_) (fun c107 => ?_)
  · rw [if_pos c107] at h
    refine xW_lv rfl (l := []) (xsb_of trivial (show [0, 1, 2, 3].Nodup by decide)) ?_
    exact k76_24    h
  · rw [if_neg c107] at h
    refine xe_ldn (ins := .iload_n 1) (len := 1) (by decide +kernel) rfl rfl rfl rfl ?_
    refine xe_iflt (off := 11) (t := 24) (by decide +kernel) (by decide) rfl ha1 (fun c108 => ?_) (fun c108 => ?_)
    · rw [if_pos c108] at h
      refine xW_lv rfl (l := []) (xsb_of trivial (show [0, 1, 2, 3].Nodup by decide)) ?_
      exact k76_24    h
    · rw [if_neg c108] at h
      refine xe_ldn (ins := .iload_n 1) (len := 1) (by decide +kernel) rfl rfl rfl rfl ?_
      refine xe_alr (ins := .aload_n 0) (len := 1) (i := 0) (by decide +kernel) rfl rfl rfl rfl rfl ?_
      obtain ⟨v109, e110, h⟩ := xbnd h
      refine xs_gi (i := 23) (c := 5) (k := 1) (by decide +kernel) (by decide) (by decide +kernel) e110 rfl ?_
      refine xe_icmple (off := 4) (t := 25) (by decide +kernel) (by decide) rfl ha1 (xq_gi_in e110) (fun c111 => ?_) (fun c111 => ?_)
      · rw [if_pos c111] at h
        refine xe_alr (ins := .aload_n 0) (len := 1) (i := 0) (by decide +kernel) rfl rfl rfl rfl rfl ?_
        obtain ⟨v112, e113, h⟩ := xbnd h
        refine xs_gr (i := 15) (c := 5) (k := 2) (by decide +kernel) (by decide) (by decide +kernel) e113 rfl ?_
        refine xe_ldn (ins := .iload_n 1) (len := 1) (by decide +kernel) rfl rfl rfl rfl ?_
        refine xe_alr (ins := .aload_n 0) (len := 1) (i := 0) (by decide +kernel) rfl rfl rfl rfl rfl ?_
        obtain ⟨v114, e115, h⟩ := xbnd h
        refine xs_gi (i := 9) (c := 5) (k := 0) (by decide +kernel) (by decide) (by decide +kernel) e115 rfl ?_
        refine xe_imul (by decide +kernel) rfl ?_
        refine xe_alr (ins := .aload_n 0) (len := 1) (i := 0) (by decide +kernel) rfl rfl rfl rfl rfl ?_
        obtain ⟨v116, e117, h⟩ := xbnd h
        refine xs_gr (i := 15) (c := 5) (k := 2) (by decide +kernel) (by decide) (by decide +kernel) e117 rfl ?_
        refine xe_ldn (ins := .iload_n 1) (len := 1) (by decide +kernel) rfl rfl rfl rfl ?_
        refine xe_iconst (n := 1) (by decide +kernel) rfl ?_
        refine xe_iadd (by decide +kernel) rfl ?_
        refine xe_alr (ins := .aload_n 0) (len := 1) (i := 0) (by decide +kernel) rfl rfl rfl rfl rfl ?_
        obtain ⟨v118, e119, h⟩ := xbnd h
        refine xs_gi (i := 9) (c := 5) (k := 0) (by decide +kernel) (by decide) (by decide +kernel) e119 rfl ?_
        refine xe_imul (by decide +kernel) rfl ?_
        refine xe_alr (ins := .aload_n 0) (len := 1) (i := 0) (by decide +kernel) rfl rfl rfl rfl rfl ?_
        obtain ⟨v120, e121, h⟩ := xbnd h
        refine xs_gi (i := 23) (c := 5) (k := 1) (by decide +kernel) (by decide) (by decide +kernel) e121 rfl ?_
        refine xe_ldn (ins := .iload_n 1) (len := 1) (by decide +kernel) rfl rfl rfl rfl ?_
        refine xe_isub (by decide +kernel) rfl ?_
        refine xe_alr (ins := .aload_n 0) (len := 1) (i := 0) (by decide +kernel) rfl rfl rfl rfl rfl ?_
        obtain ⟨v122, e123, h⟩ := xbnd h
        refine xs_gi (i := 9) (c := 5) (k := 0) (by decide +kernel) (by decide) (by decide +kernel) e123 rfl ?_
        refine xe_imul (by decide +kernel) rfl ?_
        obtain ⟨M124, e125, h⟩ := xbnd h
        refine xs_cp (i := 34) (j := 0) (by decide +kernel) (by decide +kernel) (xin_wr _) (xin_wr _) (xin_wr _) (by rfl) e125 rfl ?_
        refine xe_alr (ins := .aload_n 0) (len := 1) (i := 0) (by decide +kernel) rfl rfl rfl rfl rfl ?_
        obtain ⟨v126, e127, h⟩ := xbnd h
        refine xs_gr (i := 19) (c := 5) (k := 3) (by decide +kernel) (by decide) (by decide +kernel) e127 rfl ?_
        refine xe_ldn (ins := .iload_n 1) (len := 1) (by decide +kernel) rfl rfl rfl rfl ?_
        refine xe_alr (ins := .aload_n 0) (len := 1) (i := 0) (by decide +kernel) rfl rfl rfl rfl rfl ?_
        obtain ⟨v128, e129, h⟩ := xbnd h
        refine xs_gr (i := 19) (c := 5) (k := 3) (by decide +kernel) (by decide) (by decide +kernel) e129 rfl ?_
        refine xe_ldn (ins := .iload_n 1) (len := 1) (by decide +kernel) rfl rfl rfl rfl ?_
        refine xe_iconst (n := 1) (by decide +kernel) rfl ?_
        refine xe_iadd (by decide +kernel) rfl ?_
        refine xe_alr (ins := .aload_n 0) (len := 1) (i := 0) (by decide +kernel) rfl rfl rfl rfl rfl ?_
        obtain ⟨v130, e131, h⟩ := xbnd h
        refine xs_gi (i := 23) (c := 5) (k := 1) (by decide +kernel) (by decide) (by decide +kernel) e131 rfl ?_
        refine xe_ldn (ins := .iload_n 1) (len := 1) (by decide +kernel) rfl rfl rfl rfl ?_
        refine xe_isub (by decide +kernel) rfl ?_
        obtain ⟨M132, e133, h⟩ := xbnd h
        refine xs_cp (i := 34) (j := 0) (by decide +kernel) (by decide +kernel) ha1 (xin_wr _) (xin_wr _) (by rfl) e133 rfl ?_
        refine xe_alr (ins := .aload_n 2) (len := 1) (i := 2) (by decide +kernel) rfl rfl rfl rfl rfl ?_
        refine xe_iconst (n := 0) (by decide +kernel) rfl ?_
        refine xe_alr (ins := .aload_n 0) (len := 1) (i := 0) (by decide +kernel) rfl rfl rfl rfl rfl ?_
        obtain ⟨v134, e135, h⟩ := xbnd h
        refine xs_gr (i := 15) (c := 5) (k := 2) (by decide +kernel) (by decide) (by decide +kernel) e135 rfl ?_
        refine xe_ldn (ins := .iload_n 1) (len := 1) (by decide +kernel) rfl rfl rfl rfl ?_
        refine xe_alr (ins := .aload_n 0) (len := 1) (i := 0) (by decide +kernel) rfl rfl rfl rfl rfl ?_
        obtain ⟨v136, e137, h⟩ := xbnd h
        refine xs_gi (i := 9) (c := 5) (k := 0) (by decide +kernel) (by decide) (by decide +kernel) e137 rfl ?_
        refine xe_imul (by decide +kernel) rfl ?_
        refine xe_alr (ins := .aload_n 0) (len := 1) (i := 0) (by decide +kernel) rfl rfl rfl rfl rfl ?_
        obtain ⟨v138, e139, h⟩ := xbnd h
        refine xs_gi (i := 9) (c := 5) (k := 0) (by decide +kernel) (by decide) (by decide +kernel) e139 rfl ?_
        obtain ⟨M140, e141, h⟩ := xbnd h
        refine xs_cp (i := 34) (j := 0) (by decide +kernel) (by decide +kernel) (show xin (0) by decide) (xin_wr _) (xq_gi_in e139) (by rfl) e141 rfl ?_
        refine xe_alr (ins := .aload_n 0) (len := 1) (i := 0) (by decide +kernel) rfl rfl rfl rfl rfl ?_
        obtain ⟨v142, e143, h⟩ := xbnd h
        refine xs_gr (i := 19) (c := 5) (k := 3) (by decide +kernel) (by decide) (by decide +kernel) e143 rfl ?_
        refine xe_ldn (ins := .iload_n 1) (len := 1) (by decide +kernel) rfl rfl rfl rfl ?_
        refine xe_ldn (ins := .iload_n 3) (len := 1) (by decide +kernel) rfl rfl rfl rfl ?_
        obtain ⟨M144, e145, h⟩ := xbnd h
        refine xs_iast (by decide +kernel) ha1 e145 rfl ?_
        refine xe_alr (ins := .aload_n 0) (len := 1) (i := 0) (by decide +kernel) rfl rfl rfl rfl rfl ?_
        refine xe_dupr (by decide +kernel) rfl ?_
        obtain ⟨v146, e147, h⟩ := xbnd h
        refine xs_gi (i := 23) (c := 5) (k := 1) (by decide +kernel) (by decide) (by decide +kernel) e147 rfl ?_
        refine xe_iconst (n := 1) (by decide +kernel) rfl ?_
        refine xe_iadd (by decide +kernel) rfl ?_
        obtain ⟨M148, e149, h⟩ := xbnd h
        refine xs_p (i := 23) (c := 5) (k := 1) (by decide +kernel) (by decide +kernel) (by decide +kernel) e149 rfl ?_
        cases h
        exact xe_ret_v (by decide +kernel) rfl ⟨rfl, rfl⟩
      · rw [if_neg c111] at h
        refine xW_lv rfl (l := []) (xsb_of trivial (show [0, 1, 2, 3].Nodup by decide)) ?_
        exact k76_24    h
-- ChangeHouse$Rows.remove
def xr_77 : xj_mR := (5, yX5_remove, cX5_remove, 3, (Option.none : Option Jvm.ClassFile.FieldType), 1, false, (6, 117), (1, 6))
set_option maxRecDepth 20000 in
theorem xr_77_e : xj_row 77 = some xr_77 := rfl
def f77_12   (f : Nat)  (M : xj_M) : Option (xj_M) := (some M)
theorem k77_12 {d f : Nat}      {M : xj_M} {R : xj_M}  (h : f77_12   f  M = some R) : xW (d + 0) (none, d + 0, none) xr_77 (12, [], [], M) (xQv R) := by
  unfold f77_12 at h
  cases h
  exact xe_ret_v (by decide +kernel) rfl ⟨rfl, rfl⟩
def f77  (f : Nat) (a0 : Nat) (a1 : Int) (M : xj_M) : Option (xj_M) := (if (a1) < 0 then f77_12   f  M else ((xq_gi 5 1 (a0) M).bind fun v102 => (if (a1) < (v102) then ((xq_gi 5 1 (a0) M).bind fun v105 => ((xq_gr 5 2 (a0) M).bind fun v107 => ((xq_gi 5 0 (a0) M).bind fun v109 => ((xq_gr 5 2 (a0) M).bind fun v111 => ((xq_gi 5 0 (a0) M).bind fun v113 => ((xq_gi 5 0 (a0) M).bind fun v115 => ((xq_cp (v107) (xwr ((xwr ((a1) + (1))) * (v109))) (v111) (xwr ((a1) * (v113))) (xwr ((xwr ((xwr ((v105) - (a1))) - (1))) * (v115))) M).bind fun M117 => ((xq_gr 5 3 (a0) M117).bind fun v119 => ((xq_gr 5 3 (a0) M117).bind fun v121 => ((xq_cp (v119) (xwr ((a1) + (1))) (v121) (a1) (xwr ((xwr ((v105) - (a1))) - (1))) M117).bind fun M123 => ((xq_gi 5 1 (a0) M123).bind fun v125 => ((xq_pi 5 1 (a0) (xwr ((v125) - (1))) M123).bind fun M127 => (some M127))))))))))))) else f77_12   f  M)))
theorem k77 {d f : Nat}   {a0 : Nat} {a1 : Int} {M : xj_M} {R : xj_M} (ha1 : xin a1) (h : f77  f a0 a1 M = some R) : xT (d + 1) 77 [xR_ a0, xI a1] M (xQv R) := by
  refine xT_m xr_77_e (X := (none, d + 0, none)) rfl (xa_1 (xR_cat _) (xa_1 (xI_cat _) xa_n)) (by decide) ?_
  unfold f77 at h
  refine xe_ldn (ins := .iload_n 1) (len := 1) (by decide +kernel) rfl rfl rfl rfl ?_
  refine xe_iflt (off := 11) (t := 12) (by decide +kernel) (by decide) rfl ha1 (fun c101 => ?_) (fun c101 => ?_)
  · rw [if_pos c101] at h
    refine xW_lv rfl (l := []) (xsb_of trivial (show [0, 1].Nodup by decide)) ?_
    exact k77_12    h
  · rw [if_neg c101] at h
    refine xe_ldn (ins := .iload_n 1) (len := 1) (by decide +kernel) rfl rfl rfl rfl ?_
    refine xe_alr (ins := .aload_n 0) (len := 1) (i := 0) (by decide +kernel) rfl rfl rfl rfl rfl ?_
    obtain ⟨v102, e103, h⟩ := xbnd h
    refine xs_gi (i := 23) (c := 5) (k := 1) (by decide +kernel) (by decide) (by decide +kernel) e103 rfl ?_
    refine xe_icmplt (off := 4) (t := 13) (by decide +kernel) (by decide) rfl ha1 (xq_gi_in e103) (fun c104 => ?_) (fun c104 => ?_)
    · rw [if_pos c104] at h
      refine xe_alr (ins := .aload_n 0) (len := 1) (i := 0) (by decide +kernel) rfl rfl rfl rfl rfl ?_
      obtain ⟨v105, e106, h⟩ := xbnd h
      refine xs_gi (i := 23) (c := 5) (k := 1) (by decide +kernel) (by decide) (by decide +kernel) e106 rfl ?_
      refine xe_ldn (ins := .iload_n 1) (len := 1) (by decide +kernel) rfl rfl rfl rfl ?_
      refine xe_isub (by decide +kernel) rfl ?_
      refine xe_iconst (n := 1) (by decide +kernel) rfl ?_
      refine xe_isub (by decide +kernel) rfl ?_
      refine xe_isr (ins := .istore_n 2) (len := 1) (i := 2) (by decide +kernel) rfl rfl rfl (by decide) (xk_k (show ¬ (0 : Nat) = 2 by decide) (Or.inl (show ¬ (0 + 1 : Nat) = 2 by decide)) (xk_k (show ¬ (1 : Nat) = 2 by decide) (Or.inr (xI_cat _)) xk_n)) rfl ?_
      refine xe_alr (ins := .aload_n 0) (len := 1) (i := 0) (by decide +kernel) rfl rfl rfl rfl rfl ?_
      obtain ⟨v107, e108, h⟩ := xbnd h
      refine xs_gr (i := 15) (c := 5) (k := 2) (by decide +kernel) (by decide) (by decide +kernel) e108 rfl ?_
      refine xe_ldn (ins := .iload_n 1) (len := 1) (by decide +kernel) rfl rfl rfl rfl ?_
      refine xe_iconst (n := 1) (by decide +kernel) rfl ?_
      refine xe_iadd (by decide +kernel) rfl ?_
      refine xe_alr (ins := .aload_n 0) (len := 1) (i := 0) (by decide +kernel) rfl rfl rfl rfl rfl ?_
      obtain ⟨v109, e110, h⟩ := xbnd h
      refine xs_gi (i := 9) (c := 5) (k := 0) (by decide +kernel) (by decide) (by decide +kernel) e110 rfl ?_
      refine xe_imul (by decide +kernel) rfl ?_
      refine xe_alr (ins := .aload_n 0) (len := 1) (i := 0) (by decide +kernel) rfl rfl rfl rfl rfl ?_
      obtain ⟨v111, e112, h⟩ := xbnd h
      refine xs_gr (i := 15) (c := 5) (k := 2) (by decide +kernel) (by decide) (by decide +kernel) e112 rfl ?_
      refine xe_ldn (ins := .iload_n 1) (len := 1) (by decide +kernel) rfl rfl rfl rfl ?_
      refine xe_alr (ins := .aload_n 0) (len := 1) (i := 0) (by decide +kernel) rfl rfl rfl rfl rfl ?_
      obtain ⟨v113, e114, h⟩ := xbnd h
      refine xs_gi (i := 9) (c := 5) (k := 0) (by decide +kernel) (by decide) (by decide +kernel) e114 rfl ?_
      refine xe_imul (by decide +kernel) rfl ?_
      refine xe_ldn (ins := .iload_n 2) (len := 1) (by decide +kernel) rfl rfl rfl rfl ?_
      refine xe_alr (ins := .aload_n 0) (len := 1) (i := 0) (by decide +kernel) rfl rfl rfl rfl rfl ?_
      obtain ⟨v115, e116, h⟩ := xbnd h
      refine xs_gi (i := 9) (c := 5) (k := 0) (by decide +kernel) (by decide) (by decide +kernel) e116 rfl ?_
      refine xe_imul (by decide +kernel) rfl ?_
      obtain ⟨M117, e118, h⟩ := xbnd h
      refine xs_cp (i := 34) (j := 0) (by decide +kernel) (by decide +kernel) (xin_wr _) (xin_wr _) (xin_wr _) (by rfl) e118 rfl ?_
      refine xe_alr (ins := .aload_n 0) (len := 1) (i := 0) (by decide +kernel) rfl rfl rfl rfl rfl ?_
      obtain ⟨v119, e120, h⟩ := xbnd h
      refine xs_gr (i := 19) (c := 5) (k := 3) (by decide +kernel) (by decide) (by decide +kernel) e120 rfl ?_
      refine xe_ldn (ins := .iload_n 1) (len := 1) (by decide +kernel) rfl rfl rfl rfl ?_
      refine xe_iconst (n := 1) (by decide +kernel) rfl ?_
      refine xe_iadd (by decide +kernel) rfl ?_
      refine xe_alr (ins := .aload_n 0) (len := 1) (i := 0) (by decide +kernel) rfl rfl rfl rfl rfl ?_
      obtain ⟨v121, e122, h⟩ := xbnd h
      refine xs_gr (i := 19) (c := 5) (k := 3) (by decide +kernel) (by decide) (by decide +kernel) e122 rfl ?_
      refine xe_ldn (ins := .iload_n 1) (len := 1) (by decide +kernel) rfl rfl rfl rfl ?_
      refine xe_ldn (ins := .iload_n 2) (len := 1) (by decide +kernel) rfl rfl rfl rfl ?_
      obtain ⟨M123, e124, h⟩ := xbnd h
      refine xs_cp (i := 34) (j := 0) (by decide +kernel) (by decide +kernel) (xin_wr _) ha1 (xin_wr _) (by rfl) e124 rfl ?_
      refine xe_alr (ins := .aload_n 0) (len := 1) (i := 0) (by decide +kernel) rfl rfl rfl rfl rfl ?_
      refine xe_dupr (by decide +kernel) rfl ?_
      obtain ⟨v125, e126, h⟩ := xbnd h
      refine xs_gi (i := 23) (c := 5) (k := 1) (by decide +kernel) (by decide) (by decide +kernel) e126 rfl ?_
      refine xe_iconst (n := 1) (by decide +kernel) rfl ?_
      refine xe_isub (by decide +kernel) rfl ?_
      obtain ⟨M127, e128, h⟩ := xbnd h
      refine xs_p (i := 23) (c := 5) (k := 1) (by decide +kernel) (by decide +kernel) (by decide +kernel) e128 rfl ?_
      cases h
      exact xe_ret_v (by decide +kernel) rfl ⟨rfl, rfl⟩
    · rw [if_neg c104] at h
      refine xW_lv rfl (l := []) (xsb_of trivial (show [0, 1].Nodup by decide)) ?_
      exact k77_12    h
-- ChangeHouse$Rows.read
def xr_78 : xj_mR := (5, yX5_read, cX5_read, 3, (Option.none : Option Jvm.ClassFile.FieldType), 2, false, (7, 25), (1, 6))
set_option maxRecDepth 20000 in
theorem xr_78_e : xj_row 78 = some xr_78 := rfl
def f78  (f : Nat) (a0 : Nat) (a1 : Int) (a2 : Nat) (M : xj_M) : Option (xj_M) := ((xq_gr 5 2 (a0) M).bind fun v101 => ((xq_gi 5 0 (a0) M).bind fun v103 => ((xq_gi 5 0 (a0) M).bind fun v105 => ((xq_cp (v101) (xwr ((a1) * (v103))) (a2) (0) (v105) M).bind fun M107 => (some M107)))))
theorem k78 {d f : Nat}   {a0 : Nat} {a1 : Int} {a2 : Nat} {M : xj_M} {R : xj_M} (ha1 : xin a1) (h : f78  f a0 a1 a2 M = some R) : xT (d + 1) 78 [xR_ a0, xI a1, xR_ a2] M (xQv R) := by
  refine xT_m xr_78_e (X := (none, d + 0, none)) rfl (xa_1 (xR_cat _) (xa_1 (xI_cat _) (xa_1 (xR_cat _) xa_n))) (by decide) ?_
  unfold f78 at h
  refine xe_alr (ins := .aload_n 0) (len := 1) (i := 0) (by decide +kernel) rfl rfl rfl rfl rfl ?_
  obtain ⟨v101, e102, h⟩ := xbnd h
  refine xs_gr (i := 15) (c := 5) (k := 2) (by decide +kernel) (by decide) (by decide +kernel) e102 rfl ?_
  refine xe_ldn (ins := .iload_n 1) (len := 1) (by decide +kernel) rfl rfl rfl rfl ?_
  refine xe_alr (ins := .aload_n 0) (len := 1) (i := 0) (by decide +kernel) rfl rfl rfl rfl rfl ?_
  obtain ⟨v103, e104, h⟩ := xbnd h
  refine xs_gi (i := 9) (c := 5) (k := 0) (by decide +kernel) (by decide) (by decide +kernel) e104 rfl ?_
  refine xe_imul (by decide +kernel) rfl ?_
  refine xe_alr (ins := .aload_n 2) (len := 1) (i := 2) (by decide +kernel) rfl rfl rfl rfl rfl ?_
  refine xe_iconst (n := 0) (by decide +kernel) rfl ?_
  refine xe_alr (ins := .aload_n 0) (len := 1) (i := 0) (by decide +kernel) rfl rfl rfl rfl rfl ?_
  obtain ⟨v105, e106, h⟩ := xbnd h
  refine xs_gi (i := 9) (c := 5) (k := 0) (by decide +kernel) (by decide) (by decide +kernel) e106 rfl ?_
  obtain ⟨M107, e108, h⟩ := xbnd h
  refine xs_cp (i := 34) (j := 0) (by decide +kernel) (by decide +kernel) (xin_wr _) (show xin (0) by decide) (xq_gi_in e106) (by rfl) e108 rfl ?_
  cases h
  exact xe_ret_v (by decide +kernel) rfl ⟨rfl, rfl⟩
-- ChangeHouse$Rows.copyFrom
def xr_79 : xj_mR := (5, yX5_copyFrom, cX5_copyFrom, 2, (Option.none : Option Jvm.ClassFile.FieldType), 1, false, (6, 90), (1, 6))
set_option maxRecDepth 20000 in
theorem xr_79_e : xj_row 79 = some xr_79 := rfl
def f79  (f : Nat) (a0 : Nat) (a1 : Nat) (M : xj_M) : Option (xj_M) := ((xq_gi 5 0 (a1) M).bind fun v101 => ((xq_is 5 (a0) M).bind fun _ => ((f69  f (a0) (v101) M).bind fun M105 => ((xq_gi 5 1 (a1) M105).bind fun v107 => ((xq_gr 5 3 (a0) M105).bind fun v109 => ((xq_ln (v109) M105).bind fun v111 => ((xq_pi 5 1 (a0) (xmin (v107) (v111)) M105).bind fun M113 => ((xq_gr 5 2 (a1) M113).bind fun v115 => ((xq_gr 5 2 (a0) M113).bind fun v117 => ((xq_gi 5 1 (a0) M113).bind fun v119 => ((xq_gi 5 0 (a0) M113).bind fun v121 => ((xq_cp (v115) (0) (v117) (0) (xwr ((v119) * (v121))) M113).bind fun M123 => ((xq_gr 5 3 (a1) M123).bind fun v125 => ((xq_gr 5 3 (a0) M123).bind fun v127 => ((xq_gi 5 1 (a0) M123).bind fun v129 => ((xq_cp (v125) (0) (v127) (0) (v129) M123).bind fun M131 => (some M131)))))))))))))))))
theorem k79 {d f : Nat}   {a0 : Nat} {a1 : Nat} {M : xj_M} {R : xj_M}  (h : f79  f a0 a1 M = some R) : xT (d + 2) 79 [xR_ a0, xR_ a1] M (xQv R) := by
  refine xT_m xr_79_e (X := (none, d + 1, none)) rfl (xa_1 (xR_cat _) (xa_1 (xR_cat _) xa_n)) (by decide) ?_
  unfold f79 at h
  refine xe_alr (ins := .aload_n 0) (len := 1) (i := 0) (by decide +kernel) rfl rfl rfl rfl rfl ?_
  refine xe_alr (ins := .aload_n 1) (len := 1) (i := 1) (by decide +kernel) rfl rfl rfl rfl rfl ?_
  obtain ⟨v101, e102, h⟩ := xbnd h
  refine xs_gi (i := 9) (c := 5) (k := 0) (by decide +kernel) (by decide) (by decide +kernel) e102 rfl ?_
  obtain ⟨_, e104, h⟩ := xbnd h
  obtain ⟨M105, e103, h⟩ := xbnd h
  refine xs_cv (i := 40) (j := 69) (ar := [xI (v101)]) (rest := []) (r2 := xr_69) (by decide +kernel) (by decide +kernel) (by decide +kernel) xr_69_e rfl (by decide) (by decide) e104 ?_
  refine xc_v (k69 (d := d + 0)  (xq_gi_in e102) e103) rfl ?_
  refine xe_alr (ins := .aload_n 0) (len := 1) (i := 0) (by decide +kernel) rfl rfl rfl rfl rfl ?_
  refine xe_alr (ins := .aload_n 1) (len := 1) (i := 1) (by decide +kernel) rfl rfl rfl rfl rfl ?_
  obtain ⟨v107, e108, h⟩ := xbnd h
  refine xs_gi (i := 23) (c := 5) (k := 1) (by decide +kernel) (by decide) (by decide +kernel) e108 rfl ?_
  refine xe_alr (ins := .aload_n 0) (len := 1) (i := 0) (by decide +kernel) rfl rfl rfl rfl rfl ?_
  obtain ⟨v109, e110, h⟩ := xbnd h
  refine xs_gr (i := 19) (c := 5) (k := 3) (by decide +kernel) (by decide) (by decide +kernel) e110 rfl ?_
  obtain ⟨v111, e112, h⟩ := xbnd h
  refine xs_alen rfl (by decide +kernel) e112 rfl ?_
  refine xe_xmni (i := 44) (by decide +kernel) (by decide +kernel) (by decide +kernel) (by unfold xj_small; simp only [List.map_cons, List.map_nil, List.sum_cons, List.sum_nil, xR_cat, xI_cat, xZ_cat]; decide) rfl (xq_gi_in e108) (xq_ln_in e112) ?_
  obtain ⟨M113, e114, h⟩ := xbnd h
  refine xs_p (i := 23) (c := 5) (k := 1) (by decide +kernel) (by decide +kernel) (by decide +kernel) e114 rfl ?_
  refine xe_alr (ins := .aload_n 1) (len := 1) (i := 1) (by decide +kernel) rfl rfl rfl rfl rfl ?_
  obtain ⟨v115, e116, h⟩ := xbnd h
  refine xs_gr (i := 15) (c := 5) (k := 2) (by decide +kernel) (by decide) (by decide +kernel) e116 rfl ?_
  refine xe_iconst (n := 0) (by decide +kernel) rfl ?_
  refine xe_alr (ins := .aload_n 0) (len := 1) (i := 0) (by decide +kernel) rfl rfl rfl rfl rfl ?_
  obtain ⟨v117, e118, h⟩ := xbnd h
  refine xs_gr (i := 15) (c := 5) (k := 2) (by decide +kernel) (by decide) (by decide +kernel) e118 rfl ?_
  refine xe_iconst (n := 0) (by decide +kernel) rfl ?_
  refine xe_alr (ins := .aload_n 0) (len := 1) (i := 0) (by decide +kernel) rfl rfl rfl rfl rfl ?_
  obtain ⟨v119, e120, h⟩ := xbnd h
  refine xs_gi (i := 23) (c := 5) (k := 1) (by decide +kernel) (by decide) (by decide +kernel) e120 rfl ?_
  refine xe_alr (ins := .aload_n 0) (len := 1) (i := 0) (by decide +kernel) rfl rfl rfl rfl rfl ?_
  obtain ⟨v121, e122, h⟩ := xbnd h
  refine xs_gi (i := 9) (c := 5) (k := 0) (by decide +kernel) (by decide) (by decide +kernel) e122 rfl ?_
  refine xe_imul (by decide +kernel) rfl ?_
  obtain ⟨M123, e124, h⟩ := xbnd h
  refine xs_cp (i := 34) (j := 0) (by decide +kernel) (by decide +kernel) (show xin (0) by decide) (show xin (0) by decide) (xin_wr _) (by rfl) e124 rfl ?_
  refine xe_alr (ins := .aload_n 1) (len := 1) (i := 1) (by decide +kernel) rfl rfl rfl rfl rfl ?_
  obtain ⟨v125, e126, h⟩ := xbnd h
  refine xs_gr (i := 19) (c := 5) (k := 3) (by decide +kernel) (by decide) (by decide +kernel) e126 rfl ?_
  refine xe_iconst (n := 0) (by decide +kernel) rfl ?_
  refine xe_alr (ins := .aload_n 0) (len := 1) (i := 0) (by decide +kernel) rfl rfl rfl rfl rfl ?_
  obtain ⟨v127, e128, h⟩ := xbnd h
  refine xs_gr (i := 19) (c := 5) (k := 3) (by decide +kernel) (by decide) (by decide +kernel) e128 rfl ?_
  refine xe_iconst (n := 0) (by decide +kernel) rfl ?_
  refine xe_alr (ins := .aload_n 0) (len := 1) (i := 0) (by decide +kernel) rfl rfl rfl rfl rfl ?_
  obtain ⟨v129, e130, h⟩ := xbnd h
  refine xs_gi (i := 23) (c := 5) (k := 1) (by decide +kernel) (by decide) (by decide +kernel) e130 rfl ?_
  obtain ⟨M131, e132, h⟩ := xbnd h
  refine xs_cp (i := 34) (j := 0) (by decide +kernel) (by decide +kernel) (show xin (0) by decide) (show xin (0) by decide) (xq_gi_in e130) (by rfl) e132 rfl ?_
  cases h
  exact xe_ret_v (by decide +kernel) rfl ⟨rfl, rfl⟩
-- ChangeHouse$Rows.frozen
def xr_80 : xj_mR := (5, yX5_frozen, cX5_frozen, 2, (Option.some (Jvm.ClassFile.FieldType.object "ChangeHouse$Rows")), 0, false, (7, 45), (1, 6))
set_option maxRecDepth 20000 in
theorem xr_80_e : xj_row 80 = some xr_80 := rfl
def f80  (f : Nat) (a0 : Nat) (M : xj_M) : Option (Nat × xj_M) := ((xq_nw 5 M).bind fun p101 => ((xq_gi 5 0 (a0) p101.2).bind fun v103 => ((xq_gi 5 1 (a0) p101.2).bind fun v105 => ((f68  f (p101.1) (v103) (v105) p101.2).bind fun M108 => ((xq_is 5 (p101.1) M108).bind fun _ => ((f79  f (p101.1) (a0) M108).bind fun M112 => (some (p101.1, M112))))))))
theorem k80 {d f : Nat}   {a0 : Nat} {M : xj_M} {R : Nat × xj_M}  (h : f80  f a0 M = some R) : xT (d + 3) 80 [xR_ a0] M (yxQr R) := by
  refine xT_m xr_80_e (X := (none, d + 2, none)) rfl (xa_1 (xR_cat _) xa_n) (by decide) ?_
  unfold f80 at h
  obtain ⟨p101, e102, h⟩ := xbnd h
  refine xs_nw (i := 10) (ci := 5) (x := p101.1) (M1 := p101.2) (by decide +kernel) (by decide +kernel) e102 rfl ?_
  refine xe_dupr (by decide +kernel) rfl ?_
  refine xe_alr (ins := .aload_n 0) (len := 1) (i := 0) (by decide +kernel) rfl rfl rfl rfl rfl ?_
  obtain ⟨v103, e104, h⟩ := xbnd h
  refine xs_gi (i := 9) (c := 5) (k := 0) (by decide +kernel) (by decide) (by decide +kernel) e104 rfl ?_
  refine xe_alr (ins := .aload_n 0) (len := 1) (i := 0) (by decide +kernel) rfl rfl rfl rfl rfl ?_
  obtain ⟨v105, e106, h⟩ := xbnd h
  refine xs_gi (i := 23) (c := 5) (k := 1) (by decide +kernel) (by decide) (by decide +kernel) e106 rfl ?_
  obtain ⟨M108, e107, h⟩ := xbnd h
  refine xs_ci (kd := 1) (by decide) (i := 50) (j := 68) (ar := [xI (v105), xI (v103)]) (rest := [xR_ (p101.1)]) (r2 := xr_68) (by decide +kernel) (by decide +kernel) xr_68_e rfl rfl (by simp only [List.map_cons, List.map_nil, List.sum_cons, List.sum_nil, xR_cat, xI_cat, xZ_cat]; decide) (xq_nw_ne e102) ?_
  refine xc_v (k68 (d := d + 1)  (xq_gi_in e104) (xq_gi_in e106) e107) rfl ?_
  refine xe_asr (ins := .astore_n 1) (len := 1) (i := 1) (by decide +kernel) rfl rfl rfl (by decide) (xk_k (show ¬ (0 : Nat) = 1 by decide) (Or.inr (xR_cat _)) xk_n) rfl ?_
  refine xe_alr (ins := .aload_n 1) (len := 1) (i := 1) (by decide +kernel) rfl rfl rfl rfl rfl ?_
  refine xe_alr (ins := .aload_n 0) (len := 1) (i := 0) (by decide +kernel) rfl rfl rfl rfl rfl ?_
  obtain ⟨_, e111, h⟩ := xbnd h
  obtain ⟨M112, e110, h⟩ := xbnd h
  refine xs_cv (i := 53) (j := 79) (ar := [xR_ (a0)]) (rest := []) (r2 := xr_79) (by decide +kernel) (by decide +kernel) (by decide +kernel) xr_79_e rfl (by decide) (by decide) e111 ?_
  refine xc_v (k79 (d := d + 0)   e110) rfl ?_
  refine xe_alr (ins := .aload_n 1) (len := 1) (i := 1) (by decide +kernel) rfl rfl rfl rfl rfl ?_
  cases h
  exact xe_ret_r (by decide +kernel) rfl rfl ⟨rfl, rfl⟩
-- ChangeHouse$Rows.sameRows
def xr_81 : xj_mR := (5, yX5_sameRows, cX5_sameRows, 3, (Option.some Jvm.ClassFile.FieldType.boolean), 1, false, (6, 133), (1, 6))
set_option maxRecDepth 20000 in
theorem xr_81_e : xj_row 81 = some xr_81 := rfl
def f81_15b  (r15 : Nat → Nat → Int → xj_M → Option (Int × xj_M)) (f : Nat) (x0 : Nat) (x1 : Nat) (x2 : Int) (M : xj_M) : Option (Int × xj_M) := ((xq_gi 5 1 (x0) M).bind fun v101 => (if (v101) ≤ (x2) then (some (1, M)) else ((xq_gi 5 0 (x0) M).bind fun v104 => ((xq_is 5 (x0) M).bind fun _ => ((f72  f (x0) (x2) (x1) (x2) (v104) M).bind fun R108 => (if (R108.1) = 0 then r15 (x0) (x1) (xwr ((x2) + (1))) R108.2 else (some (0, R108.2))))))))
theorem k81_15b {d f : Nat}  {r15 : Nat → Nat → Int → xj_M → Option (Int × xj_M)}  (hr15 : ∀ {x0 : Nat} {x1 : Nat} {x2 : Int} {M : xj_M} {R : Int × xj_M}, xin x2 → r15 x0 x1 x2 M = some R → xW (d + 1) (none, d + 1, none) xr_81 (15, [(0, xR_ x0), (1, xR_ x1), (2, xI x2)], [], M) (xQi R)) {x0 : Nat} {x1 : Nat} {x2 : Int} {M : xj_M} {R : Int × xj_M} (hx2 : xin x2) (h : f81_15b  r15 f x0 x1 x2 M = some R) : xW (d + 1) (none, d + 1, none) xr_81 (15, [(0, xR_ x0), (1, xR_ x1), (2, xI x2)], [], M) (xQi R) := by
  unfold f81_15b at h
  refine xe_ldn (ins := .iload_n 2) (len := 1) (by decide +kernel) rfl rfl rfl rfl ?_
  refine xe_alr (ins := .aload_n 0) (len := 1) (i := 0) (by decide +kernel) rfl rfl rfl rfl rfl ?_
  obtain ⟨v101, e102, h⟩ := xbnd h
  refine xs_gi (i := 23) (c := 5) (k := 1) (by decide +kernel) (by decide) (by decide +kernel) e102 rfl ?_
  refine xe_icmpge (off := 25) (t := 45) (by decide +kernel) (by decide) rfl hx2 (xq_gi_in e102) (fun c103 => ?_) (fun c103 => ?_)
  · rw [if_pos c103] at h
    refine xe_iconst (n := 1) (by decide +kernel) rfl ?_
    cases h
    exact xe_ret_i (ty := .boolean) (by decide +kernel) rfl (by decide) ⟨rfl, rfl, (show xin (1) by decide)⟩
  · rw [if_neg c103] at h
    refine xe_alr (ins := .aload_n 0) (len := 1) (i := 0) (by decide +kernel) rfl rfl rfl rfl rfl ?_
    refine xe_ldn (ins := .iload_n 2) (len := 1) (by decide +kernel) rfl rfl rfl rfl ?_
    refine xe_alr (ins := .aload_n 1) (len := 1) (i := 1) (by decide +kernel) rfl rfl rfl rfl rfl ?_
    refine xe_ldn (ins := .iload_n 2) (len := 1) (by decide +kernel) rfl rfl rfl rfl ?_
    refine xe_alr (ins := .aload_n 0) (len := 1) (i := 0) (by decide +kernel) rfl rfl rfl rfl rfl ?_
    obtain ⟨v104, e105, h⟩ := xbnd h
    refine xs_gi (i := 9) (c := 5) (k := 0) (by decide +kernel) (by decide) (by decide +kernel) e105 rfl ?_
    obtain ⟨_, e107, h⟩ := xbnd h
    obtain ⟨R108, e106, h⟩ := xbnd h
    refine xs_cv (i := 57) (j := 72) (ar := [xI (v104), xI (x2), xR_ (x1), xI (x2)]) (rest := []) (r2 := xr_72) (by decide +kernel) (by decide +kernel) (by decide +kernel) xr_72_e rfl (by decide) (by decide) e107 ?_
    refine xc_i (k72 (d := d + 0)  hx2 hx2 (xq_gi_in e105) e106) rfl (fun hi109 => ?_)
    refine xe_ifeq (off := 5) (t := 39) (by decide +kernel) (by decide) rfl hi109 (fun c110 => ?_) (fun c110 => ?_)
    · rw [if_pos c110] at h
      refine xe_iincr (i := 2) (n := 1) (by decide +kernel) (by decide) rfl (xk_k (show ¬ (0 : Nat) = 2 by decide) (Or.inl (show ¬ (0 + 1 : Nat) = 2 by decide)) (xk_k (show ¬ (1 : Nat) = 2 by decide) (Or.inr (xR_cat _)) (xk_d rfl xk_n))) rfl ?_
      refine xe_goto (off := -27) (nx := 15) (by decide +kernel) (by decide) ?_
      refine xW_lv rfl (l := [(0, xR_ (x0)), (1, xR_ (x1)), (2, xI (xwr ((x2) + (1))))]) (xsb_of ⟨rfl, rfl, rfl, trivial⟩ (show [2, 0, 1].Nodup by decide)) ?_
      exact hr15 (xin_wr _) h
    · rw [if_neg c110] at h
      refine xe_iconst (n := 0) (by decide +kernel) rfl ?_
      cases h
      exact xe_ret_i (ty := .boolean) (by decide +kernel) rfl (by decide) ⟨rfl, rfl, (show xin (0) by decide)⟩
def f81_15   (f : Nat) : Nat → Nat → Nat → Int → xj_M → Option (Int × xj_M)
  | 0, _, _, _, _ => none
  | n + 1, x0, x1, x2, M => f81_15b   (f81_15   f n) f x0 x1 x2 M
theorem k81_15 {d f : Nat}     : ∀ {n : Nat} {x0 : Nat} {x1 : Nat} {x2 : Int} {M : xj_M} {R : Int × xj_M}, xin x2 → f81_15   f n x0 x1 x2 M = some R → xW (d + 1) (none, d + 1, none) xr_81 (15, [(0, xR_ x0), (1, xR_ x1), (2, xI x2)], [], M) (xQi R) := by
  intro n
  induction n with
  | zero => intros; rename_i h; cases h
  | succ n ih => intros; rename_i h; exact k81_15b   ih (by assumption) h
def f81  (f : Nat) (a0 : Nat) (a1 : Nat) (M : xj_M) : Option (Int × xj_M) := ((xq_gi 5 1 (a0) M).bind fun v111 => ((xq_gi 5 1 (a1) M).bind fun v113 => (if (v111) = (v113) then f81_15   f f (a0) (a1) (0) M else (some (0, M)))))
theorem k81 {d f : Nat}   {a0 : Nat} {a1 : Nat} {M : xj_M} {R : Int × xj_M}  (h : f81  f a0 a1 M = some R) : xT (d + 2) 81 [xR_ a0, xR_ a1] M (xQi R) := by
  refine xT_m xr_81_e (X := (none, d + 1, none)) rfl (xa_1 (xR_cat _) (xa_1 (xR_cat _) xa_n)) (by decide) ?_
  unfold f81 at h
  refine xe_alr (ins := .aload_n 0) (len := 1) (i := 0) (by decide +kernel) rfl rfl rfl rfl rfl ?_
  obtain ⟨v111, e112, h⟩ := xbnd h
  refine xs_gi (i := 23) (c := 5) (k := 1) (by decide +kernel) (by decide) (by decide +kernel) e112 rfl ?_
  refine xe_alr (ins := .aload_n 1) (len := 1) (i := 1) (by decide +kernel) rfl rfl rfl rfl rfl ?_
  obtain ⟨v113, e114, h⟩ := xbnd h
  refine xs_gi (i := 23) (c := 5) (k := 1) (by decide +kernel) (by decide) (by decide +kernel) e114 rfl ?_
  refine xe_icmpeq (off := 5) (t := 13) (by decide +kernel) (by decide) rfl (xq_gi_in e112) (xq_gi_in e114) (fun c115 => ?_) (fun c115 => ?_)
  · rw [if_pos c115] at h
    refine xe_iconst (n := 0) (by decide +kernel) rfl ?_
    refine xe_isr (ins := .istore_n 2) (len := 1) (i := 2) (by decide +kernel) rfl rfl rfl (by decide) (xk_k (show ¬ (0 : Nat) = 2 by decide) (Or.inl (show ¬ (0 + 1 : Nat) = 2 by decide)) (xk_k (show ¬ (1 : Nat) = 2 by decide) (Or.inr (xR_cat _)) xk_n)) rfl ?_
    refine xW_lv rfl (l := [(0, xR_ (a0)), (1, xR_ (a1)), (2, xI (0))]) (xsb_of ⟨rfl, rfl, rfl, trivial⟩ (show [2, 0, 1].Nodup by decide)) ?_
    exact k81_15   (show xin (0) by decide) h
  · rw [if_neg c115] at h
    refine xe_iconst (n := 0) (by decide +kernel) rfl ?_
    cases h
    exact xe_ret_i (ty := .boolean) (by decide +kernel) rfl (by decide) ⟨rfl, rfl, (show xin (0) by decide)⟩
-- ChangeHouse$Rows.sameRanks
def xr_82 : xj_mR := (5, yX5_sameRanks, cX5_sameRanks, 3, (Option.some Jvm.ClassFile.FieldType.boolean), 1, false, (7, 41), (1, 6))
set_option maxRecDepth 20000 in
theorem xr_82_e : xj_row 82 = some xr_82 := rfl
def f82_33   (f : Nat)  (M : xj_M) : Option (Int × xj_M) := (some (0, M))
theorem k82_33 {d f : Nat}      {M : xj_M} {R : Int × xj_M}  (h : f82_33   f  M = some R) : xW (d + 0) (none, d + 0, none) xr_82 (33, [], [], M) (xQi R) := by
  unfold f82_33 at h
  refine xe_iconst (n := 0) (by decide +kernel) rfl ?_
  cases h
  exact xe_ret_i (ty := .boolean) (by decide +kernel) rfl (by decide) ⟨rfl, rfl, (show xin (0) by decide)⟩
def f82_2b  (r2 : Nat → Nat → Int → xj_M → Option (Int × xj_M)) (f : Nat) (x0 : Nat) (x1 : Nat) (x2 : Int) (M : xj_M) : Option (Int × xj_M) := ((xq_gi 5 1 (x0) M).bind fun v101 => (if (v101) ≤ (x2) then (some (1, M)) else ((xq_gi 5 1 (x1) M).bind fun v104 => (if (v104) ≤ (x2) then f82_33   f  M else ((xq_gr 5 3 (x0) M).bind fun v107 => ((xq_ai 3 (v107) (x2) M).bind fun v109 => ((xq_gr 5 3 (x1) M).bind fun v111 => ((xq_ai 3 (v111) (x2) M).bind fun v113 => (if (v109) = (v113) then r2 (x0) (x1) (xwr ((x2) + (1))) M else f82_33   f  M)))))))))
theorem k82_2b {d f : Nat}  {r2 : Nat → Nat → Int → xj_M → Option (Int × xj_M)}  (hr2 : ∀ {x0 : Nat} {x1 : Nat} {x2 : Int} {M : xj_M} {R : Int × xj_M}, xin x2 → r2 x0 x1 x2 M = some R → xW (d + 0) (none, d + 0, none) xr_82 (2, [(0, xR_ x0), (1, xR_ x1), (2, xI x2)], [], M) (xQi R)) {x0 : Nat} {x1 : Nat} {x2 : Int} {M : xj_M} {R : Int × xj_M} (hx2 : xin x2) (h : f82_2b  r2 f x0 x1 x2 M = some R) : xW (d + 0) (none, d + 0, none) xr_82 (2, [(0, xR_ x0), (1, xR_ x1), (2, xI x2)], [], M) (xQi R) := by
  unfold f82_2b at h
  refine xe_ldn (ins := .iload_n 2) (len := 1) (by decide +kernel) rfl rfl rfl rfl ?_
  refine xe_alr (ins := .aload_n 0) (len := 1) (i := 0) (by decide +kernel) rfl rfl rfl rfl rfl ?_
  obtain ⟨v101, e102, h⟩ := xbnd h
  refine xs_gi (i := 23) (c := 5) (k := 1) (by decide +kernel) (by decide) (by decide +kernel) e102 rfl ?_
  refine xe_icmpge (off := 34) (t := 41) (by decide +kernel) (by decide) rfl hx2 (xq_gi_in e102) (fun c103 => ?_) (fun c103 => ?_)
  · rw [if_pos c103] at h
    refine xe_iconst (n := 1) (by decide +kernel) rfl ?_
    cases h
    exact xe_ret_i (ty := .boolean) (by decide +kernel) rfl (by decide) ⟨rfl, rfl, (show xin (1) by decide)⟩
  · rw [if_neg c103] at h
    refine xe_ldn (ins := .iload_n 2) (len := 1) (by decide +kernel) rfl rfl rfl rfl ?_
    refine xe_alr (ins := .aload_n 1) (len := 1) (i := 1) (by decide +kernel) rfl rfl rfl rfl rfl ?_
    obtain ⟨v104, e105, h⟩ := xbnd h
    refine xs_gi (i := 23) (c := 5) (k := 1) (by decide +kernel) (by decide) (by decide +kernel) e105 rfl ?_
    refine xe_icmpge (off := 18) (t := 33) (by decide +kernel) (by decide) rfl hx2 (xq_gi_in e105) (fun c106 => ?_) (fun c106 => ?_)
    · rw [if_pos c106] at h
      refine xW_lv rfl (l := []) (xsb_of trivial (show [0, 1, 2].Nodup by decide)) ?_
      exact k82_33    h
    · rw [if_neg c106] at h
      refine xe_alr (ins := .aload_n 0) (len := 1) (i := 0) (by decide +kernel) rfl rfl rfl rfl rfl ?_
      obtain ⟨v107, e108, h⟩ := xbnd h
      refine xs_gr (i := 19) (c := 5) (k := 3) (by decide +kernel) (by decide) (by decide +kernel) e108 rfl ?_
      refine xe_ldn (ins := .iload_n 2) (len := 1) (by decide +kernel) rfl rfl rfl rfl ?_
      obtain ⟨v109, e110, h⟩ := xbnd h
      refine xs_iald rfl (by decide +kernel) hx2 e110 rfl ?_
      refine xe_alr (ins := .aload_n 1) (len := 1) (i := 1) (by decide +kernel) rfl rfl rfl rfl rfl ?_
      obtain ⟨v111, e112, h⟩ := xbnd h
      refine xs_gr (i := 19) (c := 5) (k := 3) (by decide +kernel) (by decide) (by decide +kernel) e112 rfl ?_
      refine xe_ldn (ins := .iload_n 2) (len := 1) (by decide +kernel) rfl rfl rfl rfl ?_
      obtain ⟨v113, e114, h⟩ := xbnd h
      refine xs_iald rfl (by decide +kernel) hx2 e114 rfl ?_
      refine xe_icmpeq (off := 5) (t := 35) (by decide +kernel) (by decide) rfl (xq_ai_in e110) (xq_ai_in e114) (fun c115 => ?_) (fun c115 => ?_)
      · rw [if_pos c115] at h
        refine xe_iincr (i := 2) (n := 1) (by decide +kernel) (by decide) rfl (xk_k (show ¬ (0 : Nat) = 2 by decide) (Or.inl (show ¬ (0 + 1 : Nat) = 2 by decide)) (xk_k (show ¬ (1 : Nat) = 2 by decide) (Or.inr (xR_cat _)) (xk_d rfl xk_n))) rfl ?_
        refine xe_goto (off := -36) (nx := 2) (by decide +kernel) (by decide) ?_
        refine xW_lv rfl (l := [(0, xR_ (x0)), (1, xR_ (x1)), (2, xI (xwr ((x2) + (1))))]) (xsb_of ⟨rfl, rfl, rfl, trivial⟩ (show [2, 0, 1].Nodup by decide)) ?_
        exact hr2 (xin_wr _) h
      · rw [if_neg c115] at h
        refine xW_lv rfl (l := []) (xsb_of trivial (show [0, 1, 2].Nodup by decide)) ?_
        exact k82_33    h
def f82_2   (f : Nat) : Nat → Nat → Nat → Int → xj_M → Option (Int × xj_M)
  | 0, _, _, _, _ => none
  | n + 1, x0, x1, x2, M => f82_2b   (f82_2   f n) f x0 x1 x2 M
theorem k82_2 {d f : Nat}     : ∀ {n : Nat} {x0 : Nat} {x1 : Nat} {x2 : Int} {M : xj_M} {R : Int × xj_M}, xin x2 → f82_2   f n x0 x1 x2 M = some R → xW (d + 0) (none, d + 0, none) xr_82 (2, [(0, xR_ x0), (1, xR_ x1), (2, xI x2)], [], M) (xQi R) := by
  intro n
  induction n with
  | zero => intros; rename_i h; cases h
  | succ n ih => intros; rename_i h; exact k82_2b   ih (by assumption) h
def f82  (f : Nat) (a0 : Nat) (a1 : Nat) (M : xj_M) : Option (Int × xj_M) := f82_2   f f (a0) (a1) (0) M
theorem k82 {d f : Nat}   {a0 : Nat} {a1 : Nat} {M : xj_M} {R : Int × xj_M}  (h : f82  f a0 a1 M = some R) : xT (d + 1) 82 [xR_ a0, xR_ a1] M (xQi R) := by
  refine xT_m xr_82_e (X := (none, d + 0, none)) rfl (xa_1 (xR_cat _) (xa_1 (xR_cat _) xa_n)) (by decide) ?_
  unfold f82 at h
  refine xe_iconst (n := 0) (by decide +kernel) rfl ?_
  refine xe_isr (ins := .istore_n 2) (len := 1) (i := 2) (by decide +kernel) rfl rfl rfl (by decide) (xk_k (show ¬ (0 : Nat) = 2 by decide) (Or.inl (show ¬ (0 + 1 : Nat) = 2 by decide)) (xk_k (show ¬ (1 : Nat) = 2 by decide) (Or.inr (xR_cat _)) xk_n)) rfl ?_
  refine xW_lv rfl (l := [(0, xR_ (a0)), (1, xR_ (a1)), (2, xI (0))]) (xsb_of ⟨rfl, rfl, rfl, trivial⟩ (show [2, 0, 1].Nodup by decide)) ?_
  exact k82_2   (show xin (0) by decide) h
-- ChangeHouse$Rows.differing
def xr_83 : xj_mR := (5, yX5_differing, cX5_differing, 5, (Option.some Jvm.ClassFile.FieldType.int), 1, false, (7, 52), (1, 6))
set_option maxRecDepth 20000 in
theorem xr_83_e : xj_row 83 = some xr_83 := rfl
def f83_74  (r7 : Nat → Nat → Int → Int → Int → xj_M → Option (Int × xj_M)) (f : Nat) (x0 : Nat) (x1 : Nat) (x3 : Int) (x4 : Int) (y0 : Int) (y1 : Int) (M : xj_M) : Option (Int × xj_M) := r7 (x0) (x1) (xwr ((y1) + (y0))) (x3) (xwr ((x4) + (1))) M
theorem k83_74 {d f : Nat}  {r7 : Nat → Nat → Int → Int → Int → xj_M → Option (Int × xj_M)}  (hr7 : ∀ {x0 : Nat} {x1 : Nat} {x2 : Int} {x3 : Int} {x4 : Int} {M : xj_M} {R : Int × xj_M}, xin x2 → xin x3 → xin x4 → r7 x0 x1 x2 x3 x4 M = some R → xW (d + 1) (none, d + 1, none) xr_83 (7, [(0, xR_ x0), (1, xR_ x1), (2, xI x2), (3, xI x3), (4, xI x4)], [], M) (xQi R)) {x0 : Nat} {x1 : Nat} {x3 : Int} {x4 : Int} {y0 : Int} {y1 : Int} {M : xj_M} {R : Int × xj_M} (hx3 : xin x3) (hx4 : xin x4) (hy0 : xin y0) (hy1 : xin y1) (h : f83_74  r7 f x0 x1 x3 x4 y0 y1 M = some R) : xW (d + 1) (none, d + 1, none) xr_83 (74, [(0, xR_ x0), (1, xR_ x1), (3, xI x3), (4, xI x4)], [xI y0, xI y1], M) (xQi R) := by
  unfold f83_74 at h
  refine xe_iadd (by decide +kernel) rfl ?_
  refine xe_isr (ins := .istore_n 2) (len := 1) (i := 2) (by decide +kernel) rfl rfl rfl (by decide) (xk_k (show ¬ (0 : Nat) = 2 by decide) (Or.inl (show ¬ (0 + 1 : Nat) = 2 by decide)) (xk_k (show ¬ (1 : Nat) = 2 by decide) (Or.inr (xR_cat _)) (xk_k (show ¬ (3 : Nat) = 2 by decide) (Or.inl (show ¬ (3 + 1 : Nat) = 2 by decide)) (xk_k (show ¬ (4 : Nat) = 2 by decide) (Or.inl (show ¬ (4 + 1 : Nat) = 2 by decide)) xk_n)))) rfl ?_
  refine xe_iincr (i := 4) (n := 1) (by decide +kernel) (by decide) rfl (xk_k (show ¬ (2 : Nat) = 4 by decide) (Or.inl (show ¬ (2 + 1 : Nat) = 4 by decide)) (xk_k (show ¬ (0 : Nat) = 4 by decide) (Or.inl (show ¬ (0 + 1 : Nat) = 4 by decide)) (xk_k (show ¬ (1 : Nat) = 4 by decide) (Or.inl (show ¬ (1 + 1 : Nat) = 4 by decide)) (xk_k (show ¬ (3 : Nat) = 4 by decide) (Or.inr (xI_cat _)) (xk_d rfl xk_n))))) rfl ?_
  refine xe_goto (off := -72) (nx := 7) (by decide +kernel) (by decide) ?_
  refine xW_lv rfl (l := [(0, xR_ (x0)), (1, xR_ (x1)), (2, xI (xwr ((y1) + (y0)))), (3, xI (x3)), (4, xI (xwr ((x4) + (1))))]) (xsb_of ⟨rfl, rfl, rfl, rfl, rfl, trivial⟩ (show [4, 2, 0, 1, 3].Nodup by decide)) ?_
  exact hr7 (xin_wr _) hx3 (xin_wr _) h
def f83_73  (r7 : Nat → Nat → Int → Int → Int → xj_M → Option (Int × xj_M)) (f : Nat) (x0 : Nat) (x1 : Nat) (x3 : Int) (x4 : Int) (y0 : Int) (M : xj_M) : Option (Int × xj_M) := f83_74  r7 f (x0) (x1) (x3) (x4) (0) (y0) M
theorem k83_73 {d f : Nat}  {r7 : Nat → Nat → Int → Int → Int → xj_M → Option (Int × xj_M)}  (hr7 : ∀ {x0 : Nat} {x1 : Nat} {x2 : Int} {x3 : Int} {x4 : Int} {M : xj_M} {R : Int × xj_M}, xin x2 → xin x3 → xin x4 → r7 x0 x1 x2 x3 x4 M = some R → xW (d + 1) (none, d + 1, none) xr_83 (7, [(0, xR_ x0), (1, xR_ x1), (2, xI x2), (3, xI x3), (4, xI x4)], [], M) (xQi R)) {x0 : Nat} {x1 : Nat} {x3 : Int} {x4 : Int} {y0 : Int} {M : xj_M} {R : Int × xj_M} (hx3 : xin x3) (hx4 : xin x4) (hy0 : xin y0) (h : f83_73  r7 f x0 x1 x3 x4 y0 M = some R) : xW (d + 1) (none, d + 1, none) xr_83 (73, [(0, xR_ x0), (1, xR_ x1), (3, xI x3), (4, xI x4)], [xI y0], M) (xQi R) := by
  unfold f83_73 at h
  refine xe_iconst (n := 0) (by decide +kernel) rfl ?_
  refine xW_lv rfl (l := [(0, xR_ (x0)), (1, xR_ (x1)), (3, xI (x3)), (4, xI (x4))]) (xsb_of ⟨rfl, rfl, rfl, rfl, trivial⟩ (show [0, 1, 3, 4].Nodup by decide)) ?_
  exact k83_74  hr7 hx3 hx4 (show xin (0) by decide) hy0 h
def f83_45  (r7 : Nat → Nat → Int → Int → Int → xj_M → Option (Int × xj_M)) (f : Nat) (x0 : Nat) (x1 : Nat) (x2 : Int) (x3 : Int) (x4 : Int) (M : xj_M) : Option (Int × xj_M) := ((xq_gi 5 1 (x1) M).bind fun v101 => (if (v101) ≤ (x3) then f83_73  r7 f (x0) (x1) (x3) (x4) (x2) M else ((xq_gi 5 0 (x0) M).bind fun v104 => ((xq_is 5 (x1) M).bind fun _ => ((f72  f (x1) (x3) (x0) (x4) (v104) M).bind fun R108 => (if ¬ (R108.1) = 0 then f83_73  r7 f (x0) (x1) (x3) (x4) (x2) R108.2 else f83_74  r7 f (x0) (x1) (x3) (x4) (1) (x2) R108.2))))))
theorem k83_45 {d f : Nat}  {r7 : Nat → Nat → Int → Int → Int → xj_M → Option (Int × xj_M)}  (hr7 : ∀ {x0 : Nat} {x1 : Nat} {x2 : Int} {x3 : Int} {x4 : Int} {M : xj_M} {R : Int × xj_M}, xin x2 → xin x3 → xin x4 → r7 x0 x1 x2 x3 x4 M = some R → xW (d + 1) (none, d + 1, none) xr_83 (7, [(0, xR_ x0), (1, xR_ x1), (2, xI x2), (3, xI x3), (4, xI x4)], [], M) (xQi R)) {x0 : Nat} {x1 : Nat} {x2 : Int} {x3 : Int} {x4 : Int} {M : xj_M} {R : Int × xj_M} (hx2 : xin x2) (hx3 : xin x3) (hx4 : xin x4) (h : f83_45  r7 f x0 x1 x2 x3 x4 M = some R) : xW (d + 1) (none, d + 1, none) xr_83 (45, [(0, xR_ x0), (1, xR_ x1), (2, xI x2), (3, xI x3), (4, xI x4)], [], M) (xQi R) := by
  unfold f83_45 at h
  refine xe_ldn (ins := .iload_n 2) (len := 1) (by decide +kernel) rfl rfl rfl rfl ?_
  refine xe_ldn (ins := .iload_n 3) (len := 1) (by decide +kernel) rfl rfl rfl rfl ?_
  refine xe_alr (ins := .aload_n 1) (len := 1) (i := 1) (by decide +kernel) rfl rfl rfl rfl rfl ?_
  obtain ⟨v101, e102, h⟩ := xbnd h
  refine xs_gi (i := 23) (c := 5) (k := 1) (by decide +kernel) (by decide) (by decide +kernel) e102 rfl ?_
  refine xe_icmpge (off := 22) (t := 73) (by decide +kernel) (by decide) rfl hx3 (xq_gi_in e102) (fun c103 => ?_) (fun c103 => ?_)
  · rw [if_pos c103] at h
    refine xW_lv rfl (l := [(0, xR_ (x0)), (1, xR_ (x1)), (3, xI (x3)), (4, xI (x4))]) (xsb_of ⟨rfl, rfl, rfl, rfl, trivial⟩ (show [0, 1, 2, 3, 4].Nodup by decide)) ?_
    exact k83_73  hr7 hx3 hx4 hx2 h
  · rw [if_neg c103] at h
    refine xe_alr (ins := .aload_n 1) (len := 1) (i := 1) (by decide +kernel) rfl rfl rfl rfl rfl ?_
    refine xe_ldn (ins := .iload_n 3) (len := 1) (by decide +kernel) rfl rfl rfl rfl ?_
    refine xe_alr (ins := .aload_n 0) (len := 1) (i := 0) (by decide +kernel) rfl rfl rfl rfl rfl ?_
    refine xe_ldn (ins := .iload 4) (len := 2) (by decide +kernel) rfl rfl rfl rfl ?_
    refine xe_alr (ins := .aload_n 0) (len := 1) (i := 0) (by decide +kernel) rfl rfl rfl rfl rfl ?_
    obtain ⟨v104, e105, h⟩ := xbnd h
    refine xs_gi (i := 9) (c := 5) (k := 0) (by decide +kernel) (by decide) (by decide +kernel) e105 rfl ?_
    obtain ⟨_, e107, h⟩ := xbnd h
    obtain ⟨R108, e106, h⟩ := xbnd h
    refine xs_cv (i := 57) (j := 72) (ar := [xI (v104), xI (x4), xR_ (x0), xI (x3)]) (rest := [xI (x2)]) (r2 := xr_72) (by decide +kernel) (by decide +kernel) (by decide +kernel) xr_72_e rfl (by decide) (by simp only [List.map_cons, List.map_nil, List.sum_cons, List.sum_nil, xR_cat, xI_cat, xZ_cat]; decide) e107 ?_
    refine xc_i (k72 (d := d + 0)  hx3 hx4 (xq_gi_in e105) e106) rfl (fun hi109 => ?_)
    refine xe_ifne (off := 7) (t := 73) (by decide +kernel) (by decide) rfl hi109 (fun c110 => ?_) (fun c110 => ?_)
    · rw [if_pos c110] at h
      refine xW_lv rfl (l := [(0, xR_ (x0)), (1, xR_ (x1)), (3, xI (x3)), (4, xI (x4))]) (xsb_of ⟨rfl, rfl, rfl, rfl, trivial⟩ (show [0, 1, 2, 3, 4].Nodup by decide)) ?_
      exact k83_73  hr7 hx3 hx4 hx2 h
    · rw [if_neg c110] at h
      refine xe_iconst (n := 1) (by decide +kernel) rfl ?_
      refine xe_goto (off := 4) (nx := 74) (by decide +kernel) (by decide) ?_
      refine xW_lv rfl (l := [(0, xR_ (x0)), (1, xR_ (x1)), (3, xI (x3)), (4, xI (x4))]) (xsb_of ⟨rfl, rfl, rfl, rfl, trivial⟩ (show [0, 1, 2, 3, 4].Nodup by decide)) ?_
      exact k83_74  hr7 hx3 hx4 (show xin (1) by decide) hx2 h
def f83_16b  (r7 : Nat → Nat → Int → Int → Int → xj_M → Option (Int × xj_M)) (r16 : Nat → Nat → Int → Int → Int → xj_M → Option (Int × xj_M)) (f : Nat) (x0 : Nat) (x1 : Nat) (x2 : Int) (x3 : Int) (x4 : Int) (M : xj_M) : Option (Int × xj_M) := ((xq_gi 5 1 (x1) M).bind fun v111 => (if (v111) ≤ (x3) then f83_45  r7 f (x0) (x1) (x2) (x3) (x4) M else ((xq_gi 5 0 (x0) M).bind fun v114 => ((xq_is 5 (x1) M).bind fun _ => ((f72  f (x1) (x3) (x0) (x4) (v114) M).bind fun R118 => (if 0 ≤ (R118.1) then f83_45  r7 f (x0) (x1) (x2) (x3) (x4) R118.2 else r16 (x0) (x1) (x2) (xwr ((x3) + (1))) (x4) R118.2))))))
theorem k83_16b {d f : Nat}  {r7 : Nat → Nat → Int → Int → Int → xj_M → Option (Int × xj_M)} {r16 : Nat → Nat → Int → Int → Int → xj_M → Option (Int × xj_M)}  (hr7 : ∀ {x0 : Nat} {x1 : Nat} {x2 : Int} {x3 : Int} {x4 : Int} {M : xj_M} {R : Int × xj_M}, xin x2 → xin x3 → xin x4 → r7 x0 x1 x2 x3 x4 M = some R → xW (d + 1) (none, d + 1, none) xr_83 (7, [(0, xR_ x0), (1, xR_ x1), (2, xI x2), (3, xI x3), (4, xI x4)], [], M) (xQi R)) (hr16 : ∀ {x0 : Nat} {x1 : Nat} {x2 : Int} {x3 : Int} {x4 : Int} {M : xj_M} {R : Int × xj_M}, xin x2 → xin x3 → xin x4 → r16 x0 x1 x2 x3 x4 M = some R → xW (d + 1) (none, d + 1, none) xr_83 (16, [(0, xR_ x0), (1, xR_ x1), (2, xI x2), (3, xI x3), (4, xI x4)], [], M) (xQi R)) {x0 : Nat} {x1 : Nat} {x2 : Int} {x3 : Int} {x4 : Int} {M : xj_M} {R : Int × xj_M} (hx2 : xin x2) (hx3 : xin x3) (hx4 : xin x4) (h : f83_16b  r7 r16 f x0 x1 x2 x3 x4 M = some R) : xW (d + 1) (none, d + 1, none) xr_83 (16, [(0, xR_ x0), (1, xR_ x1), (2, xI x2), (3, xI x3), (4, xI x4)], [], M) (xQi R) := by
  unfold f83_16b at h
  refine xe_ldn (ins := .iload_n 3) (len := 1) (by decide +kernel) rfl rfl rfl rfl ?_
  refine xe_alr (ins := .aload_n 1) (len := 1) (i := 1) (by decide +kernel) rfl rfl rfl rfl rfl ?_
  obtain ⟨v111, e112, h⟩ := xbnd h
  refine xs_gi (i := 23) (c := 5) (k := 1) (by decide +kernel) (by decide) (by decide +kernel) e112 rfl ?_
  refine xe_icmpge (off := 24) (t := 45) (by decide +kernel) (by decide) rfl hx3 (xq_gi_in e112) (fun c113 => ?_) (fun c113 => ?_)
  · rw [if_pos c113] at h
    refine xW_lv rfl (l := [(0, xR_ (x0)), (1, xR_ (x1)), (2, xI (x2)), (3, xI (x3)), (4, xI (x4))]) (xsb_of ⟨rfl, rfl, rfl, rfl, rfl, trivial⟩ (show [0, 1, 2, 3, 4].Nodup by decide)) ?_
    exact k83_45  hr7 hx2 hx3 hx4 h
  · rw [if_neg c113] at h
    refine xe_alr (ins := .aload_n 1) (len := 1) (i := 1) (by decide +kernel) rfl rfl rfl rfl rfl ?_
    refine xe_ldn (ins := .iload_n 3) (len := 1) (by decide +kernel) rfl rfl rfl rfl ?_
    refine xe_alr (ins := .aload_n 0) (len := 1) (i := 0) (by decide +kernel) rfl rfl rfl rfl rfl ?_
    refine xe_ldn (ins := .iload 4) (len := 2) (by decide +kernel) rfl rfl rfl rfl ?_
    refine xe_alr (ins := .aload_n 0) (len := 1) (i := 0) (by decide +kernel) rfl rfl rfl rfl rfl ?_
    obtain ⟨v114, e115, h⟩ := xbnd h
    refine xs_gi (i := 9) (c := 5) (k := 0) (by decide +kernel) (by decide) (by decide +kernel) e115 rfl ?_
    obtain ⟨_, e117, h⟩ := xbnd h
    obtain ⟨R118, e116, h⟩ := xbnd h
    refine xs_cv (i := 57) (j := 72) (ar := [xI (v114), xI (x4), xR_ (x0), xI (x3)]) (rest := []) (r2 := xr_72) (by decide +kernel) (by decide +kernel) (by decide +kernel) xr_72_e rfl (by decide) (by decide) e117 ?_
    refine xc_i (k72 (d := d + 0)  hx3 hx4 (xq_gi_in e115) e116) rfl (fun hi119 => ?_)
    refine xe_ifge (off := 9) (t := 45) (by decide +kernel) (by decide) rfl hi119 (fun c120 => ?_) (fun c120 => ?_)
    · rw [if_pos c120] at h
      refine xW_lv rfl (l := [(0, xR_ (x0)), (1, xR_ (x1)), (2, xI (x2)), (3, xI (x3)), (4, xI (x4))]) (xsb_of ⟨rfl, rfl, rfl, rfl, rfl, trivial⟩ (show [0, 1, 2, 3, 4].Nodup by decide)) ?_
      exact k83_45  hr7 hx2 hx3 hx4 h
    · rw [if_neg c120] at h
      refine xe_iincr (i := 3) (n := 1) (by decide +kernel) (by decide) rfl (xk_k (show ¬ (0 : Nat) = 3 by decide) (Or.inl (show ¬ (0 + 1 : Nat) = 3 by decide)) (xk_k (show ¬ (1 : Nat) = 3 by decide) (Or.inl (show ¬ (1 + 1 : Nat) = 3 by decide)) (xk_k (show ¬ (2 : Nat) = 3 by decide) (Or.inr (xI_cat _)) (xk_d rfl (xk_k (show ¬ (4 : Nat) = 3 by decide) (Or.inl (show ¬ (4 + 1 : Nat) = 3 by decide)) xk_n))))) rfl ?_
      refine xe_goto (off := -26) (nx := 16) (by decide +kernel) (by decide) ?_
      refine xW_lv rfl (l := [(0, xR_ (x0)), (1, xR_ (x1)), (2, xI (x2)), (3, xI (xwr ((x3) + (1)))), (4, xI (x4))]) (xsb_of ⟨rfl, rfl, rfl, rfl, rfl, trivial⟩ (show [3, 0, 1, 2, 4].Nodup by decide)) ?_
      exact hr16 hx2 (xin_wr _) hx4 h
def f83_16  (r7 : Nat → Nat → Int → Int → Int → xj_M → Option (Int × xj_M)) (f : Nat) : Nat → Nat → Nat → Int → Int → Int → xj_M → Option (Int × xj_M)
  | 0, _, _, _, _, _, _ => none
  | n + 1, x0, x1, x2, x3, x4, M => f83_16b  r7 (f83_16  r7 f n) f x0 x1 x2 x3 x4 M
theorem k83_16 {d f : Nat}  {r7 : Nat → Nat → Int → Int → Int → xj_M → Option (Int × xj_M)}  (hr7 : ∀ {x0 : Nat} {x1 : Nat} {x2 : Int} {x3 : Int} {x4 : Int} {M : xj_M} {R : Int × xj_M}, xin x2 → xin x3 → xin x4 → r7 x0 x1 x2 x3 x4 M = some R → xW (d + 1) (none, d + 1, none) xr_83 (7, [(0, xR_ x0), (1, xR_ x1), (2, xI x2), (3, xI x3), (4, xI x4)], [], M) (xQi R)) : ∀ {n : Nat} {x0 : Nat} {x1 : Nat} {x2 : Int} {x3 : Int} {x4 : Int} {M : xj_M} {R : Int × xj_M}, xin x2 → xin x3 → xin x4 → f83_16  r7 f n x0 x1 x2 x3 x4 M = some R → xW (d + 1) (none, d + 1, none) xr_83 (16, [(0, xR_ x0), (1, xR_ x1), (2, xI x2), (3, xI x3), (4, xI x4)], [], M) (xQi R) := by
  intro n
  induction n with
  | zero => intros; rename_i h; cases h
  | succ n ih => intros; rename_i h; exact k83_16b  hr7 ih (by assumption) (by assumption) (by assumption) h
def f83_7b  (r7 : Nat → Nat → Int → Int → Int → xj_M → Option (Int × xj_M)) (f : Nat) (x0 : Nat) (x1 : Nat) (x2 : Int) (x3 : Int) (x4 : Int) (M : xj_M) : Option (Int × xj_M) := ((xq_gi 5 1 (x0) M).bind fun v121 => (if (v121) ≤ (x4) then ((xq_gi 5 1 (x0) M).bind fun v124 => ((xq_gi 5 1 (x1) M).bind fun v126 => (some (xwr ((xwr ((v124) + (v126))) - (xwr ((2) * (x2)))), M)))) else f83_16  r7 f f (x0) (x1) (x2) (x3) (x4) M))
theorem k83_7b {d f : Nat}  {r7 : Nat → Nat → Int → Int → Int → xj_M → Option (Int × xj_M)}  (hr7 : ∀ {x0 : Nat} {x1 : Nat} {x2 : Int} {x3 : Int} {x4 : Int} {M : xj_M} {R : Int × xj_M}, xin x2 → xin x3 → xin x4 → r7 x0 x1 x2 x3 x4 M = some R → xW (d + 1) (none, d + 1, none) xr_83 (7, [(0, xR_ x0), (1, xR_ x1), (2, xI x2), (3, xI x3), (4, xI x4)], [], M) (xQi R)) {x0 : Nat} {x1 : Nat} {x2 : Int} {x3 : Int} {x4 : Int} {M : xj_M} {R : Int × xj_M} (hx2 : xin x2) (hx3 : xin x3) (hx4 : xin x4) (h : f83_7b  r7 f x0 x1 x2 x3 x4 M = some R) : xW (d + 1) (none, d + 1, none) xr_83 (7, [(0, xR_ x0), (1, xR_ x1), (2, xI x2), (3, xI x3), (4, xI x4)], [], M) (xQi R) := by
  unfold f83_7b at h
  refine xe_ldn (ins := .iload 4) (len := 2) (by decide +kernel) rfl rfl rfl rfl ?_
  refine xe_alr (ins := .aload_n 0) (len := 1) (i := 0) (by decide +kernel) rfl rfl rfl rfl rfl ?_
  obtain ⟨v121, e122, h⟩ := xbnd h
  refine xs_gi (i := 23) (c := 5) (k := 1) (by decide +kernel) (by decide) (by decide +kernel) e122 rfl ?_
  refine xe_icmpge (off := 69) (t := 82) (by decide +kernel) (by decide) rfl hx4 (xq_gi_in e122) (fun c123 => ?_) (fun c123 => ?_)
  · rw [if_pos c123] at h
    refine xe_alr (ins := .aload_n 0) (len := 1) (i := 0) (by decide +kernel) rfl rfl rfl rfl rfl ?_
    obtain ⟨v124, e125, h⟩ := xbnd h
    refine xs_gi (i := 23) (c := 5) (k := 1) (by decide +kernel) (by decide) (by decide +kernel) e125 rfl ?_
    refine xe_alr (ins := .aload_n 1) (len := 1) (i := 1) (by decide +kernel) rfl rfl rfl rfl rfl ?_
    obtain ⟨v126, e127, h⟩ := xbnd h
    refine xs_gi (i := 23) (c := 5) (k := 1) (by decide +kernel) (by decide) (by decide +kernel) e127 rfl ?_
    refine xe_iadd (by decide +kernel) rfl ?_
    refine xe_iconst (n := 2) (by decide +kernel) rfl ?_
    refine xe_ldn (ins := .iload_n 2) (len := 1) (by decide +kernel) rfl rfl rfl rfl ?_
    refine xe_imul (by decide +kernel) rfl ?_
    refine xe_isub (by decide +kernel) rfl ?_
    cases h
    exact xe_ret_i (ty := .int) (by decide +kernel) rfl rfl ⟨rfl, rfl, (xin_wr _)⟩
  · rw [if_neg c123] at h
    refine xW_lv rfl (l := [(0, xR_ (x0)), (1, xR_ (x1)), (2, xI (x2)), (3, xI (x3)), (4, xI (x4))]) (xsb_of ⟨rfl, rfl, rfl, rfl, rfl, trivial⟩ (show [0, 1, 2, 3, 4].Nodup by decide)) ?_
    exact k83_16  hr7 hx2 hx3 hx4 h
def f83_7   (f : Nat) : Nat → Nat → Nat → Int → Int → Int → xj_M → Option (Int × xj_M)
  | 0, _, _, _, _, _, _ => none
  | n + 1, x0, x1, x2, x3, x4, M => f83_7b   (f83_7   f n) f x0 x1 x2 x3 x4 M
theorem k83_7 {d f : Nat}     : ∀ {n : Nat} {x0 : Nat} {x1 : Nat} {x2 : Int} {x3 : Int} {x4 : Int} {M : xj_M} {R : Int × xj_M}, xin x2 → xin x3 → xin x4 → f83_7   f n x0 x1 x2 x3 x4 M = some R → xW (d + 1) (none, d + 1, none) xr_83 (7, [(0, xR_ x0), (1, xR_ x1), (2, xI x2), (3, xI x3), (4, xI x4)], [], M) (xQi R) := by
  intro n
  induction n with
  | zero => intros; rename_i h; cases h
  | succ n ih => intros; rename_i h; exact k83_7b   ih (by assumption) (by assumption) (by assumption) h
def f83  (f : Nat) (a0 : Nat) (a1 : Nat) (M : xj_M) : Option (Int × xj_M) := f83_7   f f (a0) (a1) (0) (0) (0) M
theorem k83 {d f : Nat}   {a0 : Nat} {a1 : Nat} {M : xj_M} {R : Int × xj_M}  (h : f83  f a0 a1 M = some R) : xT (d + 2) 83 [xR_ a0, xR_ a1] M (xQi R) := by
  refine xT_m xr_83_e (X := (none, d + 1, none)) rfl (xa_1 (xR_cat _) (xa_1 (xR_cat _) xa_n)) (by decide) ?_
  unfold f83 at h
  refine xe_iconst (n := 0) (by decide +kernel) rfl ?_
  refine xe_isr (ins := .istore_n 2) (len := 1) (i := 2) (by decide +kernel) rfl rfl rfl (by decide) (xk_k (show ¬ (0 : Nat) = 2 by decide) (Or.inl (show ¬ (0 + 1 : Nat) = 2 by decide)) (xk_k (show ¬ (1 : Nat) = 2 by decide) (Or.inr (xR_cat _)) xk_n)) rfl ?_
  refine xe_iconst (n := 0) (by decide +kernel) rfl ?_
  refine xe_isr (ins := .istore_n 3) (len := 1) (i := 3) (by decide +kernel) rfl rfl rfl (by decide) (xk_k (show ¬ (2 : Nat) = 3 by decide) (Or.inr (xI_cat _)) (xk_k (show ¬ (0 : Nat) = 3 by decide) (Or.inl (show ¬ (0 + 1 : Nat) = 3 by decide)) (xk_k (show ¬ (1 : Nat) = 3 by decide) (Or.inl (show ¬ (1 + 1 : Nat) = 3 by decide)) xk_n))) rfl ?_
  refine xe_iconst (n := 0) (by decide +kernel) rfl ?_
  refine xe_isr (ins := .istore 4) (len := 2) (i := 4) (by decide +kernel) rfl rfl rfl (by decide) (xk_k (show ¬ (3 : Nat) = 4 by decide) (Or.inr (xI_cat _)) (xk_k (show ¬ (2 : Nat) = 4 by decide) (Or.inl (show ¬ (2 + 1 : Nat) = 4 by decide)) (xk_k (show ¬ (0 : Nat) = 4 by decide) (Or.inl (show ¬ (0 + 1 : Nat) = 4 by decide)) (xk_k (show ¬ (1 : Nat) = 4 by decide) (Or.inl (show ¬ (1 + 1 : Nat) = 4 by decide)) xk_n)))) rfl ?_
  refine xW_lv rfl (l := [(0, xR_ (a0)), (1, xR_ (a1)), (2, xI (0)), (3, xI (0)), (4, xI (0))]) (xsb_of ⟨rfl, rfl, rfl, rfl, rfl, trivial⟩ (show [4, 3, 2, 0, 1].Nodup by decide)) ?_
  exact k83_7   (show xin (0) by decide) (show xin (0) by decide) (show xin (0) by decide) h
-- ChangeHouse$Rows.difference
def xr_84 : xj_mR := (5, yX5_difference, cX5_difference, 7, (Option.some Jvm.ClassFile.FieldType.int), 2, false, (8, 40), (1, 6))
set_option maxRecDepth 20000 in
theorem xr_84_e : xj_row 84 = some xr_84 := rfl
def f84_94   (f : Nat) (y0 : Int) (M : xj_M) : Option (Int × xj_M) := (some (y0, M))
theorem k84_94 {d f : Nat}     {y0 : Int} {M : xj_M} {R : Int × xj_M} (hy0 : xin y0) (h : f84_94   f y0 M = some R) : xW (d + 1) (none, d + 1, none) xr_84 (94, [], [xI y0], M) (xQi R) := by
  unfold f84_94 at h
  cases h
  exact xe_ret_i (ty := .int) (by decide +kernel) rfl rfl ⟨rfl, rfl, hy0⟩
def f84_135  (r8 : Nat → Nat → Int → Int → Int → xj_M → Option (Int × xj_M)) (f : Nat) (x0 : Nat) (x1 : Nat) (x3 : Int) (x4 : Int) (y0 : Int) (y1 : Int) (M : xj_M) : Option (Int × xj_M) := r8 (x0) (x1) (x3) (x4) (xwr ((y1) + (y0))) M
theorem k84_135 {d f : Nat}  {r8 : Nat → Nat → Int → Int → Int → xj_M → Option (Int × xj_M)}  (hr8 : ∀ {x0 : Nat} {x1 : Nat} {x3 : Int} {x4 : Int} {x5 : Int} {M : xj_M} {R : Int × xj_M}, xin x3 → xin x4 → xin x5 → r8 x0 x1 x3 x4 x5 M = some R → xW (d + 1) (none, d + 1, none) xr_84 (8, [(0, xR_ x0), (1, xR_ x1), (3, xI x3), (4, xI x4), (5, xI x5)], [], M) (xQi R)) {x0 : Nat} {x1 : Nat} {x3 : Int} {x4 : Int} {y0 : Int} {y1 : Int} {M : xj_M} {R : Int × xj_M} (hx3 : xin x3) (hx4 : xin x4) (hy0 : xin y0) (hy1 : xin y1) (h : f84_135  r8 f x0 x1 x3 x4 y0 y1 M = some R) : xW (d + 1) (none, d + 1, none) xr_84 (135, [(0, xR_ x0), (1, xR_ x1), (3, xI x3), (4, xI x4)], [xI y0, xI y1], M) (xQi R) := by
  unfold f84_135 at h
  refine xe_iadd (by decide +kernel) rfl ?_
  refine xe_isr (ins := .istore 5) (len := 2) (i := 5) (by decide +kernel) rfl rfl rfl (by decide) (xk_k (show ¬ (0 : Nat) = 5 by decide) (Or.inl (show ¬ (0 + 1 : Nat) = 5 by decide)) (xk_k (show ¬ (1 : Nat) = 5 by decide) (Or.inl (show ¬ (1 + 1 : Nat) = 5 by decide)) (xk_k (show ¬ (3 : Nat) = 5 by decide) (Or.inl (show ¬ (3 + 1 : Nat) = 5 by decide)) (xk_k (show ¬ (4 : Nat) = 5 by decide) (Or.inr (xI_cat _)) xk_n)))) rfl ?_
  refine xe_goto (off := -130) (nx := 8) (by decide +kernel) (by decide) ?_
  refine xW_lv rfl (l := [(0, xR_ (x0)), (1, xR_ (x1)), (3, xI (x3)), (4, xI (x4)), (5, xI (xwr ((y1) + (y0))))]) (xsb_of ⟨rfl, rfl, rfl, rfl, rfl, trivial⟩ (show [5, 0, 1, 3, 4].Nodup by decide)) ?_
  exact hr8 hx3 hx4 (xin_wr _) h
def f84_120  (r8 : Nat → Nat → Int → Int → Int → xj_M → Option (Int × xj_M)) (f : Nat) (x0 : Nat) (x1 : Nat) (x3 : Int) (x5 : Int) (x6 : Int) (y0 : Int) (y1 : Int) (M : xj_M) : Option (Int × xj_M) := (if (x6) < 0 then f84_135  r8 f (x0) (x1) (x3) (xwr ((y1) + (y0))) (0) (x5) M else f84_135  r8 f (x0) (x1) (x3) (xwr ((y1) + (y0))) (1) (x5) M)
theorem k84_120 {d f : Nat}  {r8 : Nat → Nat → Int → Int → Int → xj_M → Option (Int × xj_M)}  (hr8 : ∀ {x0 : Nat} {x1 : Nat} {x3 : Int} {x4 : Int} {x5 : Int} {M : xj_M} {R : Int × xj_M}, xin x3 → xin x4 → xin x5 → r8 x0 x1 x3 x4 x5 M = some R → xW (d + 1) (none, d + 1, none) xr_84 (8, [(0, xR_ x0), (1, xR_ x1), (3, xI x3), (4, xI x4), (5, xI x5)], [], M) (xQi R)) {x0 : Nat} {x1 : Nat} {x3 : Int} {x5 : Int} {x6 : Int} {y0 : Int} {y1 : Int} {M : xj_M} {R : Int × xj_M} (hx3 : xin x3) (hx5 : xin x5) (hx6 : xin x6) (hy0 : xin y0) (hy1 : xin y1) (h : f84_120  r8 f x0 x1 x3 x5 x6 y0 y1 M = some R) : xW (d + 1) (none, d + 1, none) xr_84 (120, [(0, xR_ x0), (1, xR_ x1), (3, xI x3), (5, xI x5), (6, xI x6)], [xI y0, xI y1], M) (xQi R) := by
  unfold f84_120 at h
  refine xe_iadd (by decide +kernel) rfl ?_
  refine xe_isr (ins := .istore 4) (len := 2) (i := 4) (by decide +kernel) rfl rfl rfl (by decide) (xk_k (show ¬ (0 : Nat) = 4 by decide) (Or.inl (show ¬ (0 + 1 : Nat) = 4 by decide)) (xk_k (show ¬ (1 : Nat) = 4 by decide) (Or.inl (show ¬ (1 + 1 : Nat) = 4 by decide)) (xk_k (show ¬ (3 : Nat) = 4 by decide) (Or.inr (xI_cat _)) (xk_k (show ¬ (5 : Nat) = 4 by decide) (Or.inl (show ¬ (5 + 1 : Nat) = 4 by decide)) (xk_k (show ¬ (6 : Nat) = 4 by decide) (Or.inl (show ¬ (6 + 1 : Nat) = 4 by decide)) xk_n))))) rfl ?_
  refine xe_ldn (ins := .iload 5) (len := 2) (by decide +kernel) rfl rfl rfl rfl ?_
  refine xe_ldn (ins := .iload 6) (len := 2) (by decide +kernel) rfl rfl rfl rfl ?_
  refine xe_iflt (off := 7) (t := 134) (by decide +kernel) (by decide) rfl hx6 (fun c101 => ?_) (fun c101 => ?_)
  · rw [if_pos c101] at h
    refine xe_iconst (n := 0) (by decide +kernel) rfl ?_
    refine xW_lv rfl (l := [(0, xR_ (x0)), (1, xR_ (x1)), (3, xI (x3)), (4, xI (xwr ((y1) + (y0))))]) (xsb_of ⟨rfl, rfl, rfl, rfl, trivial⟩ (show [4, 0, 1, 3, 5, 6].Nodup by decide)) ?_
    exact k84_135  hr8 hx3 (xin_wr _) (show xin (0) by decide) hx5 h
  · rw [if_neg c101] at h
    refine xe_iconst (n := 1) (by decide +kernel) rfl ?_
    refine xe_goto (off := 4) (nx := 135) (by decide +kernel) (by decide) ?_
    refine xW_lv rfl (l := [(0, xR_ (x0)), (1, xR_ (x1)), (3, xI (x3)), (4, xI (xwr ((y1) + (y0))))]) (xsb_of ⟨rfl, rfl, rfl, rfl, trivial⟩ (show [4, 0, 1, 3, 5, 6].Nodup by decide)) ?_
    exact k84_135  hr8 hx3 (xin_wr _) (show xin (1) by decide) hx5 h
def f84_106  (r8 : Nat → Nat → Int → Int → Int → xj_M → Option (Int × xj_M)) (f : Nat) (x0 : Nat) (x1 : Nat) (x4 : Int) (x5 : Int) (x6 : Int) (y0 : Int) (y1 : Int) (M : xj_M) : Option (Int × xj_M) := (if 0 < (x6) then f84_120  r8 f (x0) (x1) (xwr ((y1) - (y0))) (x5) (x6) (0) (x4) M else f84_120  r8 f (x0) (x1) (xwr ((y1) - (y0))) (x5) (x6) (1) (x4) M)
theorem k84_106 {d f : Nat}  {r8 : Nat → Nat → Int → Int → Int → xj_M → Option (Int × xj_M)}  (hr8 : ∀ {x0 : Nat} {x1 : Nat} {x3 : Int} {x4 : Int} {x5 : Int} {M : xj_M} {R : Int × xj_M}, xin x3 → xin x4 → xin x5 → r8 x0 x1 x3 x4 x5 M = some R → xW (d + 1) (none, d + 1, none) xr_84 (8, [(0, xR_ x0), (1, xR_ x1), (3, xI x3), (4, xI x4), (5, xI x5)], [], M) (xQi R)) {x0 : Nat} {x1 : Nat} {x4 : Int} {x5 : Int} {x6 : Int} {y0 : Int} {y1 : Int} {M : xj_M} {R : Int × xj_M} (hx4 : xin x4) (hx5 : xin x5) (hx6 : xin x6) (hy0 : xin y0) (hy1 : xin y1) (h : f84_106  r8 f x0 x1 x4 x5 x6 y0 y1 M = some R) : xW (d + 1) (none, d + 1, none) xr_84 (106, [(0, xR_ x0), (1, xR_ x1), (4, xI x4), (5, xI x5), (6, xI x6)], [xI y0, xI y1], M) (xQi R) := by
  unfold f84_106 at h
  refine xe_isub (by decide +kernel) rfl ?_
  refine xe_isr (ins := .istore_n 3) (len := 1) (i := 3) (by decide +kernel) rfl rfl rfl (by decide) (xk_k (show ¬ (0 : Nat) = 3 by decide) (Or.inl (show ¬ (0 + 1 : Nat) = 3 by decide)) (xk_k (show ¬ (1 : Nat) = 3 by decide) (Or.inl (show ¬ (1 + 1 : Nat) = 3 by decide)) (xk_k (show ¬ (4 : Nat) = 3 by decide) (Or.inl (show ¬ (4 + 1 : Nat) = 3 by decide)) (xk_k (show ¬ (5 : Nat) = 3 by decide) (Or.inl (show ¬ (5 + 1 : Nat) = 3 by decide)) (xk_k (show ¬ (6 : Nat) = 3 by decide) (Or.inl (show ¬ (6 + 1 : Nat) = 3 by decide)) xk_n))))) rfl ?_
  refine xe_ldn (ins := .iload 4) (len := 2) (by decide +kernel) rfl rfl rfl rfl ?_
  refine xe_ldn (ins := .iload 6) (len := 2) (by decide +kernel) rfl rfl rfl rfl ?_
  refine xe_ifgt (off := 7) (t := 119) (by decide +kernel) (by decide) rfl hx6 (fun c102 => ?_) (fun c102 => ?_)
  · rw [if_pos c102] at h
    refine xe_iconst (n := 0) (by decide +kernel) rfl ?_
    refine xW_lv rfl (l := [(0, xR_ (x0)), (1, xR_ (x1)), (3, xI (xwr ((y1) - (y0)))), (5, xI (x5)), (6, xI (x6))]) (xsb_of ⟨rfl, rfl, rfl, rfl, rfl, trivial⟩ (show [3, 0, 1, 4, 5, 6].Nodup by decide)) ?_
    exact k84_120  hr8 (xin_wr _) hx5 hx6 (show xin (0) by decide) hx4 h
  · rw [if_neg c102] at h
    refine xe_iconst (n := 1) (by decide +kernel) rfl ?_
    refine xe_goto (off := 4) (nx := 120) (by decide +kernel) (by decide) ?_
    refine xW_lv rfl (l := [(0, xR_ (x0)), (1, xR_ (x1)), (3, xI (xwr ((y1) - (y0)))), (5, xI (x5)), (6, xI (x6))]) (xsb_of ⟨rfl, rfl, rfl, rfl, rfl, trivial⟩ (show [3, 0, 1, 4, 5, 6].Nodup by decide)) ?_
    exact k84_120  hr8 (xin_wr _) hx5 hx6 (show xin (1) by decide) hx4 h
def f84_95  (r8 : Nat → Nat → Int → Int → Int → xj_M → Option (Int × xj_M)) (f : Nat) (x0 : Nat) (x1 : Nat) (x3 : Int) (x4 : Int) (x5 : Int) (x6 : Int) (M : xj_M) : Option (Int × xj_M) := (if (x6) = 0 then f84_106  r8 f (x0) (x1) (x4) (x5) (x6) (0) (x3) M else f84_106  r8 f (x0) (x1) (x4) (x5) (x6) (1) (x3) M)
theorem k84_95 {d f : Nat}  {r8 : Nat → Nat → Int → Int → Int → xj_M → Option (Int × xj_M)}  (hr8 : ∀ {x0 : Nat} {x1 : Nat} {x3 : Int} {x4 : Int} {x5 : Int} {M : xj_M} {R : Int × xj_M}, xin x3 → xin x4 → xin x5 → r8 x0 x1 x3 x4 x5 M = some R → xW (d + 1) (none, d + 1, none) xr_84 (8, [(0, xR_ x0), (1, xR_ x1), (3, xI x3), (4, xI x4), (5, xI x5)], [], M) (xQi R)) {x0 : Nat} {x1 : Nat} {x3 : Int} {x4 : Int} {x5 : Int} {x6 : Int} {M : xj_M} {R : Int × xj_M} (hx3 : xin x3) (hx4 : xin x4) (hx5 : xin x5) (hx6 : xin x6) (h : f84_95  r8 f x0 x1 x3 x4 x5 x6 M = some R) : xW (d + 1) (none, d + 1, none) xr_84 (95, [(0, xR_ x0), (1, xR_ x1), (3, xI x3), (4, xI x4), (5, xI x5), (6, xI x6)], [], M) (xQi R) := by
  unfold f84_95 at h
  refine xe_ldn (ins := .iload_n 3) (len := 1) (by decide +kernel) rfl rfl rfl rfl ?_
  refine xe_ldn (ins := .iload 6) (len := 2) (by decide +kernel) rfl rfl rfl rfl ?_
  refine xe_ifeq (off := 7) (t := 105) (by decide +kernel) (by decide) rfl hx6 (fun c103 => ?_) (fun c103 => ?_)
  · rw [if_pos c103] at h
    refine xe_iconst (n := 0) (by decide +kernel) rfl ?_
    refine xW_lv rfl (l := [(0, xR_ (x0)), (1, xR_ (x1)), (4, xI (x4)), (5, xI (x5)), (6, xI (x6))]) (xsb_of ⟨rfl, rfl, rfl, rfl, rfl, trivial⟩ (show [0, 1, 3, 4, 5, 6].Nodup by decide)) ?_
    exact k84_106  hr8 hx4 hx5 hx6 (show xin (0) by decide) hx3 h
  · rw [if_neg c103] at h
    refine xe_iconst (n := 1) (by decide +kernel) rfl ?_
    refine xe_goto (off := 4) (nx := 106) (by decide +kernel) (by decide) ?_
    refine xW_lv rfl (l := [(0, xR_ (x0)), (1, xR_ (x1)), (4, xI (x4)), (5, xI (x5)), (6, xI (x6))]) (xsb_of ⟨rfl, rfl, rfl, rfl, rfl, trivial⟩ (show [0, 1, 3, 4, 5, 6].Nodup by decide)) ?_
    exact k84_106  hr8 hx4 hx5 hx6 (show xin (1) by decide) hx3 h
def f84_65  (r8 : Nat → Nat → Int → Int → Int → xj_M → Option (Int × xj_M)) (f : Nat) (x0 : Nat) (x1 : Nat) (x3 : Int) (x4 : Int) (x5 : Int) (y0 : Int) (M : xj_M) : Option (Int × xj_M) := (if (y0) = 0 then f84_95  r8 f (x0) (x1) (x3) (x4) (x5) (y0) M else (if ¬ (x3) = 0 then f84_95  r8 f (x0) (x1) (x3) (x4) (x5) (y0) M else (if 0 ≤ (y0) then f84_94   f (xwr ((2) * (x5))) M else f84_94   f (xwr ((xwr ((2) * (x4))) + (1))) M)))
theorem k84_65 {d f : Nat}  {r8 : Nat → Nat → Int → Int → Int → xj_M → Option (Int × xj_M)}  (hr8 : ∀ {x0 : Nat} {x1 : Nat} {x3 : Int} {x4 : Int} {x5 : Int} {M : xj_M} {R : Int × xj_M}, xin x3 → xin x4 → xin x5 → r8 x0 x1 x3 x4 x5 M = some R → xW (d + 1) (none, d + 1, none) xr_84 (8, [(0, xR_ x0), (1, xR_ x1), (3, xI x3), (4, xI x4), (5, xI x5)], [], M) (xQi R)) {x0 : Nat} {x1 : Nat} {x3 : Int} {x4 : Int} {x5 : Int} {y0 : Int} {M : xj_M} {R : Int × xj_M} (hx3 : xin x3) (hx4 : xin x4) (hx5 : xin x5) (hy0 : xin y0) (h : f84_65  r8 f x0 x1 x3 x4 x5 y0 M = some R) : xW (d + 1) (none, d + 1, none) xr_84 (65, [(0, xR_ x0), (1, xR_ x1), (3, xI x3), (4, xI x4), (5, xI x5)], [xI y0], M) (xQi R) := by
  unfold f84_65 at h
  refine xe_isr (ins := .istore 6) (len := 2) (i := 6) (by decide +kernel) rfl rfl rfl (by decide) (xk_k (show ¬ (0 : Nat) = 6 by decide) (Or.inl (show ¬ (0 + 1 : Nat) = 6 by decide)) (xk_k (show ¬ (1 : Nat) = 6 by decide) (Or.inl (show ¬ (1 + 1 : Nat) = 6 by decide)) (xk_k (show ¬ (3 : Nat) = 6 by decide) (Or.inl (show ¬ (3 + 1 : Nat) = 6 by decide)) (xk_k (show ¬ (4 : Nat) = 6 by decide) (Or.inl (show ¬ (4 + 1 : Nat) = 6 by decide)) (xk_k (show ¬ (5 : Nat) = 6 by decide) (Or.inr (xI_cat _)) xk_n))))) rfl ?_
  refine xe_ldn (ins := .iload 6) (len := 2) (by decide +kernel) rfl rfl rfl rfl ?_
  refine xe_ifeq (off := 26) (t := 95) (by decide +kernel) (by decide) rfl hy0 (fun c104 => ?_) (fun c104 => ?_)
  · rw [if_pos c104] at h
    refine xW_lv rfl (l := [(0, xR_ (x0)), (1, xR_ (x1)), (3, xI (x3)), (4, xI (x4)), (5, xI (x5)), (6, xI (y0))]) (xsb_of ⟨rfl, rfl, rfl, rfl, rfl, rfl, trivial⟩ (show [6, 0, 1, 3, 4, 5].Nodup by decide)) ?_
    exact k84_95  hr8 hx3 hx4 hx5 hy0 h
  · rw [if_neg c104] at h
    refine xe_ldn (ins := .iload_n 3) (len := 1) (by decide +kernel) rfl rfl rfl rfl ?_
    refine xe_ifne (off := 22) (t := 95) (by decide +kernel) (by decide) rfl hx3 (fun c105 => ?_) (fun c105 => ?_)
    · rw [if_pos c105] at h
      refine xW_lv rfl (l := [(0, xR_ (x0)), (1, xR_ (x1)), (3, xI (x3)), (4, xI (x4)), (5, xI (x5)), (6, xI (y0))]) (xsb_of ⟨rfl, rfl, rfl, rfl, rfl, rfl, trivial⟩ (show [6, 0, 1, 3, 4, 5].Nodup by decide)) ?_
      exact k84_95  hr8 hx3 hx4 hx5 hy0 h
    · rw [if_neg c105] at h
      refine xe_ldn (ins := .iload 6) (len := 2) (by decide +kernel) rfl rfl rfl rfl ?_
      refine xe_ifge (off := 12) (t := 90) (by decide +kernel) (by decide) rfl hy0 (fun c106 => ?_) (fun c106 => ?_)
      · rw [if_pos c106] at h
        refine xe_iconst (n := 2) (by decide +kernel) rfl ?_
        refine xe_ldn (ins := .iload 5) (len := 2) (by decide +kernel) rfl rfl rfl rfl ?_
        refine xe_imul (by decide +kernel) rfl ?_
        refine xW_lv rfl (l := []) (xsb_of trivial (show [6, 0, 1, 3, 4, 5].Nodup by decide)) ?_
        exact k84_94   (xin_wr _) h
      · rw [if_neg c106] at h
        refine xe_iconst (n := 2) (by decide +kernel) rfl ?_
        refine xe_ldn (ins := .iload 4) (len := 2) (by decide +kernel) rfl rfl rfl rfl ?_
        refine xe_imul (by decide +kernel) rfl ?_
        refine xe_iconst (n := 1) (by decide +kernel) rfl ?_
        refine xe_iadd (by decide +kernel) rfl ?_
        refine xe_goto (off := 7) (nx := 94) (by decide +kernel) (by decide) ?_
        refine xW_lv rfl (l := []) (xsb_of trivial (show [6, 0, 1, 3, 4, 5].Nodup by decide)) ?_
        exact k84_94   (xin_wr _) h
def f84_26  (r8 : Nat → Nat → Int → Int → Int → xj_M → Option (Int × xj_M)) (f : Nat) (x0 : Nat) (x1 : Nat) (x3 : Int) (x4 : Int) (x5 : Int) (M : xj_M) : Option (Int × xj_M) := ((xq_gi 5 1 (x0) M).bind fun v107 => (if (x4) < (v107) then ((xq_gi 5 1 (x1) M).bind fun v110 => (if (x5) < (v110) then ((xq_gi 5 0 (x0) M).bind fun v113 => ((xq_is 5 (x0) M).bind fun _ => ((f72  f (x0) (x4) (x1) (x5) (v113) M).bind fun R117 => f84_65  r8 f (x0) (x1) (x3) (x4) (x5) (R117.1) R117.2))) else f84_65  r8 f (x0) (x1) (x3) (x4) (x5) (-1) M)) else f84_65  r8 f (x0) (x1) (x3) (x4) (x5) (1) M))
theorem k84_26 {d f : Nat}  {r8 : Nat → Nat → Int → Int → Int → xj_M → Option (Int × xj_M)}  (hr8 : ∀ {x0 : Nat} {x1 : Nat} {x3 : Int} {x4 : Int} {x5 : Int} {M : xj_M} {R : Int × xj_M}, xin x3 → xin x4 → xin x5 → r8 x0 x1 x3 x4 x5 M = some R → xW (d + 1) (none, d + 1, none) xr_84 (8, [(0, xR_ x0), (1, xR_ x1), (3, xI x3), (4, xI x4), (5, xI x5)], [], M) (xQi R)) {x0 : Nat} {x1 : Nat} {x3 : Int} {x4 : Int} {x5 : Int} {M : xj_M} {R : Int × xj_M} (hx3 : xin x3) (hx4 : xin x4) (hx5 : xin x5) (h : f84_26  r8 f x0 x1 x3 x4 x5 M = some R) : xW (d + 1) (none, d + 1, none) xr_84 (26, [(0, xR_ x0), (1, xR_ x1), (3, xI x3), (4, xI x4), (5, xI x5)], [], M) (xQi R) := by
  unfold f84_26 at h
  refine xe_ldn (ins := .iload 4) (len := 2) (by decide +kernel) rfl rfl rfl rfl ?_
  refine xe_alr (ins := .aload_n 0) (len := 1) (i := 0) (by decide +kernel) rfl rfl rfl rfl rfl ?_
  obtain ⟨v107, e108, h⟩ := xbnd h
  refine xs_gi (i := 23) (c := 5) (k := 1) (by decide +kernel) (by decide) (by decide +kernel) e108 rfl ?_
  refine xe_icmplt (off := 7) (t := 39) (by decide +kernel) (by decide) rfl hx4 (xq_gi_in e108) (fun c109 => ?_) (fun c109 => ?_)
  · rw [if_pos c109] at h
    refine xe_ldn (ins := .iload 5) (len := 2) (by decide +kernel) rfl rfl rfl rfl ?_
    refine xe_alr (ins := .aload_n 1) (len := 1) (i := 1) (by decide +kernel) rfl rfl rfl rfl rfl ?_
    obtain ⟨v110, e111, h⟩ := xbnd h
    refine xs_gi (i := 23) (c := 5) (k := 1) (by decide +kernel) (by decide) (by decide +kernel) e111 rfl ?_
    refine xe_icmplt (off := 7) (t := 52) (by decide +kernel) (by decide) rfl hx5 (xq_gi_in e111) (fun c112 => ?_) (fun c112 => ?_)
    · rw [if_pos c112] at h
      refine xe_alr (ins := .aload_n 0) (len := 1) (i := 0) (by decide +kernel) rfl rfl rfl rfl rfl ?_
      refine xe_ldn (ins := .iload 4) (len := 2) (by decide +kernel) rfl rfl rfl rfl ?_
      refine xe_alr (ins := .aload_n 1) (len := 1) (i := 1) (by decide +kernel) rfl rfl rfl rfl rfl ?_
      refine xe_ldn (ins := .iload 5) (len := 2) (by decide +kernel) rfl rfl rfl rfl ?_
      refine xe_alr (ins := .aload_n 0) (len := 1) (i := 0) (by decide +kernel) rfl rfl rfl rfl rfl ?_
      obtain ⟨v113, e114, h⟩ := xbnd h
      refine xs_gi (i := 9) (c := 5) (k := 0) (by decide +kernel) (by decide) (by decide +kernel) e114 rfl ?_
      obtain ⟨_, e116, h⟩ := xbnd h
      obtain ⟨R117, e115, h⟩ := xbnd h
      refine xs_cv (i := 57) (j := 72) (ar := [xI (v113), xI (x5), xR_ (x1), xI (x4)]) (rest := []) (r2 := xr_72) (by decide +kernel) (by decide +kernel) (by decide +kernel) xr_72_e rfl (by decide) (by decide) e116 ?_
      refine xc_i (k72 (d := d + 0)  hx4 hx5 (xq_gi_in e114) e115) rfl (fun hi118 => ?_)
      refine xW_lv rfl (l := [(0, xR_ (x0)), (1, xR_ (x1)), (3, xI (x3)), (4, xI (x4)), (5, xI (x5))]) (xsb_of ⟨rfl, rfl, rfl, rfl, rfl, trivial⟩ (show [0, 1, 3, 4, 5].Nodup by decide)) ?_
      exact k84_65  hr8 hx3 hx4 hx5 hi118 h
    · rw [if_neg c112] at h
      refine xe_iconst (n := -1) (by decide +kernel) rfl ?_
      refine xe_goto (off := 16) (nx := 65) (by decide +kernel) (by decide) ?_
      refine xW_lv rfl (l := [(0, xR_ (x0)), (1, xR_ (x1)), (3, xI (x3)), (4, xI (x4)), (5, xI (x5))]) (xsb_of ⟨rfl, rfl, rfl, rfl, rfl, trivial⟩ (show [0, 1, 3, 4, 5].Nodup by decide)) ?_
      exact k84_65  hr8 hx3 hx4 hx5 (show xin (-1) by decide) h
  · rw [if_neg c109] at h
    refine xe_iconst (n := 1) (by decide +kernel) rfl ?_
    refine xe_goto (off := 29) (nx := 65) (by decide +kernel) (by decide) ?_
    refine xW_lv rfl (l := [(0, xR_ (x0)), (1, xR_ (x1)), (3, xI (x3)), (4, xI (x4)), (5, xI (x5))]) (xsb_of ⟨rfl, rfl, rfl, rfl, rfl, trivial⟩ (show [0, 1, 3, 4, 5].Nodup by decide)) ?_
    exact k84_65  hr8 hx3 hx4 hx5 (show xin (1) by decide) h
def f84_8b  (r8 : Nat → Nat → Int → Int → Int → xj_M → Option (Int × xj_M)) (f : Nat) (x0 : Nat) (x1 : Nat) (x3 : Int) (x4 : Int) (x5 : Int) (M : xj_M) : Option (Int × xj_M) := ((xq_gi 5 1 (x0) M).bind fun v119 => (if (x4) < (v119) then f84_26  r8 f (x0) (x1) (x3) (x4) (x5) M else ((xq_gi 5 1 (x1) M).bind fun v122 => (if (v122) ≤ (x5) then (some (-1, M)) else f84_26  r8 f (x0) (x1) (x3) (x4) (x5) M))))
theorem k84_8b {d f : Nat}  {r8 : Nat → Nat → Int → Int → Int → xj_M → Option (Int × xj_M)}  (hr8 : ∀ {x0 : Nat} {x1 : Nat} {x3 : Int} {x4 : Int} {x5 : Int} {M : xj_M} {R : Int × xj_M}, xin x3 → xin x4 → xin x5 → r8 x0 x1 x3 x4 x5 M = some R → xW (d + 1) (none, d + 1, none) xr_84 (8, [(0, xR_ x0), (1, xR_ x1), (3, xI x3), (4, xI x4), (5, xI x5)], [], M) (xQi R)) {x0 : Nat} {x1 : Nat} {x3 : Int} {x4 : Int} {x5 : Int} {M : xj_M} {R : Int × xj_M} (hx3 : xin x3) (hx4 : xin x4) (hx5 : xin x5) (h : f84_8b  r8 f x0 x1 x3 x4 x5 M = some R) : xW (d + 1) (none, d + 1, none) xr_84 (8, [(0, xR_ x0), (1, xR_ x1), (3, xI x3), (4, xI x4), (5, xI x5)], [], M) (xQi R) := by
  unfold f84_8b at h
  refine xe_ldn (ins := .iload 4) (len := 2) (by decide +kernel) rfl rfl rfl rfl ?_
  refine xe_alr (ins := .aload_n 0) (len := 1) (i := 0) (by decide +kernel) rfl rfl rfl rfl rfl ?_
  obtain ⟨v119, e120, h⟩ := xbnd h
  refine xs_gi (i := 23) (c := 5) (k := 1) (by decide +kernel) (by decide) (by decide +kernel) e120 rfl ?_
  refine xe_icmplt (off := 12) (t := 26) (by decide +kernel) (by decide) rfl hx4 (xq_gi_in e120) (fun c121 => ?_) (fun c121 => ?_)
  · rw [if_pos c121] at h
    refine xW_lv rfl (l := [(0, xR_ (x0)), (1, xR_ (x1)), (3, xI (x3)), (4, xI (x4)), (5, xI (x5))]) (xsb_of ⟨rfl, rfl, rfl, rfl, rfl, trivial⟩ (show [0, 1, 3, 4, 5].Nodup by decide)) ?_
    exact k84_26  hr8 hx3 hx4 hx5 h
  · rw [if_neg c121] at h
    refine xe_ldn (ins := .iload 5) (len := 2) (by decide +kernel) rfl rfl rfl rfl ?_
    refine xe_alr (ins := .aload_n 1) (len := 1) (i := 1) (by decide +kernel) rfl rfl rfl rfl rfl ?_
    obtain ⟨v122, e123, h⟩ := xbnd h
    refine xs_gi (i := 23) (c := 5) (k := 1) (by decide +kernel) (by decide) (by decide +kernel) e123 rfl ?_
    refine xe_icmpge (off := 118) (t := 141) (by decide +kernel) (by decide) rfl hx5 (xq_gi_in e123) (fun c124 => ?_) (fun c124 => ?_)
    · rw [if_pos c124] at h
      refine xe_iconst (n := -1) (by decide +kernel) rfl ?_
      cases h
      exact xe_ret_i (ty := .int) (by decide +kernel) rfl rfl ⟨rfl, rfl, (show xin (-1) by decide)⟩
    · rw [if_neg c124] at h
      refine xW_lv rfl (l := [(0, xR_ (x0)), (1, xR_ (x1)), (3, xI (x3)), (4, xI (x4)), (5, xI (x5))]) (xsb_of ⟨rfl, rfl, rfl, rfl, rfl, trivial⟩ (show [0, 1, 3, 4, 5].Nodup by decide)) ?_
      exact k84_26  hr8 hx3 hx4 hx5 h
def f84_8   (f : Nat) : Nat → Nat → Nat → Int → Int → Int → xj_M → Option (Int × xj_M)
  | 0, _, _, _, _, _, _ => none
  | n + 1, x0, x1, x3, x4, x5, M => f84_8b   (f84_8   f n) f x0 x1 x3 x4 x5 M
theorem k84_8 {d f : Nat}     : ∀ {n : Nat} {x0 : Nat} {x1 : Nat} {x3 : Int} {x4 : Int} {x5 : Int} {M : xj_M} {R : Int × xj_M}, xin x3 → xin x4 → xin x5 → f84_8   f n x0 x1 x3 x4 x5 M = some R → xW (d + 1) (none, d + 1, none) xr_84 (8, [(0, xR_ x0), (1, xR_ x1), (3, xI x3), (4, xI x4), (5, xI x5)], [], M) (xQi R) := by
  intro n
  induction n with
  | zero => intros; rename_i h; cases h
  | succ n ih => intros; rename_i h; exact k84_8b   ih (by assumption) (by assumption) (by assumption) h
def f84  (f : Nat) (a0 : Nat) (a1 : Nat) (a2 : Int) (M : xj_M) : Option (Int × xj_M) := f84_8   f f (a0) (a1) (a2) (0) (0) M
theorem k84 {d f : Nat}   {a0 : Nat} {a1 : Nat} {a2 : Int} {M : xj_M} {R : Int × xj_M} (ha2 : xin a2) (h : f84  f a0 a1 a2 M = some R) : xT (d + 2) 84 [xR_ a0, xR_ a1, xI a2] M (xQi R) := by
  refine xT_m xr_84_e (X := (none, d + 1, none)) rfl (xa_1 (xR_cat _) (xa_1 (xR_cat _) (xa_1 (xI_cat _) xa_n))) (by decide) ?_
  unfold f84 at h
  refine xe_ldn (ins := .iload_n 2) (len := 1) (by decide +kernel) rfl rfl rfl rfl ?_
  refine xe_isr (ins := .istore_n 3) (len := 1) (i := 3) (by decide +kernel) rfl rfl rfl (by decide) (xk_k (show ¬ (0 : Nat) = 3 by decide) (Or.inl (show ¬ (0 + 1 : Nat) = 3 by decide)) (xk_k (show ¬ (1 : Nat) = 3 by decide) (Or.inl (show ¬ (1 + 1 : Nat) = 3 by decide)) (xk_k (show ¬ (2 : Nat) = 3 by decide) (Or.inr (xI_cat _)) xk_n))) rfl ?_
  refine xe_iconst (n := 0) (by decide +kernel) rfl ?_
  refine xe_isr (ins := .istore 4) (len := 2) (i := 4) (by decide +kernel) rfl rfl rfl (by decide) (xk_k (show ¬ (3 : Nat) = 4 by decide) (Or.inr (xI_cat _)) (xk_k (show ¬ (0 : Nat) = 4 by decide) (Or.inl (show ¬ (0 + 1 : Nat) = 4 by decide)) (xk_k (show ¬ (1 : Nat) = 4 by decide) (Or.inl (show ¬ (1 + 1 : Nat) = 4 by decide)) (xk_k (show ¬ (2 : Nat) = 4 by decide) (Or.inl (show ¬ (2 + 1 : Nat) = 4 by decide)) xk_n)))) rfl ?_
  refine xe_iconst (n := 0) (by decide +kernel) rfl ?_
  refine xe_isr (ins := .istore 5) (len := 2) (i := 5) (by decide +kernel) rfl rfl rfl (by decide) (xk_k (show ¬ (4 : Nat) = 5 by decide) (Or.inr (xI_cat _)) (xk_k (show ¬ (3 : Nat) = 5 by decide) (Or.inl (show ¬ (3 + 1 : Nat) = 5 by decide)) (xk_k (show ¬ (0 : Nat) = 5 by decide) (Or.inl (show ¬ (0 + 1 : Nat) = 5 by decide)) (xk_k (show ¬ (1 : Nat) = 5 by decide) (Or.inl (show ¬ (1 + 1 : Nat) = 5 by decide)) (xk_k (show ¬ (2 : Nat) = 5 by decide) (Or.inl (show ¬ (2 + 1 : Nat) = 5 by decide)) xk_n))))) rfl ?_
  refine xW_lv rfl (l := [(0, xR_ (a0)), (1, xR_ (a1)), (3, xI (a2)), (4, xI (0)), (5, xI (0))]) (xsb_of ⟨rfl, rfl, rfl, rfl, rfl, trivial⟩ (show [5, 4, 3, 0, 1, 2].Nodup by decide)) ?_
  exact k84_8   ha2 (show xin (0) by decide) (show xin (0) by decide) h
-- ChangeHouse$Rows.isRow
def xr_86 : xj_mR := (5, yX5_isRow, cX5_isRow, 4, (Option.some Jvm.ClassFile.FieldType.boolean), 3, false, (7, 215), (1, 6))
set_option maxRecDepth 20000 in
theorem xr_86_e : xj_row 86 = some xr_86 := rfl
def f86_20   (f : Nat) (y0 : Int) (M : xj_M) : Option (Int × xj_M) := (if (y0) = 0 ∨ (y0) = 1 then some (y0, M) else none)
theorem k86_20 {d f : Nat}     {y0 : Int} {M : xj_M} {R : Int × xj_M} (hy0 : xin y0) (h : f86_20   f y0 M = some R) : xW (d + 1) (none, d + 1, none) xr_86 (20, [], [xI y0], M) (xQi R) := by
  unfold f86_20 at h
  by_cases c101 : (y0) = 0 ∨ (y0) = 1
  · rw [if_pos c101] at h; cases h; exact xe_ret_i (ty := .boolean) (by decide +kernel) rfl (xbool c101) ⟨rfl, rfl, hy0⟩
  · rw [if_neg c101] at h; cases h
def f86_10   (f : Nat) (x1 : Int) (x3 : Int) (M : xj_M) : Option (Int × xj_M) := (if ¬ (x1) = (x3) then f86_20   f (0) M else f86_20   f (1) M)
theorem k86_10 {d f : Nat}     {x1 : Int} {x3 : Int} {M : xj_M} {R : Int × xj_M} (hx1 : xin x1) (hx3 : xin x3) (h : f86_10   f x1 x3 M = some R) : xW (d + 1) (none, d + 1, none) xr_86 (10, [(1, xI x1), (3, xI x3)], [], M) (xQi R) := by
  unfold f86_10 at h
  refine xe_ldn (ins := .iload_n 1) (len := 1) (by decide +kernel) rfl rfl rfl rfl ?_
  refine xe_ldn (ins := .iload_n 3) (len := 1) (by decide +kernel) rfl rfl rfl rfl ?_
  refine xe_icmpne (off := 7) (t := 19) (by decide +kernel) (by decide) rfl hx1 hx3 (fun c102 => ?_) (fun c102 => ?_)
  · rw [if_pos c102] at h
    refine xe_iconst (n := 0) (by decide +kernel) rfl ?_
    refine xW_lv rfl (l := []) (xsb_of trivial (show [1, 3].Nodup by decide)) ?_
    exact k86_20   (show xin (0) by decide) h
  · rw [if_neg c102] at h
    refine xe_iconst (n := 1) (by decide +kernel) rfl ?_
    refine xe_goto (off := 4) (nx := 20) (by decide +kernel) (by decide) ?_
    refine xW_lv rfl (l := []) (xsb_of trivial (show [1, 3].Nodup by decide)) ?_
    exact k86_20   (show xin (1) by decide) h
def f86_40   (f : Nat) (y0 : Int) (M : xj_M) : Option (Int × xj_M) := (if (y0) = 0 ∨ (y0) = 1 then some (y0, M) else none)
theorem k86_40 {d f : Nat}     {y0 : Int} {M : xj_M} {R : Int × xj_M} (hy0 : xin y0) (h : f86_40   f y0 M = some R) : xW (d + 1) (none, d + 1, none) xr_86 (40, [], [xI y0], M) (xQi R) := by
  unfold f86_40 at h
  by_cases c103 : (y0) = 0 ∨ (y0) = 1
  · rw [if_pos c103] at h; cases h; exact xe_ret_i (ty := .boolean) (by decide +kernel) rfl (xbool c103) ⟨rfl, rfl, hy0⟩
  · rw [if_neg c103] at h; cases h
def f86  (f : Nat) (a0 : Nat) (a1 : Int) (a2 : Nat) (a3 : Int) (M : xj_M) : Option (Int × xj_M) := (if (a1) = (-1) then f86_10   f (a1) (a3) M else (if ¬ (a3) = (-1) then ((xq_gi 5 0 (a0) M).bind fun v106 => ((xq_is 5 (a0) M).bind fun _ => ((f72  f (a0) (a1) (a2) (a3) (v106) M).bind fun R110 => (if ¬ (R110.1) = 0 then f86_40   f (0) R110.2 else f86_40   f (1) R110.2)))) else f86_10   f (a1) (a3) M))
theorem k86 {d f : Nat}   {a0 : Nat} {a1 : Int} {a2 : Nat} {a3 : Int} {M : xj_M} {R : Int × xj_M} (ha1 : xin a1) (ha3 : xin a3) (h : f86  f a0 a1 a2 a3 M = some R) : xT (d + 2) 86 [xR_ a0, xI a1, xR_ a2, xI a3] M (xQi R) := by
  refine xT_m xr_86_e (X := (none, d + 1, none)) rfl (xa_1 (xR_cat _) (xa_1 (xI_cat _) (xa_1 (xR_cat _) (xa_1 (xI_cat _) xa_n)))) (by decide) ?_
  unfold f86 at h
  refine xe_ldn (ins := .iload_n 1) (len := 1) (by decide +kernel) rfl rfl rfl rfl ?_
  refine xe_iconst (n := -1) (by decide +kernel) rfl ?_
  refine xe_icmpeq (off := 8) (t := 10) (by decide +kernel) (by decide) rfl ha1 (show xin (-1) by decide) (fun c104 => ?_) (fun c104 => ?_)
  · rw [if_pos c104] at h
    refine xW_lv rfl (l := [(1, xI (a1)), (3, xI (a3))]) (xsb_of ⟨rfl, rfl, trivial⟩ (show [0, 1, 2, 3].Nodup by decide)) ?_
    exact k86_10   ha1 ha3 h
  · rw [if_neg c104] at h
    refine xe_ldn (ins := .iload_n 3) (len := 1) (by decide +kernel) rfl rfl rfl rfl ?_
    refine xe_iconst (n := -1) (by decide +kernel) rfl ?_
    refine xe_icmpne (off := 14) (t := 21) (by decide +kernel) (by decide) rfl ha3 (show xin (-1) by decide) (fun c105 => ?_) (fun c105 => ?_)
    · rw [if_pos c105] at h
      refine xe_alr (ins := .aload_n 0) (len := 1) (i := 0) (by decide +kernel) rfl rfl rfl rfl rfl ?_
      refine xe_ldn (ins := .iload_n 1) (len := 1) (by decide +kernel) rfl rfl rfl rfl ?_
      refine xe_alr (ins := .aload_n 2) (len := 1) (i := 2) (by decide +kernel) rfl rfl rfl rfl rfl ?_
      refine xe_ldn (ins := .iload_n 3) (len := 1) (by decide +kernel) rfl rfl rfl rfl ?_
      refine xe_alr (ins := .aload_n 0) (len := 1) (i := 0) (by decide +kernel) rfl rfl rfl rfl rfl ?_
      obtain ⟨v106, e107, h⟩ := xbnd h
      refine xs_gi (i := 9) (c := 5) (k := 0) (by decide +kernel) (by decide) (by decide +kernel) e107 rfl ?_
      obtain ⟨_, e109, h⟩ := xbnd h
      obtain ⟨R110, e108, h⟩ := xbnd h
      refine xs_cv (i := 57) (j := 72) (ar := [xI (v106), xI (a3), xR_ (a2), xI (a1)]) (rest := []) (r2 := xr_72) (by decide +kernel) (by decide +kernel) (by decide +kernel) xr_72_e rfl (by decide) (by decide) e109 ?_
      refine xc_i (k72 (d := d + 0)  ha1 ha3 (xq_gi_in e107) e108) rfl (fun hi111 => ?_)
      refine xe_ifne (off := 7) (t := 39) (by decide +kernel) (by decide) rfl hi111 (fun c112 => ?_) (fun c112 => ?_)
      · rw [if_pos c112] at h
        refine xe_iconst (n := 0) (by decide +kernel) rfl ?_
        refine xW_lv rfl (l := []) (xsb_of trivial (show [0, 1, 2, 3].Nodup by decide)) ?_
        exact k86_40   (show xin (0) by decide) h
      · rw [if_neg c112] at h
        refine xe_iconst (n := 1) (by decide +kernel) rfl ?_
        refine xe_goto (off := 4) (nx := 40) (by decide +kernel) (by decide) ?_
        refine xW_lv rfl (l := []) (xsb_of trivial (show [0, 1, 2, 3].Nodup by decide)) ?_
        exact k86_40   (show xin (1) by decide) h
    · rw [if_neg c105] at h
      refine xW_lv rfl (l := [(1, xI (a1)), (3, xI (a3))]) (xsb_of ⟨rfl, rfl, trivial⟩ (show [0, 1, 2, 3].Nodup by decide)) ?_
      exact k86_10   ha1 ha3 h
-- ChangeHouse$Rule.<init>
def xr_87 : xj_mR := (6, yX6_init, cX6_init, 1, (Option.none : Option Jvm.ClassFile.FieldType), 0, true, (4, 191), (1, 26))
set_option maxRecDepth 20000 in
theorem xr_87_e : xj_row 87 = some xr_87 := rfl
def f87  (f : Nat) (a0 : Nat) (M : xj_M) : Option (xj_M) := ((xq_nz (a0)).bind fun _ => ((xq_pi 6 0 (a0) (-1) M).bind fun M102 => ((xq_pi 6 3 (a0) (-1) M102).bind fun M104 => ((xq_na 3 (8) M104).bind fun p106 => ((xq_pr 6 7 (a0) (p106.1) p106.2).bind fun M108 => ((xq_na 3 (8) M108).bind fun p110 => ((xq_pr 6 9 (a0) (p110.1) p110.2).bind fun M112 => ((xq_na 3 (8) M112).bind fun p114 => ((xq_pr 6 10 (a0) (p114.1) p114.2).bind fun M116 => ((xq_na 3 (8) M116).bind fun p118 => ((xq_pr 6 11 (a0) (p118.1) p118.2).bind fun M120 => ((xq_na 3 (32) M120).bind fun p122 => ((xq_pr 6 12 (a0) (p122.1) p122.2).bind fun M124 => ((xq_na 4 (32) M124).bind fun p126 => ((xq_pr 6 13 (a0) (p126.1) p126.2).bind fun M128 => ((xq_na 3 (20) M128).bind fun p130 => ((xq_pr 6 14 (a0) (p130.1) p130.2).bind fun M132 => ((xq_na 3 (20) M132).bind fun p134 => ((xq_pr 6 15 (a0) (p134.1) p134.2).bind fun M136 => ((xq_na 3 (8) M136).bind fun p138 => ((xq_pr 6 18 (a0) (p138.1) p138.2).bind fun M140 => ((xq_na 3 (8) M140).bind fun p142 => ((xq_pr 6 19 (a0) (p142.1) p142.2).bind fun M144 => (some M144))))))))))))))))))))))))
theorem k87 {d f : Nat}   {a0 : Nat} {M : xj_M} {R : xj_M}  (h : f87  f a0 M = some R) : xT (d + 1) 87 [xR_ a0] M (xQv R) := by
  refine xT_m xr_87_e (X := (none, d + 0, none)) rfl (xa_1 (xR_cat _) xa_n) (by decide) ?_
  unfold f87 at h
  refine xe_alr (ins := .aload_n 0) (len := 1) (i := 0) (by decide +kernel) rfl rfl rfl rfl rfl ?_
  obtain ⟨_, e101, h⟩ := xbnd h
  refine xe_oi (i := 3) (j := 0) (by decide +kernel) (by decide +kernel) (by rfl) (xq_nz_ne e101) rfl ?_
  refine xe_alr (ins := .aload_n 0) (len := 1) (i := 0) (by decide +kernel) rfl rfl rfl rfl rfl ?_
  refine xe_iconst (n := -1) (by decide +kernel) rfl ?_
  obtain ⟨M102, e103, h⟩ := xbnd h
  refine xs_p (i := 9) (c := 6) (k := 0) (by decide +kernel) (by decide +kernel) (by decide +kernel) e103 rfl ?_
  refine xe_alr (ins := .aload_n 0) (len := 1) (i := 0) (by decide +kernel) rfl rfl rfl rfl rfl ?_
  refine xe_iconst (n := -1) (by decide +kernel) rfl ?_
  obtain ⟨M104, e105, h⟩ := xbnd h
  refine xs_p (i := 15) (c := 6) (k := 3) (by decide +kernel) (by decide +kernel) (by decide +kernel) e105 rfl ?_
  refine xe_alr (ins := .aload_n 0) (len := 1) (i := 0) (by decide +kernel) rfl rfl rfl rfl rfl ?_
  refine xe_bipush (n := 8) (by decide +kernel) (by decide) rfl ?_
  obtain ⟨p106, e107, h⟩ := xbnd h
  refine xs_na (kk := 3) (ty := .int) (x := p106.1) (M1 := p106.2) (by decide +kernel) rfl (show xin (8) by decide) e107 rfl ?_
  obtain ⟨M108, e109, h⟩ := xbnd h
  refine xs_p (i := 18) (c := 6) (k := 7) (by decide +kernel) (by decide +kernel) (by decide +kernel) e109 rfl ?_
  refine xe_alr (ins := .aload_n 0) (len := 1) (i := 0) (by decide +kernel) rfl rfl rfl rfl rfl ?_
  refine xe_bipush (n := 8) (by decide +kernel) (by decide) rfl ?_
  obtain ⟨p110, e111, h⟩ := xbnd h
  refine xs_na (kk := 3) (ty := .int) (x := p110.1) (M1 := p110.2) (by decide +kernel) rfl (show xin (8) by decide) e111 rfl ?_
  obtain ⟨M112, e113, h⟩ := xbnd h
  refine xs_p (i := 22) (c := 6) (k := 9) (by decide +kernel) (by decide +kernel) (by decide +kernel) e113 rfl ?_
  refine xe_alr (ins := .aload_n 0) (len := 1) (i := 0) (by decide +kernel) rfl rfl rfl rfl rfl ?_
  refine xe_bipush (n := 8) (by decide +kernel) (by decide) rfl ?_
  obtain ⟨p114, e115, h⟩ := xbnd h
  refine xs_na (kk := 3) (ty := .int) (x := p114.1) (M1 := p114.2) (by decide +kernel) rfl (show xin (8) by decide) e115 rfl ?_
  obtain ⟨M116, e117, h⟩ := xbnd h
  refine xs_p (i := 25) (c := 6) (k := 10) (by decide +kernel) (by decide +kernel) (by decide +kernel) e117 rfl ?_
  refine xe_alr (ins := .aload_n 0) (len := 1) (i := 0) (by decide +kernel) rfl rfl rfl rfl rfl ?_
  refine xe_bipush (n := 8) (by decide +kernel) (by decide) rfl ?_
  obtain ⟨p118, e119, h⟩ := xbnd h
  refine xs_na (kk := 3) (ty := .int) (x := p118.1) (M1 := p118.2) (by decide +kernel) rfl (show xin (8) by decide) e119 rfl ?_
  obtain ⟨M120, e121, h⟩ := xbnd h
  refine xs_p (i := 28) (c := 6) (k := 11) (by decide +kernel) (by decide +kernel) (by decide +kernel) e121 rfl ?_
  refine xe_alr (ins := .aload_n 0) (len := 1) (i := 0) (by decide +kernel) rfl rfl rfl rfl rfl ?_
  refine xe_bipush (n := 32) (by decide +kernel) (by decide) rfl ?_
  obtain ⟨p122, e123, h⟩ := xbnd h
  refine xs_na (kk := 3) (ty := .int) (x := p122.1) (M1 := p122.2) (by decide +kernel) rfl (show xin (32) by decide) e123 rfl ?_
  obtain ⟨M124, e125, h⟩ := xbnd h
  refine xs_p (i := 31) (c := 6) (k := 12) (by decide +kernel) (by decide +kernel) (by decide +kernel) e125 rfl ?_
  refine xe_alr (ins := .aload_n 0) (len := 1) (i := 0) (by decide +kernel) rfl rfl rfl rfl rfl ?_
  refine xe_bipush (n := 32) (by decide +kernel) (by decide) rfl ?_
  obtain ⟨p126, e127, h⟩ := xbnd h
  refine xs_na (kk := 4) (ty := .long) (x := p126.1) (M1 := p126.2) (by decide +kernel) rfl (show xin (32) by decide) e127 rfl ?_
  obtain ⟨M128, e129, h⟩ := xbnd h
  refine xs_p (i := 34) (c := 6) (k := 13) (by decide +kernel) (by decide +kernel) (by decide +kernel) e129 rfl ?_
  refine xe_alr (ins := .aload_n 0) (len := 1) (i := 0) (by decide +kernel) rfl rfl rfl rfl rfl ?_
  refine xe_bipush (n := 20) (by decide +kernel) (by decide) rfl ?_
  obtain ⟨p130, e131, h⟩ := xbnd h
  refine xs_na (kk := 3) (ty := .int) (x := p130.1) (M1 := p130.2) (by decide +kernel) rfl (show xin (20) by decide) e131 rfl ?_
  obtain ⟨M132, e133, h⟩ := xbnd h
  refine xs_p (i := 38) (c := 6) (k := 14) (by decide +kernel) (by decide +kernel) (by decide +kernel) e133 rfl ?_
  refine xe_alr (ins := .aload_n 0) (len := 1) (i := 0) (by decide +kernel) rfl rfl rfl rfl rfl ?_
  refine xe_bipush (n := 20) (by decide +kernel) (by decide) rfl ?_
  obtain ⟨p134, e135, h⟩ := xbnd h
  refine xs_na (kk := 3) (ty := .int) (x := p134.1) (M1 := p134.2) (by decide +kernel) rfl (show xin (20) by decide) e135 rfl ?_
  obtain ⟨M136, e137, h⟩ := xbnd h
  refine xs_p (i := 41) (c := 6) (k := 15) (by decide +kernel) (by decide +kernel) (by decide +kernel) e137 rfl ?_
  refine xe_alr (ins := .aload_n 0) (len := 1) (i := 0) (by decide +kernel) rfl rfl rfl rfl rfl ?_
  refine xe_bipush (n := 8) (by decide +kernel) (by decide) rfl ?_
  obtain ⟨p138, e139, h⟩ := xbnd h
  refine xs_na (kk := 3) (ty := .int) (x := p138.1) (M1 := p138.2) (by decide +kernel) rfl (show xin (8) by decide) e139 rfl ?_
  obtain ⟨M140, e141, h⟩ := xbnd h
  refine xs_p (i := 44) (c := 6) (k := 18) (by decide +kernel) (by decide +kernel) (by decide +kernel) e141 rfl ?_
  refine xe_alr (ins := .aload_n 0) (len := 1) (i := 0) (by decide +kernel) rfl rfl rfl rfl rfl ?_
  refine xe_bipush (n := 8) (by decide +kernel) (by decide) rfl ?_
  obtain ⟨p142, e143, h⟩ := xbnd h
  refine xs_na (kk := 3) (ty := .int) (x := p142.1) (M1 := p142.2) (by decide +kernel) rfl (show xin (8) by decide) e143 rfl ?_
  obtain ⟨M144, e145, h⟩ := xbnd h
  refine xs_p (i := 47) (c := 6) (k := 19) (by decide +kernel) (by decide +kernel) (by decide +kernel) e145 rfl ?_
  cases h
  exact xe_ret_v (by decide +kernel) rfl ⟨rfl, rfl⟩
-- ChangeHouse$Rule.countAtoms
def xr_89 : xj_mR := (6, yX6_countAtoms, cX6_countAtoms, 3, (Option.some Jvm.ClassFile.FieldType.int), 0, false, (5, 134), (1, 26))
set_option maxRecDepth 20000 in
theorem xr_89_e : xj_row 89 = some xr_89 := rfl
def f89_29  (r4 : Nat → Int → Int → xj_M → Option (Int × xj_M)) (f : Nat) (x0 : Nat) (x2 : Int) (y0 : Int) (y1 : Int) (M : xj_M) : Option (Int × xj_M) := r4 (x0) (xwr ((y1) + (y0))) (xwr ((x2) + (1))) M
theorem k89_29 {d f : Nat}  {r4 : Nat → Int → Int → xj_M → Option (Int × xj_M)}  (hr4 : ∀ {x0 : Nat} {x1 : Int} {x2 : Int} {M : xj_M} {R : Int × xj_M}, xin x1 → xin x2 → r4 x0 x1 x2 M = some R → xW (d + 0) (none, d + 0, none) xr_89 (4, [(0, xR_ x0), (1, xI x1), (2, xI x2)], [], M) (xQi R)) {x0 : Nat} {x2 : Int} {y0 : Int} {y1 : Int} {M : xj_M} {R : Int × xj_M} (hx2 : xin x2) (hy0 : xin y0) (hy1 : xin y1) (h : f89_29  r4 f x0 x2 y0 y1 M = some R) : xW (d + 0) (none, d + 0, none) xr_89 (29, [(0, xR_ x0), (2, xI x2)], [xI y0, xI y1], M) (xQi R) := by
  unfold f89_29 at h
  refine xe_iadd (by decide +kernel) rfl ?_
  refine xe_isr (ins := .istore_n 1) (len := 1) (i := 1) (by decide +kernel) rfl rfl rfl (by decide) (xk_k (show ¬ (0 : Nat) = 1 by decide) (Or.inr (xR_cat _)) (xk_k (show ¬ (2 : Nat) = 1 by decide) (Or.inl (show ¬ (2 + 1 : Nat) = 1 by decide)) xk_n)) rfl ?_
  refine xe_iincr (i := 2) (n := 1) (by decide +kernel) (by decide) rfl (xk_k (show ¬ (1 : Nat) = 2 by decide) (Or.inr (xI_cat _)) (xk_k (show ¬ (0 : Nat) = 2 by decide) (Or.inl (show ¬ (0 + 1 : Nat) = 2 by decide)) (xk_d rfl xk_n))) rfl ?_
  refine xe_goto (off := -30) (nx := 4) (by decide +kernel) (by decide) ?_
  refine xW_lv rfl (l := [(0, xR_ (x0)), (1, xI (xwr ((y1) + (y0)))), (2, xI (xwr ((x2) + (1))))]) (xsb_of ⟨rfl, rfl, rfl, trivial⟩ (show [2, 1, 0].Nodup by decide)) ?_
  exact hr4 (xin_wr _) (xin_wr _) h
def f89_4b  (r4 : Nat → Int → Int → xj_M → Option (Int × xj_M)) (f : Nat) (x0 : Nat) (x1 : Int) (x2 : Int) (M : xj_M) : Option (Int × xj_M) := ((xq_gi 6 8 (x0) M).bind fun v101 => (if (v101) ≤ (x2) then (some (x1, M)) else ((xq_gr 6 9 (x0) M).bind fun v104 => ((xq_ai 3 (v104) (x2) M).bind fun v106 => (if ¬ (v106) = (15) then f89_29  r4 f (x0) (x2) (0) (x1) M else f89_29  r4 f (x0) (x2) (1) (x1) M)))))
theorem k89_4b {d f : Nat}  {r4 : Nat → Int → Int → xj_M → Option (Int × xj_M)}  (hr4 : ∀ {x0 : Nat} {x1 : Int} {x2 : Int} {M : xj_M} {R : Int × xj_M}, xin x1 → xin x2 → r4 x0 x1 x2 M = some R → xW (d + 0) (none, d + 0, none) xr_89 (4, [(0, xR_ x0), (1, xI x1), (2, xI x2)], [], M) (xQi R)) {x0 : Nat} {x1 : Int} {x2 : Int} {M : xj_M} {R : Int × xj_M} (hx1 : xin x1) (hx2 : xin x2) (h : f89_4b  r4 f x0 x1 x2 M = some R) : xW (d + 0) (none, d + 0, none) xr_89 (4, [(0, xR_ x0), (1, xI x1), (2, xI x2)], [], M) (xQi R) := by
  unfold f89_4b at h
  refine xe_ldn (ins := .iload_n 2) (len := 1) (by decide +kernel) rfl rfl rfl rfl ?_
  refine xe_alr (ins := .aload_n 0) (len := 1) (i := 0) (by decide +kernel) rfl rfl rfl rfl rfl ?_
  obtain ⟨v101, e102, h⟩ := xbnd h
  refine xs_gi (i := 68) (c := 6) (k := 8) (by decide +kernel) (by decide) (by decide +kernel) e102 rfl ?_
  refine xe_icmpge (off := 28) (t := 37) (by decide +kernel) (by decide) rfl hx2 (xq_gi_in e102) (fun c103 => ?_) (fun c103 => ?_)
  · rw [if_pos c103] at h
    refine xe_ldn (ins := .iload_n 1) (len := 1) (by decide +kernel) rfl rfl rfl rfl ?_
    cases h
    exact xe_ret_i (ty := .int) (by decide +kernel) rfl rfl ⟨rfl, rfl, hx1⟩
  · rw [if_neg c103] at h
    refine xe_ldn (ins := .iload_n 1) (len := 1) (by decide +kernel) rfl rfl rfl rfl ?_
    refine xe_alr (ins := .aload_n 0) (len := 1) (i := 0) (by decide +kernel) rfl rfl rfl rfl rfl ?_
    obtain ⟨v104, e105, h⟩ := xbnd h
    refine xs_gr (i := 22) (c := 6) (k := 9) (by decide +kernel) (by decide) (by decide +kernel) e105 rfl ?_
    refine xe_ldn (ins := .iload_n 2) (len := 1) (by decide +kernel) rfl rfl rfl rfl ?_
    obtain ⟨v106, e107, h⟩ := xbnd h
    refine xs_iald rfl (by decide +kernel) hx2 e107 rfl ?_
    refine xe_bipush (n := 15) (by decide +kernel) (by decide) rfl ?_
    refine xe_icmpne (off := 7) (t := 28) (by decide +kernel) (by decide) rfl (xq_ai_in e107) (show xin (15) by decide) (fun c108 => ?_) (fun c108 => ?_)
    · rw [if_pos c108] at h
      refine xe_iconst (n := 0) (by decide +kernel) rfl ?_
      refine xW_lv rfl (l := [(0, xR_ (x0)), (2, xI (x2))]) (xsb_of ⟨rfl, rfl, trivial⟩ (show [0, 1, 2].Nodup by decide)) ?_
      exact k89_29  hr4 hx2 (show xin (0) by decide) hx1 h
    · rw [if_neg c108] at h
      refine xe_iconst (n := 1) (by decide +kernel) rfl ?_
      refine xe_goto (off := 4) (nx := 29) (by decide +kernel) (by decide) ?_
      refine xW_lv rfl (l := [(0, xR_ (x0)), (2, xI (x2))]) (xsb_of ⟨rfl, rfl, trivial⟩ (show [0, 1, 2].Nodup by decide)) ?_
      exact k89_29  hr4 hx2 (show xin (1) by decide) hx1 h
def f89_4   (f : Nat) : Nat → Nat → Int → Int → xj_M → Option (Int × xj_M)
  | 0, _, _, _, _ => none
  | n + 1, x0, x1, x2, M => f89_4b   (f89_4   f n) f x0 x1 x2 M
theorem k89_4 {d f : Nat}     : ∀ {n : Nat} {x0 : Nat} {x1 : Int} {x2 : Int} {M : xj_M} {R : Int × xj_M}, xin x1 → xin x2 → f89_4   f n x0 x1 x2 M = some R → xW (d + 0) (none, d + 0, none) xr_89 (4, [(0, xR_ x0), (1, xI x1), (2, xI x2)], [], M) (xQi R) := by
  intro n
  induction n with
  | zero => intros; rename_i h; cases h
  | succ n ih => intros; rename_i h; exact k89_4b   ih (by assumption) (by assumption) h
def f89  (f : Nat) (a0 : Nat) (M : xj_M) : Option (Int × xj_M) := f89_4   f f (a0) (0) (0) M
theorem k89 {d f : Nat}   {a0 : Nat} {M : xj_M} {R : Int × xj_M}  (h : f89  f a0 M = some R) : xT (d + 1) 89 [xR_ a0] M (xQi R) := by
  refine xT_m xr_89_e (X := (none, d + 0, none)) rfl (xa_1 (xR_cat _) xa_n) (by decide) ?_
  unfold f89 at h
  refine xe_iconst (n := 0) (by decide +kernel) rfl ?_
  refine xe_isr (ins := .istore_n 1) (len := 1) (i := 1) (by decide +kernel) rfl rfl rfl (by decide) (xk_k (show ¬ (0 : Nat) = 1 by decide) (Or.inr (xR_cat _)) xk_n) rfl ?_
  refine xe_iconst (n := 0) (by decide +kernel) rfl ?_
  refine xe_isr (ins := .istore_n 2) (len := 1) (i := 2) (by decide +kernel) rfl rfl rfl (by decide) (xk_k (show ¬ (1 : Nat) = 2 by decide) (Or.inr (xI_cat _)) (xk_k (show ¬ (0 : Nat) = 2 by decide) (Or.inl (show ¬ (0 + 1 : Nat) = 2 by decide)) xk_n)) rfl ?_
  refine xW_lv rfl (l := [(0, xR_ (a0)), (1, xI (0)), (2, xI (0))]) (xsb_of ⟨rfl, rfl, rfl, trivial⟩ (show [2, 1, 0].Nodup by decide)) ?_
  exact k89_4   (show xin (0) by decide) (show xin (0) by decide) h
-- ChangeHouse$Rule.isAtom
def xr_90 : xj_mR := (6, yX6_isAtom, cX6_isAtom, 2, (Option.some Jvm.ClassFile.FieldType.boolean), 1, false, (5, 176), (1, 26))
set_option maxRecDepth 20000 in
theorem xr_90_e : xj_row 90 = some xr_90 := rfl
def f90_27   (f : Nat) (y0 : Int) (M : xj_M) : Option (Int × xj_M) := (if (y0) = 0 ∨ (y0) = 1 then some (y0, M) else none)
theorem k90_27 {d f : Nat}     {y0 : Int} {M : xj_M} {R : Int × xj_M} (hy0 : xin y0) (h : f90_27   f y0 M = some R) : xW (d + 0) (none, d + 0, none) xr_90 (27, [], [xI y0], M) (xQi R) := by
  unfold f90_27 at h
  by_cases c101 : (y0) = 0 ∨ (y0) = 1
  · rw [if_pos c101] at h; cases h; exact xe_ret_i (ty := .boolean) (by decide +kernel) rfl (xbool c101) ⟨rfl, rfl, hy0⟩
  · rw [if_neg c101] at h; cases h
def f90_22   (f : Nat)  (M : xj_M) : Option (Int × xj_M) := f90_27   f (1) M
theorem k90_22 {d f : Nat}      {M : xj_M} {R : Int × xj_M}  (h : f90_22   f  M = some R) : xW (d + 0) (none, d + 0, none) xr_90 (22, [], [], M) (xQi R) := by
  unfold f90_22 at h
  refine xe_iconst (n := 1) (by decide +kernel) rfl ?_
  refine xe_goto (off := 4) (nx := 27) (by decide +kernel) (by decide) ?_
  refine xW_lv rfl (l := []) (xsb_of trivial (show [].Nodup by decide)) ?_
  exact k90_27   (show xin (1) by decide) h
def f90  (f : Nat) (a0 : Nat) (a1 : Int) (M : xj_M) : Option (Int × xj_M) := ((xq_gr 6 9 (a0) M).bind fun v102 => ((xq_ai 3 (v102) (a1) M).bind fun v104 => (if (v104) = (15) then f90_22   f  M else ((xq_gr 6 9 (a0) M).bind fun v107 => ((xq_ai 3 (v107) (a1) M).bind fun v109 => (if ¬ (v109) = (9) then f90_27   f (0) M else f90_22   f  M))))))
theorem k90 {d f : Nat}   {a0 : Nat} {a1 : Int} {M : xj_M} {R : Int × xj_M} (ha1 : xin a1) (h : f90  f a0 a1 M = some R) : xT (d + 1) 90 [xR_ a0, xI a1] M (xQi R) := by
  refine xT_m xr_90_e (X := (none, d + 0, none)) rfl (xa_1 (xR_cat _) (xa_1 (xI_cat _) xa_n)) (by decide) ?_
  unfold f90 at h
  refine xe_alr (ins := .aload_n 0) (len := 1) (i := 0) (by decide +kernel) rfl rfl rfl rfl rfl ?_
  obtain ⟨v102, e103, h⟩ := xbnd h
  refine xs_gr (i := 22) (c := 6) (k := 9) (by decide +kernel) (by decide) (by decide +kernel) e103 rfl ?_
  refine xe_ldn (ins := .iload_n 1) (len := 1) (by decide +kernel) rfl rfl rfl rfl ?_
  obtain ⟨v104, e105, h⟩ := xbnd h
  refine xs_iald rfl (by decide +kernel) ha1 e105 rfl ?_
  refine xe_bipush (n := 15) (by decide +kernel) (by decide) rfl ?_
  refine xe_icmpeq (off := 14) (t := 22) (by decide +kernel) (by decide) rfl (xq_ai_in e105) (show xin (15) by decide) (fun c106 => ?_) (fun c106 => ?_)
  · rw [if_pos c106] at h
    refine xW_lv rfl (l := []) (xsb_of trivial (show [0, 1].Nodup by decide)) ?_
    exact k90_22    h
  · rw [if_neg c106] at h
    refine xe_alr (ins := .aload_n 0) (len := 1) (i := 0) (by decide +kernel) rfl rfl rfl rfl rfl ?_
    obtain ⟨v107, e108, h⟩ := xbnd h
    refine xs_gr (i := 22) (c := 6) (k := 9) (by decide +kernel) (by decide) (by decide +kernel) e108 rfl ?_
    refine xe_ldn (ins := .iload_n 1) (len := 1) (by decide +kernel) rfl rfl rfl rfl ?_
    obtain ⟨v109, e110, h⟩ := xbnd h
    refine xs_iald rfl (by decide +kernel) ha1 e110 rfl ?_
    refine xe_bipush (n := 9) (by decide +kernel) (by decide) rfl ?_
    refine xe_icmpne (off := 7) (t := 26) (by decide +kernel) (by decide) rfl (xq_ai_in e110) (show xin (9) by decide) (fun c111 => ?_) (fun c111 => ?_)
    · rw [if_pos c111] at h
      refine xe_iconst (n := 0) (by decide +kernel) rfl ?_
      refine xW_lv rfl (l := []) (xsb_of trivial (show [0, 1].Nodup by decide)) ?_
      exact k90_27   (show xin (0) by decide) h
    · rw [if_neg c111] at h
      refine xW_lv rfl (l := []) (xsb_of trivial (show [0, 1].Nodup by decide)) ?_
      exact k90_22    h
-- ChangeHouse$Rule.loneVariable
def xr_91 : xj_mR := (6, yX6_loneVariable, cX6_loneVariable, 3, (Option.some Jvm.ClassFile.FieldType.int), 1, false, (5, 184), (1, 26))
set_option maxRecDepth 20000 in
theorem xr_91_e : xj_row 91 = some xr_91 := rfl
def f91_58   (f : Nat) (y0 : Int) (M : xj_M) : Option (Int × xj_M) := (some (y0, M))
theorem k91_58 {d f : Nat}     {y0 : Int} {M : xj_M} {R : Int × xj_M} (hy0 : xin y0) (h : f91_58   f y0 M = some R) : xW (d + 0) (none, d + 0, none) xr_91 (58, [], [xI y0], M) (xQi R) := by
  unfold f91_58 at h
  cases h
  exact xe_ret_i (ty := .int) (by decide +kernel) rfl rfl ⟨rfl, rfl, hy0⟩
def f91_37   (f : Nat) (x0 : Nat) (x1 : Int) (y0 : Int) (M : xj_M) : Option (Int × xj_M) := (if (y0) = 0 then f91_58   f (-1) M else ((xq_gr 6 17 (x0) M).bind fun v102 => ((xq_gr 6 14 (x0) M).bind fun v104 => ((xq_ai 3 (v104) (x1) M).bind fun v106 => ((xq_al (v102) (v106) M).bind fun v108 => f91_58   f (xwr (v108)) M)))))
theorem k91_37 {d f : Nat}     {x0 : Nat} {x1 : Int} {y0 : Int} {M : xj_M} {R : Int × xj_M} (hx1 : xin x1) (hy0 : xin y0) (h : f91_37   f x0 x1 y0 M = some R) : xW (d + 0) (none, d + 0, none) xr_91 (37, [(0, xR_ x0), (1, xI x1)], [xI y0], M) (xQi R) := by
  unfold f91_37 at h
  refine xe_isr (ins := .istore_n 2) (len := 1) (i := 2) (by decide +kernel) rfl rfl rfl (by decide) (xk_k (show ¬ (0 : Nat) = 2 by decide) (Or.inl (show ¬ (0 + 1 : Nat) = 2 by decide)) (xk_k (show ¬ (1 : Nat) = 2 by decide) (Or.inr (xI_cat _)) xk_n)) rfl ?_
  refine xe_ldn (ins := .iload_n 2) (len := 1) (by decide +kernel) rfl rfl rfl rfl ?_
  refine xe_ifeq (off := 18) (t := 57) (by decide +kernel) (by decide) rfl hy0 (fun c101 => ?_) (fun c101 => ?_)
  · rw [if_pos c101] at h
    refine xe_iconst (n := -1) (by decide +kernel) rfl ?_
    refine xW_lv rfl (l := []) (xsb_of trivial (show [2, 0, 1].Nodup by decide)) ?_
    exact k91_58   (show xin (-1) by decide) h
  · rw [if_neg c101] at h
    refine xe_alr (ins := .aload_n 0) (len := 1) (i := 0) (by decide +kernel) rfl rfl rfl rfl rfl ?_
    obtain ⟨v102, e103, h⟩ := xbnd h
    refine xs_gr (i := 62) (c := 6) (k := 17) (by decide +kernel) (by decide) (by decide +kernel) e103 rfl ?_
    refine xe_alr (ins := .aload_n 0) (len := 1) (i := 0) (by decide +kernel) rfl rfl rfl rfl rfl ?_
    obtain ⟨v104, e105, h⟩ := xbnd h
    refine xs_gr (i := 38) (c := 6) (k := 14) (by decide +kernel) (by decide) (by decide +kernel) e105 rfl ?_
    refine xe_ldn (ins := .iload_n 1) (len := 1) (by decide +kernel) rfl rfl rfl rfl ?_
    obtain ⟨v106, e107, h⟩ := xbnd h
    refine xs_iald rfl (by decide +kernel) hx1 e107 rfl ?_
    obtain ⟨v108, e109, h⟩ := xbnd h
    refine xs_lald (by decide +kernel) (xq_ai_in e107) e109 rfl ?_
    refine xe_l2i (by decide +kernel) rfl ?_
    refine xe_goto (off := 4) (nx := 58) (by decide +kernel) (by decide) ?_
    refine xW_lv rfl (l := []) (xsb_of trivial (show [2, 0, 1].Nodup by decide)) ?_
    exact k91_58   (xin_wr _) h
def f91_36   (f : Nat) (x0 : Nat) (x1 : Int) (M : xj_M) : Option (Int × xj_M) := f91_37   f (x0) (x1) (0) M
theorem k91_36 {d f : Nat}     {x0 : Nat} {x1 : Int} {M : xj_M} {R : Int × xj_M} (hx1 : xin x1) (h : f91_36   f x0 x1 M = some R) : xW (d + 0) (none, d + 0, none) xr_91 (36, [(0, xR_ x0), (1, xI x1)], [], M) (xQi R) := by
  unfold f91_36 at h
  refine xe_iconst (n := 0) (by decide +kernel) rfl ?_
  refine xW_lv rfl (l := [(0, xR_ (x0)), (1, xI (x1))]) (xsb_of ⟨rfl, rfl, trivial⟩ (show [0, 1].Nodup by decide)) ?_
  exact k91_37   hx1 (show xin (0) by decide) h
def f91  (f : Nat) (a0 : Nat) (a1 : Int) (M : xj_M) : Option (Int × xj_M) := ((xq_gr 6 15 (a0) M).bind fun v110 => ((xq_ai 3 (v110) (a1) M).bind fun v112 => ((xq_gr 6 14 (a0) M).bind fun v114 => ((xq_ai 3 (v114) (a1) M).bind fun v116 => (if ¬ (xwr ((v112) - (v116))) = (1) then f91_36   f (a0) (a1) M else ((xq_gr 6 16 (a0) M).bind fun v119 => ((xq_gr 6 14 (a0) M).bind fun v121 => ((xq_ai 3 (v121) (a1) M).bind fun v123 => ((xq_ai 3 (v119) (v123) M).bind fun v125 => (if ¬ (v125) = (2) then f91_36   f (a0) (a1) M else f91_37   f (a0) (a1) (1) M))))))))))
theorem k91 {d f : Nat}   {a0 : Nat} {a1 : Int} {M : xj_M} {R : Int × xj_M} (ha1 : xin a1) (h : f91  f a0 a1 M = some R) : xT (d + 1) 91 [xR_ a0, xI a1] M (xQi R) := by
  refine xT_m xr_91_e (X := (none, d + 0, none)) rfl (xa_1 (xR_cat _) (xa_1 (xI_cat _) xa_n)) (by decide) ?_
  unfold f91 at h
  refine xe_alr (ins := .aload_n 0) (len := 1) (i := 0) (by decide +kernel) rfl rfl rfl rfl rfl ?_
  obtain ⟨v110, e111, h⟩ := xbnd h
  refine xs_gr (i := 41) (c := 6) (k := 15) (by decide +kernel) (by decide) (by decide +kernel) e111 rfl ?_
  refine xe_ldn (ins := .iload_n 1) (len := 1) (by decide +kernel) rfl rfl rfl rfl ?_
  obtain ⟨v112, e113, h⟩ := xbnd h
  refine xs_iald rfl (by decide +kernel) ha1 e113 rfl ?_
  refine xe_alr (ins := .aload_n 0) (len := 1) (i := 0) (by decide +kernel) rfl rfl rfl rfl rfl ?_
  obtain ⟨v114, e115, h⟩ := xbnd h
  refine xs_gr (i := 38) (c := 6) (k := 14) (by decide +kernel) (by decide) (by decide +kernel) e115 rfl ?_
  refine xe_ldn (ins := .iload_n 1) (len := 1) (by decide +kernel) rfl rfl rfl rfl ?_
  obtain ⟨v116, e117, h⟩ := xbnd h
  refine xs_iald rfl (by decide +kernel) ha1 e117 rfl ?_
  refine xe_isub (by decide +kernel) rfl ?_
  refine xe_iconst (n := 1) (by decide +kernel) rfl ?_
  refine xe_icmpne (off := 22) (t := 36) (by decide +kernel) (by decide) rfl (xin_wr _) (show xin (1) by decide) (fun c118 => ?_) (fun c118 => ?_)
  · rw [if_pos c118] at h
    refine xW_lv rfl (l := [(0, xR_ (a0)), (1, xI (a1))]) (xsb_of ⟨rfl, rfl, trivial⟩ (show [0, 1].Nodup by decide)) ?_
    exact k91_36   ha1 h
  · rw [if_neg c118] at h
    refine xe_alr (ins := .aload_n 0) (len := 1) (i := 0) (by decide +kernel) rfl rfl rfl rfl rfl ?_
    obtain ⟨v119, e120, h⟩ := xbnd h
    refine xs_gr (i := 56) (c := 6) (k := 16) (by decide +kernel) (by decide) (by decide +kernel) e120 rfl ?_
    refine xe_alr (ins := .aload_n 0) (len := 1) (i := 0) (by decide +kernel) rfl rfl rfl rfl rfl ?_
    obtain ⟨v121, e122, h⟩ := xbnd h
    refine xs_gr (i := 38) (c := 6) (k := 14) (by decide +kernel) (by decide) (by decide +kernel) e122 rfl ?_
    refine xe_ldn (ins := .iload_n 1) (len := 1) (by decide +kernel) rfl rfl rfl rfl ?_
    obtain ⟨v123, e124, h⟩ := xbnd h
    refine xs_iald rfl (by decide +kernel) ha1 e124 rfl ?_
    obtain ⟨v125, e126, h⟩ := xbnd h
    refine xs_iald rfl (by decide +kernel) (xq_ai_in e124) e126 rfl ?_
    refine xe_iconst (n := 2) (by decide +kernel) rfl ?_
    refine xe_icmpne (off := 7) (t := 36) (by decide +kernel) (by decide) rfl (xq_ai_in e126) (show xin (2) by decide) (fun c127 => ?_) (fun c127 => ?_)
    · rw [if_pos c127] at h
      refine xW_lv rfl (l := [(0, xR_ (a0)), (1, xI (a1))]) (xsb_of ⟨rfl, rfl, trivial⟩ (show [0, 1].Nodup by decide)) ?_
      exact k91_36   ha1 h
    · rw [if_neg c127] at h
      refine xe_iconst (n := 1) (by decide +kernel) rfl ?_
      refine xe_goto (off := 4) (nx := 37) (by decide +kernel) (by decide) ?_
      refine xW_lv rfl (l := [(0, xR_ (a0)), (1, xI (a1))]) (xsb_of ⟨rfl, rfl, trivial⟩ (show [0, 1].Nodup by decide)) ?_
      exact k91_37   ha1 (show xin (1) by decide) h
