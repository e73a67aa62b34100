/-! Mirrors (written by mk_mir.py) -/
-- ChangeHouse$Works.gathersGiven
def xr_167 : xj_mR := (10, yX10_gathersGiven, cX10_gathersGiven, 10, (Option.some Jvm.ClassFile.FieldType.boolean), 2, false, (8, 92), (1, 5))
set_option maxRecDepth 20000 in
theorem xr_167_e : xj_row 167 = some xr_167 := rfl
def f167_138  (r18 : Nat → Nat → Int → Int → Int → xj_M → Option (Int × xj_M)) (f : Nat) (x0 : Nat) (x1 : Nat) (x3 : Int) (x4 : Int) (x6 : Int) (M : xj_M) : Option (Int × xj_M) := r18 (x0) (x1) (x3) (x4) (xwr ((x6) + (1))) M
theorem k167_138 {d f : Nat}  {r18 : Nat → Nat → Int → Int → Int → xj_M → Option (Int × xj_M)}  (hr18 : ∀ {x0 : Nat} {x1 : Nat} {x3 : Int} {x4 : Int} {x6 : Int} {M : xj_M} {R : Int × xj_M}, xin x3 → xiN x4 → xin x6 → r18 x0 x1 x3 x4 x6 M = some R → xW (d + 5) (none, d + 5, none) xr_167 (18, [(0, xR_ x0), (1, xR_ x1), (3, xI x3), (4, xZ x4), (6, xI x6)], [], M) (xQi R)) {x0 : Nat} {x1 : Nat} {x3 : Int} {x4 : Int} {x6 : Int} {M : xj_M} {R : Int × xj_M} (hx3 : xin x3) (hx4 : xiN x4) (hx6 : xin x6) (h : f167_138  r18 f x0 x1 x3 x4 x6 M = some R) : xW (d + 5) (none, d + 5, none) xr_167 (138, [(0, xR_ x0), (1, xR_ x1), (3, xI x3), (4, xZ x4), (6, xI x6)], [], M) (xQi R) := by
  unfold f167_138 at h
  refine xe_iincr (i := 6) (n := 1) (by decide +kernel) (by decide) rfl (xk_k (show ¬ (0 : Nat) = 6 by decide) (Or.inl (show ¬ (0 + 1 : Nat) = 6 by decide)) (xk_k (show ¬ (1 : Nat) = 6 by decide) (Or.inl (show ¬ (1 + 1 : Nat) = 6 by decide)) (xk_k (show ¬ (3 : Nat) = 6 by decide) (Or.inl (show ¬ (3 + 1 : Nat) = 6 by decide)) (xk_k (show ¬ (4 : Nat) = 6 by decide) (Or.inl (show ¬ (4 + 1 : Nat) = 6 by decide)) (xk_d rfl xk_n))))) rfl ?_
  refine xe_goto (off := -123) (nx := 18) (by decide +kernel) (by decide) ?_
  refine xW_lv rfl (l := [(0, xR_ (x0)), (1, xR_ (x1)), (3, xI (x3)), (4, xZ (x4)), (6, xI (xwr ((x6) + (1))))]) (xsb_of ⟨rfl, rfl, rfl, rfl, rfl, trivial⟩ (show [6, 0, 1, 3, 4].Nodup by decide)) ?_
  exact hr18 hx3 hx4 (xin_wr _) h
def f167_134  (r18 : Nat → Nat → Int → Int → Int → xj_M → Option (Int × xj_M)) (f : Nat) (x0 : Nat) (x1 : Nat) (x6 : Int) (y0 : Int) (M : xj_M) : Option (Int × xj_M) := f167_138  r18 f (x0) (x1) (1) (y0) (x6) M
theorem k167_134 {d f : Nat}  {r18 : Nat → Nat → Int → Int → Int → xj_M → Option (Int × xj_M)}  (hr18 : ∀ {x0 : Nat} {x1 : Nat} {x3 : Int} {x4 : Int} {x6 : Int} {M : xj_M} {R : Int × xj_M}, xin x3 → xiN x4 → xin x6 → r18 x0 x1 x3 x4 x6 M = some R → xW (d + 5) (none, d + 5, none) xr_167 (18, [(0, xR_ x0), (1, xR_ x1), (3, xI x3), (4, xZ x4), (6, xI x6)], [], M) (xQi R)) {x0 : Nat} {x1 : Nat} {x6 : Int} {y0 : Int} {M : xj_M} {R : Int × xj_M} (hx6 : xin x6) (hy0 : xiN y0) (h : f167_134  r18 f x0 x1 x6 y0 M = some R) : xW (d + 5) (none, d + 5, none) xr_167 (134, [(0, xR_ x0), (1, xR_ x1), (6, xI x6)], [xZ y0], M) (xQi R) := by
  unfold f167_134 at h
  refine xe_lsr (ins := .lstore 4) (len := 2) (i := 4) (by decide +kernel) rfl rfl rfl (by decide) (xk2_k (show ¬ (0 : Nat) = 4 by decide) (show ¬ (0 : Nat) = 4 + 1 by decide) (Or.inl (show ¬ (0 + 1 : Nat) = 4 by decide)) (xk2_k (show ¬ (1 : Nat) = 4 by decide) (show ¬ (1 : Nat) = 4 + 1 by decide) (Or.inl (show ¬ (1 + 1 : Nat) = 4 by decide)) (xk2_k (show ¬ (6 : Nat) = 4 by decide) (show ¬ (6 : Nat) = 4 + 1 by decide) (Or.inl (show ¬ (6 + 1 : Nat) = 4 by decide)) xk2_n))) rfl ?_
  refine xe_iconst (n := 1) (by decide +kernel) rfl ?_
  refine xe_isr (ins := .istore_n 3) (len := 1) (i := 3) (by decide +kernel) rfl rfl rfl (by decide) (xk_k (show ¬ (4 : Nat) = 3 by decide) (Or.inl (show ¬ (4 + 1 : Nat) = 3 by decide)) (xk_k (show ¬ (0 : Nat) = 3 by decide) (Or.inl (show ¬ (0 + 1 : Nat) = 3 by decide)) (xk_k (show ¬ (1 : Nat) = 3 by decide) (Or.inl (show ¬ (1 + 1 : Nat) = 3 by decide)) (xk_k (show ¬ (6 : Nat) = 3 by decide) (Or.inl (show ¬ (6 + 1 : Nat) = 3 by decide)) xk_n)))) rfl ?_
  refine xW_lv rfl (l := [(0, xR_ (x0)), (1, xR_ (x1)), (3, xI (1)), (4, xZ (y0)), (6, xI (x6))]) (xsb_of ⟨rfl, rfl, rfl, rfl, rfl, trivial⟩ (show [3, 4, 0, 1, 6].Nodup by decide)) ?_
  exact k167_138  hr18 (show xin (1) by decide) hy0 hx6 h
def f167_85  (r18 : Nat → Nat → Int → Int → Int → xj_M → Option (Int × xj_M)) (f : Nat) (x0 : Nat) (x1 : Nat) (x3 : Int) (x4 : Int) (x6 : Int) (x7 : Int) (y0 : Int) (M : xj_M) : Option (Int × xj_M) := (if ¬ (y0) = 0 then f167_138  r18 f (x0) (x1) (x3) (x4) (x6) M else ((xq_gr 10 0 (x0) M).bind fun v102 => ((xq_gr 10 9 (x0) M).bind fun v104 => ((xq_is 9 (v102) M).bind fun _ => ((f142  f (v102) (v104) M).bind fun R108 => (if (R108.1) = 0 then f167_138  r18 f (x0) (x1) (x3) (x4) (x6) R108.2 else ((xq_is 10 (x0) R108.2).bind fun _ => ((f165  f (x0) (x1) R108.2).bind fun R113 => (if (R113.1) = 0 then f167_138  r18 f (x0) (x1) (x3) (x4) (x6) R113.2 else (if (x3) = 0 then f167_134  r18 f (x0) (x1) (x6) (x7) R113.2 else ((xq_gi 6 4 (x1) R113.2).bind fun v117 => ((f160  f (v117) (x4) (x7) R113.2).bind fun R120 => f167_134  r18 f (x0) (x1) (x6) (R120.1) R120.2))))))))))))
theorem k167_85 {d f : Nat}  {r18 : Nat → Nat → Int → Int → Int → xj_M → Option (Int × xj_M)}  (hr18 : ∀ {x0 : Nat} {x1 : Nat} {x3 : Int} {x4 : Int} {x6 : Int} {M : xj_M} {R : Int × xj_M}, xin x3 → xiN x4 → xin x6 → r18 x0 x1 x3 x4 x6 M = some R → xW (d + 5) (none, d + 5, none) xr_167 (18, [(0, xR_ x0), (1, xR_ x1), (3, xI x3), (4, xZ x4), (6, xI x6)], [], M) (xQi R)) {x0 : Nat} {x1 : Nat} {x3 : Int} {x4 : Int} {x6 : Int} {x7 : Int} {y0 : Int} {M : xj_M} {R : Int × xj_M} (hx3 : xin x3) (hx4 : xiN x4) (hx6 : xin x6) (hx7 : xiN x7) (hy0 : xin y0) (h : f167_85  r18 f x0 x1 x3 x4 x6 x7 y0 M = some R) : xW (d + 5) (none, d + 5, none) xr_167 (85, [(0, xR_ x0), (1, xR_ x1), (3, xI x3), (4, xZ x4), (6, xI x6), (7, xZ x7)], [xI y0], M) (xQi R) := by
  unfold f167_85 at h
  refine xe_isr (ins := .istore 9) (len := 2) (i := 9) (by decide +kernel) rfl rfl rfl (by decide) (xk_k (show ¬ (0 : Nat) = 9 by decide) (Or.inl (show ¬ (0 + 1 : Nat) = 9 by decide)) (xk_k (show ¬ (1 : Nat) = 9 by decide) (Or.inl (show ¬ (1 + 1 : Nat) = 9 by decide)) (xk_k (show ¬ (3 : Nat) = 9 by decide) (Or.inl (show ¬ (3 + 1 : Nat) = 9 by decide)) (xk_k (show ¬ (4 : Nat) = 9 by decide) (Or.inl (show ¬ (4 + 1 : Nat) = 9 by decide)) (xk_k (show ¬ (6 : Nat) = 9 by decide) (Or.inl (show ¬ (6 + 1 : Nat) = 9 by decide)) (xk_k (show ¬ (7 : Nat) = 9 by decide) (Or.inl (show ¬ (7 + 1 : Nat) = 9 by decide)) xk_n)))))) rfl ?_
  refine xe_ldn (ins := .iload 9) (len := 2) (by decide +kernel) rfl rfl rfl rfl ?_
  refine xe_ifne (off := 49) (t := 138) (by decide +kernel) (by decide) rfl hy0 (fun c101 => ?_) (fun c101 => ?_)
  · rw [if_pos c101] at h
    refine xW_lv rfl (l := [(0, xR_ (x0)), (1, xR_ (x1)), (3, xI (x3)), (4, xZ (x4)), (6, xI (x6))]) (xsb_of ⟨rfl, rfl, rfl, rfl, rfl, trivial⟩ (show [9, 0, 1, 3, 4, 6, 7].Nodup by decide)) ?_
    exact k167_138  hr18 hx3 hx4 hx6 h
  · rw [if_neg c101] at h
    refine xe_alr (ins := .aload_n 0) (len := 1) (i := 0) (by decide +kernel) rfl rfl rfl rfl rfl ?_
    obtain ⟨v102, e103, h⟩ := xbnd h
    refine xs_gr (i := 56) (c := 10) (k := 0) (by decide +kernel) (by decide) (by decide +kernel) e103 rfl ?_
    refine xe_alr (ins := .aload_n 0) (len := 1) (i := 0) (by decide +kernel) rfl rfl rfl rfl rfl ?_
    obtain ⟨v104, e105, h⟩ := xbnd h
    refine xs_gr (i := 40) (c := 10) (k := 9) (by decide +kernel) (by decide) (by decide +kernel) e105 rfl ?_
    obtain ⟨_, e107, h⟩ := xbnd h
    obtain ⟨R108, e106, h⟩ := xbnd h
    refine xs_cv (i := 237) (j := 142) (ar := [xR_ (v104)]) (rest := []) (r2 := xr_142) (by decide +kernel) (by decide +kernel) (by decide +kernel) xr_142_e rfl (by decide) (by decide) e107 ?_
    refine xc_i (k142 (d := d + 2)   e106) rfl (fun hi109 => ?_)
    refine xe_ifeq (off := 35) (t := 138) (by decide +kernel) (by decide) rfl hi109 (fun c110 => ?_) (fun c110 => ?_)
    · rw [if_pos c110] at h
      refine xW_lv rfl (l := [(0, xR_ (x0)), (1, xR_ (x1)), (3, xI (x3)), (4, xZ (x4)), (6, xI (x6))]) (xsb_of ⟨rfl, rfl, rfl, rfl, rfl, trivial⟩ (show [9, 0, 1, 3, 4, 6, 7].Nodup by decide)) ?_
      exact k167_138  hr18 hx3 hx4 hx6 h
    · rw [if_neg c110] at h
      refine xe_alr (ins := .aload_n 0) (len := 1) (i := 0) (by decide +kernel) rfl rfl rfl rfl rfl ?_
      refine xe_alr (ins := .aload_n 1) (len := 1) (i := 1) (by decide +kernel) rfl rfl rfl rfl rfl ?_
      obtain ⟨_, e112, h⟩ := xbnd h
      obtain ⟨R113, e111, h⟩ := xbnd h
      refine xs_cv (i := 338) (j := 165) (ar := [xR_ (x1)]) (rest := []) (r2 := xr_165) (by decide +kernel) (by decide +kernel) (by decide +kernel) xr_165_e rfl (by decide) (by decide) e112 ?_
      refine xc_i (k165 (d := d + 4)   e111) rfl (fun hi114 => ?_)
      refine xe_ifeq (off := 27) (t := 138) (by decide +kernel) (by decide) rfl hi114 (fun c115 => ?_) (fun c115 => ?_)
      · rw [if_pos c115] at h
        refine xW_lv rfl (l := [(0, xR_ (x0)), (1, xR_ (x1)), (3, xI (x3)), (4, xZ (x4)), (6, xI (x6))]) (xsb_of ⟨rfl, rfl, rfl, rfl, rfl, trivial⟩ (show [9, 0, 1, 3, 4, 6, 7].Nodup by decide)) ?_
        exact k167_138  hr18 hx3 hx4 hx6 h
      · rw [if_neg c115] at h
        refine xe_ldn (ins := .iload_n 3) (len := 1) (by decide +kernel) rfl rfl rfl rfl ?_
        refine xe_ifeq (off := 17) (t := 132) (by decide +kernel) (by decide) rfl hx3 (fun c116 => ?_) (fun c116 => ?_)
        · rw [if_pos c116] at h
          refine xe_ldn (ins := .lload 7) (len := 2) (by decide +kernel) rfl rfl rfl rfl ?_
          refine xW_lv rfl (l := [(0, xR_ (x0)), (1, xR_ (x1)), (6, xI (x6))]) (xsb_of ⟨rfl, rfl, rfl, trivial⟩ (show [9, 0, 1, 3, 4, 6, 7].Nodup by decide)) ?_
          exact k167_134  hr18 hx6 hx7 h
        · rw [if_neg c116] at h
          refine xe_alr (ins := .aload_n 1) (len := 1) (i := 1) (by decide +kernel) rfl rfl rfl rfl rfl ?_
          obtain ⟨v117, e118, h⟩ := xbnd h
          refine xs_gi (i := 248) (c := 6) (k := 4) (by decide +kernel) (by decide) (by decide +kernel) e118 rfl ?_
          refine xe_ldn (ins := .lload 4) (len := 2) (by decide +kernel) rfl rfl rfl rfl ?_
          refine xe_ldn (ins := .lload 7) (len := 2) (by decide +kernel) rfl rfl rfl rfl ?_
          obtain ⟨R120, e119, h⟩ := xbnd h
          refine xs_cs (kd := 2) (by decide) (i := 273) (j := 160) (ar := [xZ (x7), xZ (x4), xI (v117)]) (rest := []) (r2 := xr_160) (by decide +kernel) (by decide +kernel) (by decide +kernel) xr_160_e rfl (by decide) ?_
          refine xc_l (k160 (d := d + 4)  (xq_gi_in e118) hx4 hx7 e119) rfl (fun hi121 => ?_)
          refine xe_goto (off := 5) (nx := 134) (by decide +kernel) (by decide) ?_
          refine xW_lv rfl (l := [(0, xR_ (x0)), (1, xR_ (x1)), (6, xI (x6))]) (xsb_of ⟨rfl, rfl, rfl, trivial⟩ (show [9, 0, 1, 3, 4, 6, 7].Nodup by decide)) ?_
          exact k167_134  hr18 hx6 hi121 h
def f167_84  (r18 : Nat → Nat → Int → Int → Int → xj_M → Option (Int × xj_M)) (f : Nat) (x0 : Nat) (x1 : Nat) (x3 : Int) (x4 : Int) (x6 : Int) (x7 : Int) (M : xj_M) : Option (Int × xj_M) := f167_85  r18 f (x0) (x1) (x3) (x4) (x6) (x7) (0) M
theorem k167_84 {d f : Nat}  {r18 : Nat → Nat → Int → Int → Int → xj_M → Option (Int × xj_M)}  (hr18 : ∀ {x0 : Nat} {x1 : Nat} {x3 : Int} {x4 : Int} {x6 : Int} {M : xj_M} {R : Int × xj_M}, xin x3 → xiN x4 → xin x6 → r18 x0 x1 x3 x4 x6 M = some R → xW (d + 5) (none, d + 5, none) xr_167 (18, [(0, xR_ x0), (1, xR_ x1), (3, xI x3), (4, xZ x4), (6, xI x6)], [], M) (xQi R)) {x0 : Nat} {x1 : Nat} {x3 : Int} {x4 : Int} {x6 : Int} {x7 : Int} {M : xj_M} {R : Int × xj_M} (hx3 : xin x3) (hx4 : xiN x4) (hx6 : xin x6) (hx7 : xiN x7) (h : f167_84  r18 f x0 x1 x3 x4 x6 x7 M = some R) : xW (d + 5) (none, d + 5, none) xr_167 (84, [(0, xR_ x0), (1, xR_ x1), (3, xI x3), (4, xZ x4), (6, xI x6), (7, xZ x7)], [], M) (xQi R) := by
  unfold f167_84 at h
  refine xe_iconst (n := 0) (by decide +kernel) rfl ?_
  refine xW_lv rfl (l := [(0, xR_ (x0)), (1, xR_ (x1)), (3, xI (x3)), (4, xZ (x4)), (6, xI (x6)), (7, xZ (x7))]) (xsb_of ⟨rfl, rfl, rfl, rfl, rfl, rfl, trivial⟩ (show [0, 1, 3, 4, 6, 7].Nodup by decide)) ?_
  exact k167_85  hr18 hx3 hx4 hx6 hx7 (show xin (0) by decide) h
def f167_60  (r18 : Nat → Nat → Int → Int → Int → xj_M → Option (Int × xj_M)) (f : Nat) (x0 : Nat) (x1 : Nat) (x3 : Int) (x4 : Int) (x6 : Int) (y0 : Int) (M : xj_M) : Option (Int × xj_M) := ((xq_gi 6 4 (x1) M).bind fun v122 => (if ¬ (v122) = (11) then f167_84  r18 f (x0) (x1) (x3) (x4) (x6) (y0) M else (if (y0) ≤ (1000000000000) then f167_84  r18 f (x0) (x1) (x3) (x4) (x6) (y0) M else f167_85  r18 f (x0) (x1) (x3) (x4) (x6) (y0) (1) M)))
theorem k167_60 {d f : Nat}  {r18 : Nat → Nat → Int → Int → Int → xj_M → Option (Int × xj_M)}  (hr18 : ∀ {x0 : Nat} {x1 : Nat} {x3 : Int} {x4 : Int} {x6 : Int} {M : xj_M} {R : Int × xj_M}, xin x3 → xiN x4 → xin x6 → r18 x0 x1 x3 x4 x6 M = some R → xW (d + 5) (none, d + 5, none) xr_167 (18, [(0, xR_ x0), (1, xR_ x1), (3, xI x3), (4, xZ x4), (6, xI x6)], [], M) (xQi R)) {x0 : Nat} {x1 : Nat} {x3 : Int} {x4 : Int} {x6 : Int} {y0 : Int} {M : xj_M} {R : Int × xj_M} (hx3 : xin x3) (hx4 : xiN x4) (hx6 : xin x6) (hy0 : xiN y0) (h : f167_60  r18 f x0 x1 x3 x4 x6 y0 M = some R) : xW (d + 5) (none, d + 5, none) xr_167 (60, [(0, xR_ x0), (1, xR_ x1), (3, xI x3), (4, xZ x4), (6, xI x6)], [xZ y0], M) (xQi R) := by
  unfold f167_60 at h
  refine xe_lsr (ins := .lstore 7) (len := 2) (i := 7) (by decide +kernel) rfl rfl rfl (by decide) (xk2_k (show ¬ (0 : Nat) = 7 by decide) (show ¬ (0 : Nat) = 7 + 1 by decide) (Or.inl (show ¬ (0 + 1 : Nat) = 7 by decide)) (xk2_k (show ¬ (1 : Nat) = 7 by decide) (show ¬ (1 : Nat) = 7 + 1 by decide) (Or.inl (show ¬ (1 + 1 : Nat) = 7 by decide)) (xk2_k (show ¬ (3 : Nat) = 7 by decide) (show ¬ (3 : Nat) = 7 + 1 by decide) (Or.inl (show ¬ (3 + 1 : Nat) = 7 by decide)) (xk2_k (show ¬ (4 : Nat) = 7 by decide) (show ¬ (4 : Nat) = 7 + 1 by decide) (Or.inl (show ¬ (4 + 1 : Nat) = 7 by decide)) (xk2_k (show ¬ (6 : Nat) = 7 by decide) (show ¬ (6 : Nat) = 7 + 1 by decide) (Or.inr (xI_cat _)) xk2_n))))) rfl ?_
  refine xe_alr (ins := .aload_n 1) (len := 1) (i := 1) (by decide +kernel) rfl rfl rfl rfl rfl ?_
  obtain ⟨v122, e123, h⟩ := xbnd h
  refine xs_gi (i := 248) (c := 6) (k := 4) (by decide +kernel) (by decide) (by decide +kernel) e123 rfl ?_
  refine xe_bipush (n := 11) (by decide +kernel) (by decide) rfl ?_
  refine xe_icmpne (off := 16) (t := 84) (by decide +kernel) (by decide) rfl (xq_gi_in e123) (show xin (11) by decide) (fun c124 => ?_) (fun c124 => ?_)
  · rw [if_pos c124] at h
    refine xW_lv rfl (l := [(0, xR_ (x0)), (1, xR_ (x1)), (3, xI (x3)), (4, xZ (x4)), (6, xI (x6)), (7, xZ (y0))]) (xsb_of ⟨rfl, rfl, rfl, rfl, rfl, rfl, trivial⟩ (show [7, 0, 1, 3, 4, 6].Nodup by decide)) ?_
    exact k167_84  hr18 hx3 hx4 hx6 hy0 h
  · rw [if_neg c124] at h
    refine xe_ldn (ins := .lload 7) (len := 2) (by decide +kernel) rfl rfl rfl rfl ?_
    refine xe_ldc2 (i := 257) (n := 1000000000000) (by decide +kernel) (by decide +kernel) rfl ?_
    refine xe_lcmp (by decide +kernel) rfl hy0 (show xiN (1000000000000) by decide) ?_
    refine xe_ifle (off := 7) (t := 84) (by decide +kernel) (by decide) rfl (xin_cmp8 _ _) (fun c125 => ?_) (fun c125 => ?_)
    · have c125 := xcmp8_le.mp c125; rw [if_pos c125] at h
      refine xW_lv rfl (l := [(0, xR_ (x0)), (1, xR_ (x1)), (3, xI (x3)), (4, xZ (x4)), (6, xI (x6)), (7, xZ (y0))]) (xsb_of ⟨rfl, rfl, rfl, rfl, rfl, rfl, trivial⟩ (show [7, 0, 1, 3, 4, 6].Nodup by decide)) ?_
      exact k167_84  hr18 hx3 hx4 hx6 hy0 h
    · have c125 := (not_congr xcmp8_le).mp c125; rw [if_neg c125] at h
      refine xe_iconst (n := 1) (by decide +kernel) rfl ?_
      refine xe_goto (off := 4) (nx := 85) (by decide +kernel) (by decide) ?_
      refine xW_lv rfl (l := [(0, xR_ (x0)), (1, xR_ (x1)), (3, xI (x3)), (4, xZ (x4)), (6, xI (x6)), (7, xZ (y0))]) (xsb_of ⟨rfl, rfl, rfl, rfl, rfl, rfl, trivial⟩ (show [7, 0, 1, 3, 4, 6].Nodup by decide)) ?_
      exact k167_85  hr18 hx3 hx4 hx6 hy0 (show xin (1) by decide) h
def f167_177   (f : Nat) (y0 : Int) (M : xj_M) : Option (Int × xj_M) := (if (y0) = 0 ∨ (y0) = 1 then some (y0, M) else none)
theorem k167_177 {d f : Nat}     {y0 : Int} {M : xj_M} {R : Int × xj_M} (hy0 : xin y0) (h : f167_177   f y0 M = some R) : xW (d + 5) (none, d + 5, none) xr_167 (177, [], [xI y0], M) (xQi R) := by
  unfold f167_177 at h
  by_cases c126 : (y0) = 0 ∨ (y0) = 1
  · rw [if_pos c126] at h; cases h; exact xe_ret_i (ty := .boolean) (by decide +kernel) rfl (xbool c126) ⟨rfl, rfl, hy0⟩
  · rw [if_neg c126] at h; cases h
def f167_176   (f : Nat)  (M : xj_M) : Option (Int × xj_M) := f167_177   f (0) M
theorem k167_176 {d f : Nat}      {M : xj_M} {R : Int × xj_M}  (h : f167_176   f  M = some R) : xW (d + 5) (none, d + 5, none) xr_167 (176, [], [], M) (xQi R) := by
  unfold f167_176 at h
  refine xe_iconst (n := 0) (by decide +kernel) rfl ?_
  refine xW_lv rfl (l := []) (xsb_of trivial (show [].Nodup by decide)) ?_
  exact k167_177   (show xin (0) by decide) h
def f167_144   (f : Nat) (x0 : Nat) (x1 : Nat) (x3 : Int) (x4 : Int) (M : xj_M) : Option (Int × xj_M) := (if (x3) = 0 then f167_176   f  M else ((f397  f (x1) (x4) M).bind fun R129 => (if (R129.1) = 0 then f167_176   f  R129.2 else ((xq_gr 10 11 (x0) R129.2).bind fun v132 => ((xq_gi 6 3 (x1) R129.2).bind fun v134 => ((xq_al (v132) (v134) R129.2).bind fun v136 => (if ¬ (x4) = (v136) then f167_176   f  R129.2 else f167_177   f (1) R129.2)))))))
theorem k167_144 {d f : Nat}     {x0 : Nat} {x1 : Nat} {x3 : Int} {x4 : Int} {M : xj_M} {R : Int × xj_M} (hx3 : xin x3) (hx4 : xiN x4) (h : f167_144   f x0 x1 x3 x4 M = some R) : xW (d + 5) (none, d + 5, none) xr_167 (144, [(0, xR_ x0), (1, xR_ x1), (3, xI x3), (4, xZ x4)], [], M) (xQi R) := by
  unfold f167_144 at h
  refine xe_ldn (ins := .iload_n 3) (len := 1) (by decide +kernel) rfl rfl rfl rfl ?_
  refine xe_ifeq (off := 31) (t := 176) (by decide +kernel) (by decide) rfl hx3 (fun c127 => ?_) (fun c127 => ?_)
  · rw [if_pos c127] at h
    refine xW_lv rfl (l := []) (xsb_of trivial (show [0, 1, 3, 4].Nodup by decide)) ?_
    exact k167_176    h
  · rw [if_neg c127] at h
    refine xe_alr (ins := .aload_n 1) (len := 1) (i := 1) (by decide +kernel) rfl rfl rfl rfl rfl ?_
    refine xe_ldn (ins := .lload 4) (len := 2) (by decide +kernel) rfl rfl rfl rfl ?_
    obtain ⟨R129, e128, h⟩ := xbnd h
    refine xs_cs (kd := 2) (by decide) (i := 288) (j := 397) (ar := [xZ (x4), xR_ (x1)]) (rest := []) (r2 := xr_397) (by decide +kernel) (by decide +kernel) (by decide +kernel) xr_397_e rfl (by decide) ?_
    refine xc_i (k397 (d := d + 4)  hx4 e128) rfl (fun hi130 => ?_)
    refine xe_ifeq (off := 22) (t := 176) (by decide +kernel) (by decide) rfl hi130 (fun c131 => ?_) (fun c131 => ?_)
    · rw [if_pos c131] at h
      refine xW_lv rfl (l := []) (xsb_of trivial (show [0, 1, 3, 4].Nodup by decide)) ?_
      exact k167_176    h
    · rw [if_neg c131] at h
      refine xe_ldn (ins := .lload 4) (len := 2) (by decide +kernel) rfl rfl rfl rfl ?_
      refine xe_alr (ins := .aload_n 0) (len := 1) (i := 0) (by decide +kernel) rfl rfl rfl rfl rfl ?_
      obtain ⟨v132, e133, h⟩ := xbnd h
      refine xs_gr (i := 46) (c := 10) (k := 11) (by decide +kernel) (by decide) (by decide +kernel) e133 rfl ?_
      refine xe_alr (ins := .aload_n 1) (len := 1) (i := 1) (by decide +kernel) rfl rfl rfl rfl rfl ?_
      obtain ⟨v134, e135, h⟩ := xbnd h
      refine xs_gi (i := 189) (c := 6) (k := 3) (by decide +kernel) (by decide) (by decide +kernel) e135 rfl ?_
      obtain ⟨v136, e137, h⟩ := xbnd h
      refine xs_lald (by decide +kernel) (xq_gi_in e135) e137 rfl ?_
      refine xe_lcmp (by decide +kernel) rfl hx4 (xq_al_in e137) ?_
      refine xe_ifne (off := 7) (t := 176) (by decide +kernel) (by decide) rfl (xin_cmp8 _ _) (fun c138 => ?_) (fun c138 => ?_)
      · have c138 := xcmp8_ne.mp c138; rw [if_pos c138] at h
        refine xW_lv rfl (l := []) (xsb_of trivial (show [0, 1, 3, 4].Nodup by decide)) ?_
        exact k167_176    h
      · have c138 := (not_congr xcmp8_ne).mp c138; rw [if_neg c138] at h
        refine xe_iconst (n := 1) (by decide +kernel) rfl ?_
        refine xe_goto (off := 4) (nx := 177) (by decide +kernel) (by decide) ?_
        refine xW_lv rfl (l := []) (xsb_of trivial (show [0, 1, 3, 4].Nodup by decide)) ?_
        exact k167_177   (show xin (1) by decide) h
def f167_18b  (r18 : Nat → Nat → Int → Int → Int → xj_M → Option (Int × xj_M)) (f : Nat) (x0 : Nat) (x1 : Nat) (x3 : Int) (x4 : Int) (x6 : Int) (M : xj_M) : Option (Int × xj_M) := (if (10000000) ≤ (x6) then f167_144   f (x0) (x1) (x3) (x4) M else ((xq_gr 10 0 (x0) M).bind fun v140 => ((xq_is 9 (v140) M).bind fun _ => ((f132  f (v140) M).bind fun R144 => (if (R144.1) = 0 then f167_144   f (x0) (x1) (x3) (x4) R144.2 else ((xq_gi 6 4 (x1) R144.2).bind fun v147 => (if ¬ (v147) = (10) then ((xq_gr 10 0 (x0) R144.2).bind fun v150 => ((xq_gr 9 0 (v150) R144.2).bind fun v152 => ((xq_gi 6 5 (x1) R144.2).bind fun v154 => ((xq_al (v152) (v154) R144.2).bind fun v156 => f167_60  r18 f (x0) (x1) (x3) (x4) (x6) (v156) R144.2)))) else f167_60  r18 f (x0) (x1) (x3) (x4) (x6) (1) R144.2)))))))
theorem k167_18b {d f : Nat}  {r18 : Nat → Nat → Int → Int → Int → xj_M → Option (Int × xj_M)}  (hr18 : ∀ {x0 : Nat} {x1 : Nat} {x3 : Int} {x4 : Int} {x6 : Int} {M : xj_M} {R : Int × xj_M}, xin x3 → xiN x4 → xin x6 → r18 x0 x1 x3 x4 x6 M = some R → xW (d + 5) (none, d + 5, none) xr_167 (18, [(0, xR_ x0), (1, xR_ x1), (3, xI x3), (4, xZ x4), (6, xI x6)], [], M) (xQi R)) {x0 : Nat} {x1 : Nat} {x3 : Int} {x4 : Int} {x6 : Int} {M : xj_M} {R : Int × xj_M} (hx3 : xin x3) (hx4 : xiN x4) (hx6 : xin x6) (h : f167_18b  r18 f x0 x1 x3 x4 x6 M = some R) : xW (d + 5) (none, d + 5, none) xr_167 (18, [(0, xR_ x0), (1, xR_ x1), (3, xI x3), (4, xZ x4), (6, xI x6)], [], M) (xQi R) := by
  unfold f167_18b at h
  refine xe_ldn (ins := .iload 6) (len := 2) (by decide +kernel) rfl rfl rfl rfl ?_
  refine xe_ldci (ins := .ldc 232) (len := 2) (n := 10000000) (by decide +kernel) rfl rfl rfl rfl rfl rfl ?_
  refine xe_icmpge (off := 122) (t := 144) (by decide +kernel) (by decide) rfl hx6 (show xin (10000000) by decide) (fun c139 => ?_) (fun c139 => ?_)
  · rw [if_pos c139] at h
    refine xW_lv rfl (l := [(0, xR_ (x0)), (1, xR_ (x1)), (3, xI (x3)), (4, xZ (x4))]) (xsb_of ⟨rfl, rfl, rfl, rfl, trivial⟩ (show [0, 1, 3, 4, 6].Nodup by decide)) ?_
    exact k167_144   hx3 hx4 h
  · rw [if_neg c139] at h
    refine xe_alr (ins := .aload_n 0) (len := 1) (i := 0) (by decide +kernel) rfl rfl rfl rfl rfl ?_
    obtain ⟨v140, e141, h⟩ := xbnd h
    refine xs_gr (i := 56) (c := 10) (k := 0) (by decide +kernel) (by decide) (by decide +kernel) e141 rfl ?_
    obtain ⟨_, e143, h⟩ := xbnd h
    obtain ⟨R144, e142, h⟩ := xbnd h
    refine xs_cv (i := 233) (j := 132) (ar := []) (rest := []) (r2 := xr_132) (by decide +kernel) (by decide +kernel) (by decide +kernel) xr_132_e rfl (by decide) (by decide) e143 ?_
    refine xc_i (k132 (d := d + 0)   e142) rfl (fun hi145 => ?_)
    refine xe_ifeq (off := 112) (t := 144) (by decide +kernel) (by decide) rfl hi145 (fun c146 => ?_) (fun c146 => ?_)
    · rw [if_pos c146] at h
      refine xW_lv rfl (l := [(0, xR_ (x0)), (1, xR_ (x1)), (3, xI (x3)), (4, xZ (x4))]) (xsb_of ⟨rfl, rfl, rfl, rfl, trivial⟩ (show [0, 1, 3, 4, 6].Nodup by decide)) ?_
      exact k167_144   hx3 hx4 h
    · rw [if_neg c146] at h
      refine xe_alr (ins := .aload_n 1) (len := 1) (i := 1) (by decide +kernel) rfl rfl rfl rfl rfl ?_
      obtain ⟨v147, e148, h⟩ := xbnd h
      refine xs_gi (i := 248) (c := 6) (k := 4) (by decide +kernel) (by decide) (by decide +kernel) e148 rfl ?_
      refine xe_bipush (n := 10) (by decide +kernel) (by decide) rfl ?_
      refine xe_icmpne (off := 7) (t := 48) (by decide +kernel) (by decide) rfl (xq_gi_in e148) (show xin (10) by decide) (fun c149 => ?_) (fun c149 => ?_)
      · rw [if_pos c149] at h
        refine xe_alr (ins := .aload_n 0) (len := 1) (i := 0) (by decide +kernel) rfl rfl rfl rfl rfl ?_
        obtain ⟨v150, e151, h⟩ := xbnd h
        refine xs_gr (i := 56) (c := 10) (k := 0) (by decide +kernel) (by decide) (by decide +kernel) e151 rfl ?_
        obtain ⟨v152, e153, h⟩ := xbnd h
        refine xs_gr (i := 251) (c := 9) (k := 0) (by decide +kernel) (by decide) (by decide +kernel) e153 rfl ?_
        refine xe_alr (ins := .aload_n 1) (len := 1) (i := 1) (by decide +kernel) rfl rfl rfl rfl rfl ?_
        obtain ⟨v154, e155, h⟩ := xbnd h
        refine xs_gi (i := 254) (c := 6) (k := 5) (by decide +kernel) (by decide) (by decide +kernel) e155 rfl ?_
        obtain ⟨v156, e157, h⟩ := xbnd h
        refine xs_lald (by decide +kernel) (xq_gi_in e155) e157 rfl ?_
        refine xW_lv rfl (l := [(0, xR_ (x0)), (1, xR_ (x1)), (3, xI (x3)), (4, xZ (x4)), (6, xI (x6))]) (xsb_of ⟨rfl, rfl, rfl, rfl, rfl, trivial⟩ (show [0, 1, 3, 4, 6].Nodup by decide)) ?_
        exact k167_60  hr18 hx3 hx4 hx6 (xq_al_in e157) h
      · rw [if_neg c149] at h
        refine xe_lconst (n := 1) (z := 1) (by decide +kernel) rfl rfl ?_
        refine xe_goto (off := 15) (nx := 60) (by decide +kernel) (by decide) ?_
        refine xW_lv rfl (l := [(0, xR_ (x0)), (1, xR_ (x1)), (3, xI (x3)), (4, xZ (x4)), (6, xI (x6))]) (xsb_of ⟨rfl, rfl, rfl, rfl, rfl, trivial⟩ (show [0, 1, 3, 4, 6].Nodup by decide)) ?_
        exact k167_60  hr18 hx3 hx4 hx6 (show xiN (1) by decide) h
def f167_18   (f : Nat) : Nat → Nat → Nat → Int → Int → Int → xj_M → Option (Int × xj_M)
  | 0, _, _, _, _, _, _ => none
  | n + 1, x0, x1, x3, x4, x6, M => f167_18b   (f167_18   f n) f x0 x1 x3 x4 x6 M
theorem k167_18 {d f : Nat}     : ∀ {n : Nat} {x0 : Nat} {x1 : Nat} {x3 : Int} {x4 : Int} {x6 : Int} {M : xj_M} {R : Int × xj_M}, xin x3 → xiN x4 → xin x6 → f167_18   f n x0 x1 x3 x4 x6 M = some R → xW (d + 5) (none, d + 5, none) xr_167 (18, [(0, xR_ x0), (1, xR_ x1), (3, xI x3), (4, xZ x4), (6, xI x6)], [], M) (xQi R) := by
  intro n
  induction n with
  | zero => intros; rename_i h; cases h
  | succ n ih => intros; rename_i h; exact k167_18b   ih (by assumption) (by assumption) (by assumption) h
def f167  (f : Nat) (a0 : Nat) (a1 : Nat) (a2 : Nat) (M : xj_M) : Option (Int × xj_M) := ((xq_gr 10 0 (a0) M).bind fun v158 => ((xq_is 9 (v158) M).bind fun _ => ((f130  f (v158) (a1) (a2) (0) M).bind fun M162 => f167_18   f f (a0) (a1) (0) (0) (0) M162)))
theorem k167 {d f : Nat}   {a0 : Nat} {a1 : Nat} {a2 : Nat} {M : xj_M} {R : Int × xj_M}  (h : f167  f a0 a1 a2 M = some R) : xT (d + 6) 167 [xR_ a0, xR_ a1, xR_ a2] M (xQi R) := by
  refine xT_m xr_167_e (X := (none, d + 5, none)) rfl (xa_1 (xR_cat _) (xa_1 (xR_cat _) (xa_1 (xR_cat _) xa_n))) (by decide) ?_
  unfold f167 at h
  refine xe_iconst (n := 0) (by decide +kernel) rfl ?_
  refine xe_isr (ins := .istore_n 3) (len := 1) (i := 3) (by decide +kernel) rfl rfl rfl (by decide) (xk_k (show ¬ (0 : Nat) = 3 by decide) (Or.inl (show ¬ (0 + 1 : Nat) = 3 by decide)) (xk_k (show ¬ (1 : Nat) = 3 by decide) (Or.inl (show ¬ (1 + 1 : Nat) = 3 by decide)) (xk_k (show ¬ (2 : Nat) = 3 by decide) (Or.inr (xR_cat _)) xk_n))) rfl ?_
  refine xe_lconst (n := 0) (z := 0) (by decide +kernel) rfl rfl ?_
  refine xe_lsr (ins := .lstore 4) (len := 2) (i := 4) (by decide +kernel) rfl rfl rfl (by decide) (xk2_k (show ¬ (3 : Nat) = 4 by decide) (show ¬ (3 : Nat) = 4 + 1 by decide) (Or.inr (xI_cat _)) (xk2_k (show ¬ (0 : Nat) = 4 by decide) (show ¬ (0 : Nat) = 4 + 1 by decide) (Or.inl (show ¬ (0 + 1 : Nat) = 4 by decide)) (xk2_k (show ¬ (1 : Nat) = 4 by decide) (show ¬ (1 : Nat) = 4 + 1 by decide) (Or.inl (show ¬ (1 + 1 : Nat) = 4 by decide)) (xk2_k (show ¬ (2 : Nat) = 4 by decide) (show ¬ (2 : Nat) = 4 + 1 by decide) (Or.inl (show ¬ (2 + 1 : Nat) = 4 by decide)) xk2_n)))) rfl ?_
  refine xe_alr (ins := .aload_n 0) (len := 1) (i := 0) (by decide +kernel) rfl rfl rfl rfl rfl ?_
  obtain ⟨v158, e159, h⟩ := xbnd h
  refine xs_gr (i := 56) (c := 10) (k := 0) (by decide +kernel) (by decide) (by decide +kernel) e159 rfl ?_
  refine xe_alr (ins := .aload_n 1) (len := 1) (i := 1) (by decide +kernel) rfl rfl rfl rfl rfl ?_
  refine xe_alr (ins := .aload_n 2) (len := 1) (i := 2) (by decide +kernel) rfl rfl rfl rfl rfl ?_
  refine xe_iconst (n := 0) (by decide +kernel) rfl ?_
  obtain ⟨_, e161, h⟩ := xbnd h
  obtain ⟨M162, e160, h⟩ := xbnd h
  refine xs_cv (i := 216) (j := 130) (ar := [xI (0), xR_ (a2), xR_ (a1)]) (rest := []) (r2 := xr_130) (by decide +kernel) (by decide +kernel) (by decide +kernel) xr_130_e rfl (by decide) (by decide) e161 ?_
  refine xc_v (k130 (d := d + 3)  (show xin (0) by decide) e160) rfl ?_
  refine xe_iconst (n := 0) (by decide +kernel) rfl ?_
  refine xe_isr (ins := .istore 6) (len := 2) (i := 6) (by decide +kernel) rfl rfl rfl (by decide) (xk_k (show ¬ (4 : Nat) = 6 by decide) (Or.inl (show ¬ (4 + 1 : Nat) = 6 by decide)) (xk_k (show ¬ (3 : Nat) = 6 by decide) (Or.inl (show ¬ (3 + 1 : Nat) = 6 by decide)) (xk_k (show ¬ (0 : Nat) = 6 by decide) (Or.inl (show ¬ (0 + 1 : Nat) = 6 by decide)) (xk_k (show ¬ (1 : Nat) = 6 by decide) (Or.inl (show ¬ (1 + 1 : Nat) = 6 by decide)) (xk_k (show ¬ (2 : Nat) = 6 by decide) (Or.inl (show ¬ (2 + 1 : Nat) = 6 by decide)) xk_n))))) rfl ?_
  refine xW_lv rfl (l := [(0, xR_ (a0)), (1, xR_ (a1)), (3, xI (0)), (4, xZ (0)), (6, xI (0))]) (xsb_of ⟨rfl, rfl, rfl, rfl, rfl, trivial⟩ (show [6, 4, 3, 0, 1, 2].Nodup by decide)) ?_
  exact k167_18   (show xin (0) by decide) (show xiN (0) by decide) (show xin (0) by decide) h
-- ChangeHouse.ask
def xr_179 : xj_mR := (11, yX11_ask, cX11_ask, 6, (Option.some Jvm.ClassFile.FieldType.int), 2, false, (7, 160), (1, 1))
set_option maxRecDepth 20000 in
theorem xr_179_e : xj_row 179 = some xr_179 := rfl
def f179_95  (r29 : Nat → Nat → Int → xj_M → Option (Int × xj_M)) (f : Nat) (x0 : Nat) (x3 : Nat) (x4 : Int) (M : xj_M) : Option (Int × xj_M) := r29 (x0) (x3) (xwr ((x4) + (1))) M
theorem k179_95 {d f : Nat}  {r29 : Nat → Nat → Int → xj_M → Option (Int × xj_M)}  (hr29 : ∀ {x0 : Nat} {x3 : Nat} {x4 : Int} {M : xj_M} {R : Int × xj_M}, xin x4 → r29 x0 x3 x4 M = some R → xW (d + 5) (none, d + 5, none) xr_179 (29, [(0, xR_ x0), (3, xR_ x3), (4, xI x4)], [], M) (xQi R)) {x0 : Nat} {x3 : Nat} {x4 : Int} {M : xj_M} {R : Int × xj_M} (hx4 : xin x4) (h : f179_95  r29 f x0 x3 x4 M = some R) : xW (d + 5) (none, d + 5, none) xr_179 (95, [(0, xR_ x0), (3, xR_ x3), (4, xI x4)], [], M) (xQi R) := by
  unfold f179_95 at h
  refine xe_iincr (i := 4) (n := 1) (by decide +kernel) (by decide) rfl (xk_k (show ¬ (0 : Nat) = 4 by decide) (Or.inl (show ¬ (0 + 1 : Nat) = 4 by decide)) (xk_k (show ¬ (3 : Nat) = 4 by decide) (Or.inr (xR_cat _)) (xk_d rfl xk_n))) rfl ?_
  refine xe_goto (off := -69) (nx := 29) (by decide +kernel) (by decide) ?_
  refine xW_lv rfl (l := [(0, xR_ (x0)), (3, xR_ (x3)), (4, xI (xwr ((x4) + (1))))]) (xsb_of ⟨rfl, rfl, rfl, trivial⟩ (show [4, 0, 3].Nodup by decide)) ?_
  exact hr29 (xin_wr _) h
def f179_121   (f : Nat) (x3 : Nat) (M : xj_M) : Option (Int × xj_M) := ((xq_gi 5 1 (x3) M).bind fun v101 => (some (v101, M)))
theorem k179_121 {d f : Nat}     {x3 : Nat} {M : xj_M} {R : Int × xj_M}  (h : f179_121   f x3 M = some R) : xW (d + 5) (none, d + 5, none) xr_179 (121, [(3, xR_ x3)], [], M) (xQi R) := by
  unfold f179_121 at h
  refine xe_alr (ins := .aload_n 3) (len := 1) (i := 3) (by decide +kernel) rfl rfl rfl rfl rfl ?_
  obtain ⟨v101, e102, h⟩ := xbnd h
  refine xs_gi (i := 283) (c := 5) (k := 1) (by decide +kernel) (by decide) (by decide +kernel) e102 rfl ?_
  cases h
  exact xe_ret_i (ty := .int) (by decide +kernel) rfl rfl ⟨rfl, rfl, (xq_gi_in e102)⟩
def f179_101   (f : Nat) (x0 : Nat) (x3 : Nat) (M : xj_M) : Option (Int × xj_M) := ((xq_gi 5 1 (x3) M).bind fun v103 => (if (v103) ≤ 0 then f179_121   f (x3) M else ((xq_gr 11 10 (x0) M).bind fun v106 => ((xq_pr 11 11 (x0) (v106) M).bind fun M108 => ((xq_pr 11 10 (x0) (x3) M108).bind fun M110 => f179_121   f (x3) M110)))))
theorem k179_101 {d f : Nat}     {x0 : Nat} {x3 : Nat} {M : xj_M} {R : Int × xj_M}  (h : f179_101   f x0 x3 M = some R) : xW (d + 5) (none, d + 5, none) xr_179 (101, [(0, xR_ x0), (3, xR_ x3)], [], M) (xQi R) := by
  unfold f179_101 at h
  refine xe_alr (ins := .aload_n 3) (len := 1) (i := 3) (by decide +kernel) rfl rfl rfl rfl rfl ?_
  obtain ⟨v103, e104, h⟩ := xbnd h
  refine xs_gi (i := 283) (c := 5) (k := 1) (by decide +kernel) (by decide) (by decide +kernel) e104 rfl ?_
  refine xe_ifle (off := 16) (t := 121) (by decide +kernel) (by decide) rfl (xq_gi_in e104) (fun c105 => ?_) (fun c105 => ?_)
  · rw [if_pos c105] at h
    refine xW_lv rfl (l := [(3, xR_ (x3))]) (xsb_of ⟨rfl, trivial⟩ (show [0, 3].Nodup by decide)) ?_
    exact k179_121    h
  · rw [if_neg c105] at h
    refine xe_alr (ins := .aload_n 0) (len := 1) (i := 0) (by decide +kernel) rfl rfl rfl rfl rfl ?_
    refine xe_alr (ins := .aload_n 0) (len := 1) (i := 0) (by decide +kernel) rfl rfl rfl rfl rfl ?_
    obtain ⟨v106, e107, h⟩ := xbnd h
    refine xs_gr (i := 63) (c := 11) (k := 10) (by decide +kernel) (by decide) (by decide +kernel) e107 rfl ?_
    obtain ⟨M108, e109, h⟩ := xbnd h
    refine xs_p (i := 67) (c := 11) (k := 11) (by decide +kernel) (by decide +kernel) (by decide +kernel) e109 rfl ?_
    refine xe_alr (ins := .aload_n 0) (len := 1) (i := 0) (by decide +kernel) rfl rfl rfl rfl rfl ?_
    refine xe_alr (ins := .aload_n 3) (len := 1) (i := 3) (by decide +kernel) rfl rfl rfl rfl rfl ?_
    obtain ⟨M110, e111, h⟩ := xbnd h
    refine xs_p (i := 63) (c := 11) (k := 10) (by decide +kernel) (by decide +kernel) (by decide +kernel) e111 rfl ?_
    refine xW_lv rfl (l := [(3, xR_ (x3))]) (xsb_of ⟨rfl, trivial⟩ (show [0, 3].Nodup by decide)) ?_
    exact k179_121    h
def f179_29b  (r29 : Nat → Nat → Int → xj_M → Option (Int × xj_M)) (f : Nat) (x0 : Nat) (x3 : Nat) (x4 : Int) (M : xj_M) : Option (Int × xj_M) := (if (10000000) ≤ (x4) then f179_101   f (x0) (x3) M else ((xq_gr 11 2 (x0) M).bind fun v113 => ((xq_is 9 (v113) M).bind fun _ => ((f132  f (v113) M).bind fun R117 => (if (R117.1) = 0 then f179_101   f (x0) (x3) R117.2 else ((xq_gr 11 2 (x0) R117.2).bind fun v120 => ((xq_gr 9 0 (v120) R117.2).bind fun v122 => ((xq_is 5 (x3) R117.2).bind fun _ => ((f74  f (x3) (v122) R117.2).bind fun R126 => (if 0 ≤ (R126.1) then f179_95  r29 f (x0) (x3) (x4) R126.2 else ((xq_gi 5 1 (x3) R126.2).bind fun v129 => (if ¬ (v129) = (500) then ((xq_gr 11 2 (x0) R126.2).bind fun v132 => ((xq_gr 9 0 (v132) R126.2).bind fun v134 => ((xq_is 5 (x3) R126.2).bind fun _ => ((f76  f (x3) (xwr ((-1) - (R126.1))) (v134) (0) R126.2).bind fun M138 => f179_95  r29 f (x0) (x3) (x4) M138)))) else (some (-6000, R126.2))))))))))))))
theorem k179_29b {d f : Nat}  {r29 : Nat → Nat → Int → xj_M → Option (Int × xj_M)}  (hr29 : ∀ {x0 : Nat} {x3 : Nat} {x4 : Int} {M : xj_M} {R : Int × xj_M}, xin x4 → r29 x0 x3 x4 M = some R → xW (d + 5) (none, d + 5, none) xr_179 (29, [(0, xR_ x0), (3, xR_ x3), (4, xI x4)], [], M) (xQi R)) {x0 : Nat} {x3 : Nat} {x4 : Int} {M : xj_M} {R : Int × xj_M} (hx4 : xin x4) (h : f179_29b  r29 f x0 x3 x4 M = some R) : xW (d + 5) (none, d + 5, none) xr_179 (29, [(0, xR_ x0), (3, xR_ x3), (4, xI x4)], [], M) (xQi R) := by
  unfold f179_29b at h
  refine xe_ldn (ins := .iload 4) (len := 2) (by decide +kernel) rfl rfl rfl rfl ?_
  refine xe_ldci (ins := .ldc_w 330) (len := 3) (n := 10000000) (by decide +kernel) rfl rfl rfl rfl rfl rfl ?_
  refine xe_icmpge (off := 67) (t := 101) (by decide +kernel) (by decide) rfl hx4 (show xin (10000000) by decide) (fun c112 => ?_) (fun c112 => ?_)
  · rw [if_pos c112] at h
    refine xW_lv rfl (l := [(0, xR_ (x0)), (3, xR_ (x3))]) (xsb_of ⟨rfl, rfl, trivial⟩ (show [0, 3, 4].Nodup by decide)) ?_
    exact k179_101    h
  · rw [if_neg c112] at h
    refine xe_alr (ins := .aload_n 0) (len := 1) (i := 0) (by decide +kernel) rfl rfl rfl rfl rfl ?_
    obtain ⟨v113, e114, h⟩ := xbnd h
    refine xs_gr (i := 28) (c := 11) (k := 2) (by decide +kernel) (by decide) (by decide +kernel) e114 rfl ?_
    obtain ⟨_, e116, h⟩ := xbnd h
    obtain ⟨R117, e115, h⟩ := xbnd h
    refine xs_cv (i := 331) (j := 132) (ar := []) (rest := []) (r2 := xr_132) (by decide +kernel) (by decide +kernel) (by decide +kernel) xr_132_e rfl (by decide) (by decide) e116 ?_
    refine xc_i (k132 (d := d + 0)   e115) rfl (fun hi118 => ?_)
    refine xe_ifeq (off := 57) (t := 101) (by decide +kernel) (by decide) rfl hi118 (fun c119 => ?_) (fun c119 => ?_)
    · rw [if_pos c119] at h
      refine xW_lv rfl (l := [(0, xR_ (x0)), (3, xR_ (x3))]) (xsb_of ⟨rfl, rfl, trivial⟩ (show [0, 3, 4].Nodup by decide)) ?_
      exact k179_101    h
    · rw [if_neg c119] at h
      refine xe_alr (ins := .aload_n 3) (len := 1) (i := 3) (by decide +kernel) rfl rfl rfl rfl rfl ?_
      refine xe_alr (ins := .aload_n 0) (len := 1) (i := 0) (by decide +kernel) rfl rfl rfl rfl rfl ?_
      obtain ⟨v120, e121, h⟩ := xbnd h
      refine xs_gr (i := 28) (c := 11) (k := 2) (by decide +kernel) (by decide) (by decide +kernel) e121 rfl ?_
      obtain ⟨v122, e123, h⟩ := xbnd h
      refine xs_gr (i := 335) (c := 9) (k := 0) (by decide +kernel) (by decide) (by decide +kernel) e123 rfl ?_
      obtain ⟨_, e125, h⟩ := xbnd h
      obtain ⟨R126, e124, h⟩ := xbnd h
      refine xs_cv (i := 336) (j := 74) (ar := [xR_ (v122)]) (rest := []) (r2 := xr_74) (by decide +kernel) (by decide +kernel) (by decide +kernel) xr_74_e rfl (by decide) (by decide) e125 ?_
      refine xc_i (k74 (d := d + 2)   e124) rfl (fun hi127 => ?_)
      refine xe_isr (ins := .istore 5) (len := 2) (i := 5) (by decide +kernel) rfl rfl rfl (by decide) (xk_k (show ¬ (0 : Nat) = 5 by decide) (Or.inl (show ¬ (0 + 1 : Nat) = 5 by decide)) (xk_k (show ¬ (3 : Nat) = 5 by decide) (Or.inl (show ¬ (3 + 1 : Nat) = 5 by decide)) (xk_k (show ¬ (4 : Nat) = 5 by decide) (Or.inr (xI_cat _)) xk_n))) rfl ?_
      refine xe_ldn (ins := .iload 5) (len := 2) (by decide +kernel) rfl rfl rfl rfl ?_
      refine xe_ifge (off := 33) (t := 95) (by decide +kernel) (by decide) rfl hi127 (fun c128 => ?_) (fun c128 => ?_)
      · rw [if_pos c128] at h
        refine xW_lv rfl (l := [(0, xR_ (x0)), (3, xR_ (x3)), (4, xI (x4))]) (xsb_of ⟨rfl, rfl, rfl, trivial⟩ (show [5, 0, 3, 4].Nodup by decide)) ?_
        exact k179_95  hr29 hx4 h
      · rw [if_neg c128] at h
        refine xe_alr (ins := .aload_n 3) (len := 1) (i := 3) (by decide +kernel) rfl rfl rfl rfl rfl ?_
        obtain ⟨v129, e130, h⟩ := xbnd h
        refine xs_gi (i := 283) (c := 5) (k := 1) (by decide +kernel) (by decide) (by decide +kernel) e130 rfl ?_
        refine xe_sipush (n := 500) (by decide +kernel) (by decide) rfl ?_
        refine xe_icmpne (off := 7) (t := 79) (by decide +kernel) (by decide) rfl (xq_gi_in e130) (show xin (500) by decide) (fun c131 => ?_) (fun c131 => ?_)
        · rw [if_pos c131] at h
          refine xe_alr (ins := .aload_n 3) (len := 1) (i := 3) (by decide +kernel) rfl rfl rfl rfl rfl ?_
          refine xe_iconst (n := -1) (by decide +kernel) rfl ?_
          refine xe_ldn (ins := .iload 5) (len := 2) (by decide +kernel) rfl rfl rfl rfl ?_
          refine xe_isub (by decide +kernel) rfl ?_
          refine xe_alr (ins := .aload_n 0) (len := 1) (i := 0) (by decide +kernel) rfl rfl rfl rfl rfl ?_
          obtain ⟨v132, e133, h⟩ := xbnd h
          refine xs_gr (i := 28) (c := 11) (k := 2) (by decide +kernel) (by decide) (by decide +kernel) e133 rfl ?_
          obtain ⟨v134, e135, h⟩ := xbnd h
          refine xs_gr (i := 335) (c := 9) (k := 0) (by decide +kernel) (by decide) (by decide +kernel) e135 rfl ?_
          refine xe_iconst (n := 0) (by decide +kernel) rfl ?_
          obtain ⟨_, e137, h⟩ := xbnd h
          obtain ⟨M138, e136, h⟩ := xbnd h
          refine xs_cv (i := 340) (j := 76) (ar := [xI (0), xR_ (v134), xI (xwr ((-1) - (R126.1)))]) (rest := []) (r2 := xr_76) (by decide +kernel) (by decide +kernel) (by decide +kernel) xr_76_e rfl (by decide) (by decide) e137 ?_
          refine xc_v (k76 (d := d + 4)  (xin_wr _) (show xin (0) by decide) e136) rfl ?_
          refine xW_lv rfl (l := [(0, xR_ (x0)), (3, xR_ (x3)), (4, xI (x4))]) (xsb_of ⟨rfl, rfl, rfl, trivial⟩ (show [5, 0, 3, 4].Nodup by decide)) ?_
          exact k179_95  hr29 hx4 h
        · rw [if_neg c131] at h
          refine xe_sipush (n := -6000) (by decide +kernel) (by decide) rfl ?_
          cases h
          exact xe_ret_i (ty := .int) (by decide +kernel) rfl rfl ⟨rfl, rfl, (show xin (-6000) by decide)⟩
def f179_29   (f : Nat) : Nat → Nat → Nat → Int → xj_M → Option (Int × xj_M)
  | 0, _, _, _, _ => none
  | n + 1, x0, x3, x4, M => f179_29b   (f179_29   f n) f x0 x3 x4 M
theorem k179_29 {d f : Nat}     : ∀ {n : Nat} {x0 : Nat} {x3 : Nat} {x4 : Int} {M : xj_M} {R : Int × xj_M}, xin x4 → f179_29   f n x0 x3 x4 M = some R → xW (d + 5) (none, d + 5, none) xr_179 (29, [(0, xR_ x0), (3, xR_ x3), (4, xI x4)], [], M) (xQi R) := by
  intro n
  induction n with
  | zero => intros; rename_i h; cases h
  | succ n ih => intros; rename_i h; exact k179_29b   ih (by assumption) h
def f179  (f : Nat) (a0 : Nat) (a1 : Nat) (a2 : Nat) (M : xj_M) : Option (Int × xj_M) := ((xq_gr 11 11 (a0) M).bind fun v140 => ((xq_gi 6 6 (a1) M).bind fun v142 => ((xq_is 5 (v140) M).bind fun _ => ((f69  f (v140) (v142) M).bind fun M146 => ((xq_gr 11 2 (a0) M146).bind fun v148 => ((xq_gr 2 1 (a2) M146).bind fun v150 => ((xq_is 9 (v148) M146).bind fun _ => ((f130  f (v148) (a1) (v150) (0) M146).bind fun M154 => f179_29   f f (a0) (v140) (0) M154))))))))
theorem k179 {d f : Nat}   {a0 : Nat} {a1 : Nat} {a2 : Nat} {M : xj_M} {R : Int × xj_M}  (h : f179  f a0 a1 a2 M = some R) : xT (d + 6) 179 [xR_ a0, xR_ a1, xR_ a2] M (xQi R) := by
  refine xT_m xr_179_e (X := (none, d + 5, none)) rfl (xa_1 (xR_cat _) (xa_1 (xR_cat _) (xa_1 (xR_cat _) xa_n))) (by decide) ?_
  unfold f179 at h
  refine xe_alr (ins := .aload_n 0) (len := 1) (i := 0) (by decide +kernel) rfl rfl rfl rfl rfl ?_
  obtain ⟨v140, e141, h⟩ := xbnd h
  refine xs_gr (i := 67) (c := 11) (k := 11) (by decide +kernel) (by decide) (by decide +kernel) e141 rfl ?_
  refine xe_asr (ins := .astore_n 3) (len := 1) (i := 3) (by decide +kernel) rfl rfl rfl (by decide) (xk_k (show ¬ (0 : Nat) = 3 by decide) (Or.inl (show ¬ (0 + 1 : Nat) = 3 by decide)) (xk_k (show ¬ (1 : Nat) = 3 by decide) (Or.inl (show ¬ (1 + 1 : Nat) = 3 by decide)) (xk_k (show ¬ (2 : Nat) = 3 by decide) (Or.inr (xR_cat _)) xk_n))) rfl ?_
  refine xe_alr (ins := .aload_n 3) (len := 1) (i := 3) (by decide +kernel) rfl rfl rfl rfl rfl ?_
  refine xe_alr (ins := .aload_n 1) (len := 1) (i := 1) (by decide +kernel) rfl rfl rfl rfl rfl ?_
  obtain ⟨v142, e143, h⟩ := xbnd h
  refine xs_gi (i := 318) (c := 6) (k := 6) (by decide +kernel) (by decide) (by decide +kernel) e143 rfl ?_
  obtain ⟨_, e145, h⟩ := xbnd h
  obtain ⟨M146, e144, h⟩ := xbnd h
  refine xs_cv (i := 323) (j := 69) (ar := [xI (v142)]) (rest := []) (r2 := xr_69) (by decide +kernel) (by decide +kernel) (by decide +kernel) xr_69_e rfl (by decide) (by decide) e145 ?_
  refine xc_v (k69 (d := d + 4)  (xq_gi_in e143) e144) rfl ?_
  refine xe_alr (ins := .aload_n 0) (len := 1) (i := 0) (by decide +kernel) rfl rfl rfl rfl rfl ?_
  obtain ⟨v148, e149, h⟩ := xbnd h
  refine xs_gr (i := 28) (c := 11) (k := 2) (by decide +kernel) (by decide) (by decide +kernel) e149 rfl ?_
  refine xe_alr (ins := .aload_n 1) (len := 1) (i := 1) (by decide +kernel) rfl rfl rfl rfl rfl ?_
  refine xe_alr (ins := .aload_n 2) (len := 1) (i := 2) (by decide +kernel) rfl rfl rfl rfl rfl ?_
  obtain ⟨v150, e151, h⟩ := xbnd h
  refine xs_gr (i := 279) (c := 2) (k := 1) (by decide +kernel) (by decide) (by decide +kernel) e151 rfl ?_
  refine xe_iconst (n := 0) (by decide +kernel) rfl ?_
  obtain ⟨_, e153, h⟩ := xbnd h
  obtain ⟨M154, e152, h⟩ := xbnd h
  refine xs_cv (i := 326) (j := 130) (ar := [xI (0), xR_ (v150), xR_ (a1)]) (rest := []) (r2 := xr_130) (by decide +kernel) (by decide +kernel) (by decide +kernel) xr_130_e rfl (by decide) (by decide) e153 ?_
  refine xc_v (k130 (d := d + 3)  (show xin (0) by decide) e152) rfl ?_
  refine xe_iconst (n := 0) (by decide +kernel) rfl ?_
  refine xe_isr (ins := .istore 4) (len := 2) (i := 4) (by decide +kernel) rfl rfl rfl (by decide) (xk_k (show ¬ (3 : Nat) = 4 by decide) (Or.inr (xR_cat _)) (xk_k (show ¬ (0 : Nat) = 4 by decide) (Or.inl (show ¬ (0 + 1 : Nat) = 4 by decide)) (xk_k (show ¬ (1 : Nat) = 4 by decide) (Or.inl (show ¬ (1 + 1 : Nat) = 4 by decide)) (xk_k (show ¬ (2 : Nat) = 4 by decide) (Or.inl (show ¬ (2 + 1 : Nat) = 4 by decide)) xk_n)))) rfl ?_
  refine xW_lv rfl (l := [(0, xR_ (a0)), (3, xR_ (v140)), (4, xI (0))]) (xsb_of ⟨rfl, rfl, rfl, trivial⟩ (show [4, 3, 0, 1, 2].Nodup by decide)) ?_
  exact k179_29   (show xin (0) by decide) h
-- ChangeHouse$Reader.readCell
def xr_33 : xj_mR := (4, yX4_readCell, cX4_readCell, 3, (Option.some Jvm.ClassFile.FieldType.int), 0, false, (6, 24), (1, 3))
set_option maxRecDepth 20000 in
theorem xr_33_e : xj_row 33 = some xr_33 := rfl
def f33_132   (f : Nat) (x2 : Int) (M : xj_M) : Option ((Nat ⊕ Int) × xj_M) := (some (.inr (x2), M))
theorem k33_132 {d f : Nat}     {x2 : Int} {M : xj_M} {R : (Nat ⊕ Int) × xj_M} (hx2 : xin x2) (h : f33_132   f x2 M = some R) : xW (d + 9) (none, d + 9, none) xr_33 (132, [(2, xI x2)], [], M) (xQti R) := by
  unfold f33_132 at h
  refine xe_ldn (ins := .iload_n 2) (len := 1) (by decide +kernel) rfl rfl rfl rfl ?_
  cases h
  exact xe_ret_i (ty := .int) (by decide +kernel) rfl rfl ⟨rfl, rfl, fun v hv => by cases hv; exact hx2⟩
def f33_99   (f : Nat) (x0 : Nat) (x2 : Int) (M : xj_M) : Option ((Nat ⊕ Int) × xj_M) := ((xq_nw 0 M).bind fun p101 => ((xq_gr 4 7 (x0) p101.2).bind fun v103 => ((xq_gi 4 9 (x0) p101.2).bind fun v105 => ((f383  f (v103) (v105) p101.2).bind fun R108 => ((xq_gr 4 8 (x0) R108.2).bind fun v110 => ((xq_gi 4 9 (x0) R108.2).bind fun v112 => ((f384  f (v110) (v112) R108.2).bind fun R115 => ((f0  f (p101.1) (R108.1) (R115.1) R115.2).bind fun M118 => ((xq_pr 4 6 (x0) (p101.1) M118).bind fun M120 => f33_132   f (x2) M120)))))))))
theorem k33_99 {d f : Nat}     {x0 : Nat} {x2 : Int} {M : xj_M} {R : (Nat ⊕ Int) × xj_M} (hx2 : xin x2) (h : f33_99   f x0 x2 M = some R) : xW (d + 9) (none, d + 9, none) xr_33 (99, [(0, xR_ x0), (2, xI x2)], [], M) (xQti R) := by
  unfold f33_99 at h
  refine xe_alr (ins := .aload_n 0) (len := 1) (i := 0) (by decide +kernel) rfl rfl rfl rfl rfl ?_
  obtain ⟨p101, e102, h⟩ := xbnd h
  refine xs_nw (i := 133) (ci := 0) (x := p101.1) (M1 := p101.2) (by decide +kernel) (by decide +kernel) e102 rfl ?_
  refine xe_dupr (by decide +kernel) rfl ?_
  refine xe_alr (ins := .aload_n 0) (len := 1) (i := 0) (by decide +kernel) rfl rfl rfl rfl rfl ?_
  obtain ⟨v103, e104, h⟩ := xbnd h
  refine xs_gr (i := 9) (c := 4) (k := 7) (by decide +kernel) (by decide) (by decide +kernel) e104 rfl ?_
  refine xe_alr (ins := .aload_n 0) (len := 1) (i := 0) (by decide +kernel) rfl rfl rfl rfl rfl ?_
  obtain ⟨v105, e106, h⟩ := xbnd h
  refine xs_gi (i := 90) (c := 4) (k := 9) (by decide +kernel) (by decide) (by decide +kernel) e106 rfl ?_
  obtain ⟨R108, e107, h⟩ := xbnd h
  refine xs_cs (kd := 2) (by decide) (i := 135) (j := 383) (ar := [xI (v105), xR_ (v103)]) (rest := [xR_ (p101.1), xR_ (p101.1), xR_ (x0)]) (r2 := xr_383) (by decide +kernel) (by decide +kernel) (by decide +kernel) xr_383_e rfl (by simp only [List.map_cons, List.map_nil, List.sum_cons, List.sum_nil, xR_cat, xI_cat, xZ_cat]; decide) ?_
  refine xc_r (k383 (d := d + 8)  (xq_gi_in e106) e107) rfl ?_
  refine xe_alr (ins := .aload_n 0) (len := 1) (i := 0) (by decide +kernel) rfl rfl rfl rfl rfl ?_
  obtain ⟨v110, e111, h⟩ := xbnd h
  refine xs_gr (i := 15) (c := 4) (k := 8) (by decide +kernel) (by decide) (by decide +kernel) e111 rfl ?_
  refine xe_alr (ins := .aload_n 0) (len := 1) (i := 0) (by decide +kernel) rfl rfl rfl rfl rfl ?_
  obtain ⟨v112, e113, h⟩ := xbnd h
  refine xs_gi (i := 90) (c := 4) (k := 9) (by decide +kernel) (by decide) (by decide +kernel) e113 rfl ?_
  obtain ⟨R115, e114, h⟩ := xbnd h
  refine xs_cs (kd := 2) (by decide) (i := 141) (j := 384) (ar := [xI (v112), xR_ (v110)]) (rest := [xR_ (R108.1), xR_ (p101.1), xR_ (p101.1), xR_ (x0)]) (r2 := xr_384) (by decide +kernel) (by decide +kernel) (by decide +kernel) xr_384_e rfl (by simp only [List.map_cons, List.map_nil, List.sum_cons, List.sum_nil, xR_cat, xI_cat, xZ_cat]; decide) ?_
  refine xc_r (k384 (d := d + 8)  (xq_gi_in e113) e114) rfl ?_
  obtain ⟨M118, e117, h⟩ := xbnd h
  refine xs_ci (kd := 1) (by decide) (i := 144) (j := 0) (ar := [xR_ (R115.1), xR_ (R108.1)]) (rest := [xR_ (p101.1), xR_ (x0)]) (r2 := xr_0) (by decide +kernel) (by decide +kernel) xr_0_e rfl rfl (by simp only [List.map_cons, List.map_nil, List.sum_cons, List.sum_nil, xR_cat, xI_cat, xZ_cat]; decide) (xq_nw_ne e102) ?_
  refine xc_v (k0 (d := d + 6)   e117) rfl ?_
  obtain ⟨M120, e121, h⟩ := xbnd h
  refine xs_p (i := 125) (c := 4) (k := 6) (by decide +kernel) (by decide +kernel) (by decide +kernel) e121 rfl ?_
  refine xW_lv rfl (l := [(2, xI (x2))]) (xsb_of ⟨rfl, trivial⟩ (show [0, 2].Nodup by decide)) ?_
  exact k33_132   hx2 h
def f33_32   (f : Nat) (x0 : Nat) (M : xj_M) : Option ((Nat ⊕ Int) × xj_M) := ((xq_is 4 (x0) M).bind fun _ => ((f52 f (x0) M).bind fun R124 => xth R124 (fun v125 => ((xq_is 4 (x0) R124.2).bind fun _ => ((f38 f (x0) (61) R124.2).bind fun R130 => xth R130 (fun _ => ((xq_pr 4 6 (x0) (0) R130.2).bind fun M134 => ((xq_gr 4 0 (x0) M134).bind fun v136 => ((xq_gr 8 3 (v136) M134).bind fun v138 => ((xq_gi 4 1 (x0) M134).bind fun v140 => ((xq_ai 3 (v138) (v140) M134).bind fun v142 => (if (v142) = 0 then f33_132   f (v125) M134 else ((xq_is 4 (x0) M134).bind fun _ => ((f53 f (x0) (1) M134).bind fun R147 => xth R147 (fun _ => ((xq_gr 4 0 (x0) R147.2).bind fun v151 => ((xq_gr 8 3 (v151) R147.2).bind fun v153 => ((xq_gi 4 1 (x0) R147.2).bind fun v155 => ((xq_ai 3 (v153) (v155) R147.2).bind fun v157 => (if (v157) = 0 then f33_99   f (x0) (v125) R147.2 else ((xq_gr 4 0 (x0) R147.2).bind fun v160 => ((xq_gr 8 4 (v160) R147.2).bind fun v162 => ((xq_gi 4 1 (x0) R147.2).bind fun v164 => ((xq_ai 3 (v162) (v164) R147.2).bind fun v166 => ((xq_is 4 (x0) R147.2).bind fun _ => ((f36 f (x0) (v166) R147.2).bind fun R170 => xth R170 (fun _ => f33_99   f (x0) (v125) R170.2)))))))))))))))))))))))))))
theorem k33_32 {d f : Nat}     {x0 : Nat} {M : xj_M} {R : (Nat ⊕ Int) × xj_M}  (h : f33_32   f x0 M = some R) : xW (d + 9) (none, d + 9, none) xr_33 (32, [(0, xR_ x0)], [], M) (xQti R) := by
  unfold f33_32 at h
  refine xe_alr (ins := .aload_n 0) (len := 1) (i := 0) (by decide +kernel) rfl rfl rfl rfl rfl ?_
  obtain ⟨_, e123, h⟩ := xbnd h
  obtain ⟨R124, e122, h⟩ := xbnd h
  refine xs2_cv (kd := 0) (jj := 52) (by decide) (i := 121) (j := 52) (ar := []) (rest := []) (r2 := xr_52) (by decide +kernel) (by decide +kernel) (by decide +kernel) xr_52_e rfl (by decide) (by decide) e123 ?_
  refine xct_i (k52 (d := d + 2)  e122) rfl (fun e1 g126 => ?_) (fun v125 g126 hi127 => ?_)
  · rw [xth_l g126] at h; cases h; exact xK_thr rfl ⟨rfl, rfl, fun v hv => by cases hv⟩
  · rw [xth_r g126] at h
    refine xe_isr (ins := .istore_n 2) (len := 1) (i := 2) (by decide +kernel) rfl rfl rfl (by decide) (xk_k (show ¬ (0 : Nat) = 2 by decide) (Or.inl (show ¬ (0 + 1 : Nat) = 2 by decide)) xk_n) rfl ?_
    refine xe_alr (ins := .aload_n 0) (len := 1) (i := 0) (by decide +kernel) rfl rfl rfl rfl rfl ?_
    refine xe_bipush (n := 61) (by decide +kernel) (by decide) rfl ?_
    obtain ⟨_, e129, h⟩ := xbnd h
    obtain ⟨R130, e128, h⟩ := xbnd h
    refine xs2_cv (kd := 0) (jj := 38) (by decide) (i := 76) (j := 38) (ar := [xI (61)]) (rest := []) (r2 := xr_38) (by decide +kernel) (by decide +kernel) (by decide +kernel) xr_38_e rfl (by decide) (by decide) e129 ?_
    refine xct_v (k38 (d := d + 2) (show xin (61) by decide) e128) rfl (fun e1 g132 => ?_) (fun g132 => ?_)
    · rw [xth_l g132] at h; cases h; exact xK_thr rfl ⟨rfl, rfl, fun v hv => by cases hv⟩
    · rw [xth_r g132] at h
      refine xe_alr (ins := .aload_n 0) (len := 1) (i := 0) (by decide +kernel) rfl rfl rfl rfl rfl ?_
      refine xe_pure (ins := .aconst_null) (len := 1) (by decide +kernel) rfl rfl rfl ?_
      obtain ⟨M134, e135, h⟩ := xbnd h
      refine xs_p (i := 125) (c := 4) (k := 6) (by decide +kernel) (by decide +kernel) (by decide +kernel) e135 rfl ?_
      refine xe_alr (ins := .aload_n 0) (len := 1) (i := 0) (by decide +kernel) rfl rfl rfl rfl rfl ?_
      obtain ⟨v136, e137, h⟩ := xbnd h
      refine xs_gr (i := 43) (c := 4) (k := 0) (by decide +kernel) (by decide) (by decide +kernel) e137 rfl ?_
      obtain ⟨v138, e139, h⟩ := xbnd h
      refine xs_gr (i := 51) (c := 8) (k := 3) (by decide +kernel) (by decide) (by decide +kernel) e139 rfl ?_
      refine xe_alr (ins := .aload_n 0) (len := 1) (i := 0) (by decide +kernel) rfl rfl rfl rfl rfl ?_
      obtain ⟨v140, e141, h⟩ := xbnd h
      refine xs_gi (i := 54) (c := 4) (k := 1) (by decide +kernel) (by decide) (by decide +kernel) e141 rfl ?_
      obtain ⟨v142, e143, h⟩ := xbnd h
      refine xs_iald rfl (by decide +kernel) (xq_gi_in e141) e143 rfl ?_
      refine xe_ifeq (off := 72) (t := 132) (by decide +kernel) (by decide) rfl (xq_ai_in e143) (fun c144 => ?_) (fun c144 => ?_)
      · rw [if_pos c144] at h
        refine xW_lv rfl (l := [(2, xI (v125))]) (xsb_of ⟨rfl, trivial⟩ (show [2, 0].Nodup by decide)) ?_
        exact k33_132   hi127 h
      · rw [if_neg c144] at h
        refine xe_alr (ins := .aload_n 0) (len := 1) (i := 0) (by decide +kernel) rfl rfl rfl rfl rfl ?_
        refine xe_iconst (n := 1) (by decide +kernel) rfl ?_
        obtain ⟨_, e146, h⟩ := xbnd h
        obtain ⟨R147, e145, h⟩ := xbnd h
        refine xs2_cv (kd := 0) (jj := 53) (by decide) (i := 129) (j := 53) (ar := [xI (1)]) (rest := []) (r2 := xr_53) (by decide +kernel) (by decide +kernel) (by decide +kernel) xr_53_e rfl (by decide) (by decide) e146 ?_
        refine xct_v (k53 (d := d + 0) (show xin (1) by decide) e145) rfl (fun e1 g149 => ?_) (fun g149 => ?_)
        · rw [xth_l g149] at h; cases h; exact xK_thr rfl ⟨rfl, rfl, fun v hv => by cases hv⟩
        · rw [xth_r g149] at h
          refine xe_alr (ins := .aload_n 0) (len := 1) (i := 0) (by decide +kernel) rfl rfl rfl rfl rfl ?_
          obtain ⟨v151, e152, h⟩ := xbnd h
          refine xs_gr (i := 43) (c := 4) (k := 0) (by decide +kernel) (by decide) (by decide +kernel) e152 rfl ?_
          obtain ⟨v153, e154, h⟩ := xbnd h
          refine xs_gr (i := 51) (c := 8) (k := 3) (by decide +kernel) (by decide) (by decide +kernel) e154 rfl ?_
          refine xe_alr (ins := .aload_n 0) (len := 1) (i := 0) (by decide +kernel) rfl rfl rfl rfl rfl ?_
          obtain ⟨v155, e156, h⟩ := xbnd h
          refine xs_gi (i := 54) (c := 4) (k := 1) (by decide +kernel) (by decide) (by decide +kernel) e156 rfl ?_
          obtain ⟨v157, e158, h⟩ := xbnd h
          refine xs_iald rfl (by decide +kernel) (xq_gi_in e156) e158 rfl ?_
          refine xe_ifeq (off := 19) (t := 99) (by decide +kernel) (by decide) rfl (xq_ai_in e158) (fun c159 => ?_) (fun c159 => ?_)
          · rw [if_pos c159] at h
            refine xW_lv rfl (l := [(0, xR_ (x0)), (2, xI (v125))]) (xsb_of ⟨rfl, rfl, trivial⟩ (show [2, 0].Nodup by decide)) ?_
            exact k33_99   hi127 h
          · rw [if_neg c159] at h
            refine xe_alr (ins := .aload_n 0) (len := 1) (i := 0) (by decide +kernel) rfl rfl rfl rfl rfl ?_
            refine xe_alr (ins := .aload_n 0) (len := 1) (i := 0) (by decide +kernel) rfl rfl rfl rfl rfl ?_
            obtain ⟨v160, e161, h⟩ := xbnd h
            refine xs_gr (i := 43) (c := 4) (k := 0) (by decide +kernel) (by decide) (by decide +kernel) e161 rfl ?_
            obtain ⟨v162, e163, h⟩ := xbnd h
            refine xs_gr (i := 80) (c := 8) (k := 4) (by decide +kernel) (by decide) (by decide +kernel) e163 rfl ?_
            refine xe_alr (ins := .aload_n 0) (len := 1) (i := 0) (by decide +kernel) rfl rfl rfl rfl rfl ?_
            obtain ⟨v164, e165, h⟩ := xbnd h
            refine xs_gi (i := 54) (c := 4) (k := 1) (by decide +kernel) (by decide) (by decide +kernel) e165 rfl ?_
            obtain ⟨v166, e167, h⟩ := xbnd h
            refine xs_iald rfl (by decide +kernel) (xq_gi_in e165) e167 rfl ?_
            obtain ⟨_, e169, h⟩ := xbnd h
            obtain ⟨R170, e168, h⟩ := xbnd h
            refine xs2_cv (kd := 0) (jj := 36) (by decide) (i := 83) (j := 36) (ar := [xI (v166)]) (rest := []) (r2 := xr_36) (by decide +kernel) (by decide +kernel) (by decide +kernel) xr_36_e rfl (by decide) (by decide) e169 ?_
            refine xct_v (k36 (d := d + 3) (xq_ai_in e167) e168) rfl (fun e1 g172 => ?_) (fun g172 => ?_)
            · rw [xth_l g172] at h; cases h; exact xK_thr rfl ⟨rfl, rfl, fun v hv => by cases hv⟩
            · rw [xth_r g172] at h
              refine xW_lv rfl (l := [(0, xR_ (x0)), (2, xI (v125))]) (xsb_of ⟨rfl, rfl, trivial⟩ (show [2, 0].Nodup by decide)) ?_
              exact k33_99   hi127 h
def f33  (f : Nat) (a0 : Nat) (M : xj_M) : Option ((Nat ⊕ Int) × xj_M) := ((xq_is 4 (a0) M).bind fun _ => ((f34  f (a0) (0) (0) M).bind fun M176 => ((xq_gr 4 0 (a0) M176).bind fun v178 => ((xq_gi 8 2 (v178) M176).bind fun v180 => (if (xwr ((v180) - (1))) ≤ (62) then f33_32   f (a0) M176 else ((xq_gr 4 0 (a0) M176).bind fun v183 => ((xq_gr 8 3 (v183) M176).bind fun v185 => ((xq_si (v185) (62) (5) M176).bind fun M187 => f33_32   f (a0) M187))))))))
theorem k33 {d f : Nat}   {a0 : Nat} {M : xj_M} {R : (Nat ⊕ Int) × xj_M}  (h : f33  f a0 M = some R) : xT (d + 10) 33 [xR_ a0] M (xQti R) := by
  refine xT_m xr_33_e (X := (none, d + 9, none)) rfl (xa_1 (xR_cat _) xa_n) (by decide) ?_
  unfold f33 at h
  refine xe_alr (ins := .aload_n 0) (len := 1) (i := 0) (by decide +kernel) rfl rfl rfl rfl rfl ?_
  refine xe_pure (ins := .aconst_null) (len := 1) (by decide +kernel) rfl rfl rfl ?_
  refine xe_iconst (n := 0) (by decide +kernel) rfl ?_
  obtain ⟨_, e175, h⟩ := xbnd h
  obtain ⟨M176, e174, h⟩ := xbnd h
  refine xs_cv (i := 47) (j := 34) (ar := [xI (0), xR_ (0)]) (rest := []) (r2 := xr_34) (by decide +kernel) (by decide +kernel) (by decide +kernel) xr_34_e rfl (by decide) (by decide) e175 ?_
  refine xc_v (k34 (d := d + 8)  (show xin (0) by decide) e174) rfl ?_
  refine xe_bipush (n := 62) (by decide +kernel) (by decide) rfl ?_
  refine xe_isr (ins := .istore_n 1) (len := 1) (i := 1) (by decide +kernel) rfl rfl rfl (by decide) (xk_k (show ¬ (0 : Nat) = 1 by decide) (Or.inr (xR_cat _)) xk_n) rfl ?_
  refine xe_alr (ins := .aload_n 0) (len := 1) (i := 0) (by decide +kernel) rfl rfl rfl rfl rfl ?_
  obtain ⟨v178, e179, h⟩ := xbnd h
  refine xs_gr (i := 43) (c := 4) (k := 0) (by decide +kernel) (by decide) (by decide +kernel) e179 rfl ?_
  obtain ⟨v180, e181, h⟩ := xbnd h
  refine xs_gi (i := 118) (c := 8) (k := 2) (by decide +kernel) (by decide) (by decide +kernel) e181 rfl ?_
  refine xe_iconst (n := 1) (by decide +kernel) rfl ?_
  refine xe_isub (by decide +kernel) rfl ?_
  refine xe_ldn (ins := .iload_n 1) (len := 1) (by decide +kernel) rfl rfl rfl rfl ?_
  refine xe_icmple (off := 13) (t := 32) (by decide +kernel) (by decide) rfl (xin_wr _) (show xin (62) by decide) (fun c182 => ?_) (fun c182 => ?_)
  · rw [if_pos c182] at h
    refine xW_lv rfl (l := [(0, xR_ (a0))]) (xsb_of ⟨rfl, trivial⟩ (show [1, 0].Nodup by decide)) ?_
    exact k33_32    h
  · rw [if_neg c182] at h
    refine xe_alr (ins := .aload_n 0) (len := 1) (i := 0) (by decide +kernel) rfl rfl rfl rfl rfl ?_
    obtain ⟨v183, e184, h⟩ := xbnd h
    refine xs_gr (i := 43) (c := 4) (k := 0) (by decide +kernel) (by decide) (by decide +kernel) e184 rfl ?_
    obtain ⟨v185, e186, h⟩ := xbnd h
    refine xs_gr (i := 51) (c := 8) (k := 3) (by decide +kernel) (by decide) (by decide +kernel) e186 rfl ?_
    refine xe_ldn (ins := .iload_n 1) (len := 1) (by decide +kernel) rfl rfl rfl rfl ?_
    refine xe_iconst (n := 5) (by decide +kernel) rfl ?_
    obtain ⟨M187, e188, h⟩ := xbnd h
    refine xs_iast (by decide +kernel) (show xin (62) by decide) e188 rfl ?_
    refine xW_lv rfl (l := [(0, xR_ (a0))]) (xsb_of ⟨rfl, trivial⟩ (show [1, 0].Nodup by decide)) ?_
    exact k33_32    h
-- ChangeHouse$Reader.readItem
def xr_44 : xj_mR := (4, yX4_readItem, cX4_readItem, 2, (Option.none : Option Jvm.ClassFile.FieldType), 0, false, (5, 60), (1, 3))
set_option maxRecDepth 20000 in
theorem xr_44_e : xj_row 44 = some xr_44 := rfl
def f44_25   (f : Nat) (x0 : Nat) (M : xj_M) : Option ((Nat ⊕ Unit) × xj_M) := ((xq_gr 4 5 (x0) M).bind fun v101 => ((xq_gr 6 14 (v101) M).bind fun v103 => ((xq_gr 4 5 (x0) M).bind fun v105 => ((xq_gi 6 2 (v105) M).bind fun v107 => ((xq_gi 4 9 (x0) M).bind fun v109 => ((xq_si (v103) (v107) (v109) M).bind fun M111 => ((xq_is 4 (x0) M111).bind fun _ => ((f53 f (x0) (0) M111).bind fun R115 => xth R115 (fun _ => ((xq_gr 4 5 (x0) R115.2).bind fun v119 => ((xq_gr 6 15 (v119) R115.2).bind fun v121 => ((xq_gr 4 5 (x0) R115.2).bind fun v123 => ((xq_gi 6 2 (v123) R115.2).bind fun v125 => ((xq_gi 4 9 (x0) R115.2).bind fun v127 => ((xq_si (v121) (v125) (v127) R115.2).bind fun M129 => (some (.inr (), M129)))))))))))))))))
theorem k44_25 {d f : Nat}     {x0 : Nat} {M : xj_M} {R : (Nat ⊕ Unit) × xj_M}  (h : f44_25   f x0 M = some R) : xW (d + 9) (none, d + 9, none) xr_44 (25, [(0, xR_ x0)], [], M) (xQtv R) := by
  unfold f44_25 at h
  refine xe_alr (ins := .aload_n 0) (len := 1) (i := 0) (by decide +kernel) rfl rfl rfl rfl rfl ?_
  obtain ⟨v101, e102, h⟩ := xbnd h
  refine xs_gr (i := 86) (c := 4) (k := 5) (by decide +kernel) (by decide) (by decide +kernel) e102 rfl ?_
  obtain ⟨v103, e104, h⟩ := xbnd h
  refine xs_gr (i := 207) (c := 6) (k := 14) (by decide +kernel) (by decide) (by decide +kernel) e104 rfl ?_
  refine xe_alr (ins := .aload_n 0) (len := 1) (i := 0) (by decide +kernel) rfl rfl rfl rfl rfl ?_
  obtain ⟨v105, e106, h⟩ := xbnd h
  refine xs_gr (i := 86) (c := 4) (k := 5) (by decide +kernel) (by decide) (by decide +kernel) e106 rfl ?_
  obtain ⟨v107, e108, h⟩ := xbnd h
  refine xs_gi (i := 197) (c := 6) (k := 2) (by decide +kernel) (by decide) (by decide +kernel) e108 rfl ?_
  refine xe_alr (ins := .aload_n 0) (len := 1) (i := 0) (by decide +kernel) rfl rfl rfl rfl rfl ?_
  obtain ⟨v109, e110, h⟩ := xbnd h
  refine xs_gi (i := 90) (c := 4) (k := 9) (by decide +kernel) (by decide) (by decide +kernel) e110 rfl ?_
  obtain ⟨M111, e112, h⟩ := xbnd h
  refine xs_iast (by decide +kernel) (xq_gi_in e108) e112 rfl ?_
  refine xe_alr (ins := .aload_n 0) (len := 1) (i := 0) (by decide +kernel) rfl rfl rfl rfl rfl ?_
  refine xe_iconst (n := 0) (by decide +kernel) rfl ?_
  obtain ⟨_, e114, h⟩ := xbnd h
  obtain ⟨R115, e113, h⟩ := xbnd h
  refine xs2_cv (kd := 0) (jj := 53) (by decide) (i := 129) (j := 53) (ar := [xI (0)]) (rest := []) (r2 := xr_53) (by decide +kernel) (by decide +kernel) (by decide +kernel) xr_53_e rfl (by decide) (by decide) e114 ?_
  refine xct_v (k53 (d := d + 0) (show xin (0) by decide) e113) rfl (fun e1 g117 => ?_) (fun g117 => ?_)
  · rw [xth_l g117] at h; cases h; exact xK_thr rfl ⟨rfl, rfl⟩
  · rw [xth_r g117] at h
    refine xe_alr (ins := .aload_n 0) (len := 1) (i := 0) (by decide +kernel) rfl rfl rfl rfl rfl ?_
    obtain ⟨v119, e120, h⟩ := xbnd h
    refine xs_gr (i := 86) (c := 4) (k := 5) (by decide +kernel) (by decide) (by decide +kernel) e120 rfl ?_
    obtain ⟨v121, e122, h⟩ := xbnd h
    refine xs_gr (i := 210) (c := 6) (k := 15) (by decide +kernel) (by decide) (by decide +kernel) e122 rfl ?_
    refine xe_alr (ins := .aload_n 0) (len := 1) (i := 0) (by decide +kernel) rfl rfl rfl rfl rfl ?_
    obtain ⟨v123, e124, h⟩ := xbnd h
    refine xs_gr (i := 86) (c := 4) (k := 5) (by decide +kernel) (by decide) (by decide +kernel) e124 rfl ?_
    obtain ⟨v125, e126, h⟩ := xbnd h
    refine xs_gi (i := 197) (c := 6) (k := 2) (by decide +kernel) (by decide) (by decide +kernel) e126 rfl ?_
    refine xe_alr (ins := .aload_n 0) (len := 1) (i := 0) (by decide +kernel) rfl rfl rfl rfl rfl ?_
    obtain ⟨v127, e128, h⟩ := xbnd h
    refine xs_gi (i := 90) (c := 4) (k := 9) (by decide +kernel) (by decide) (by decide +kernel) e128 rfl ?_
    obtain ⟨M129, e130, h⟩ := xbnd h
    refine xs_iast (by decide +kernel) (xq_gi_in e126) e130 rfl ?_
    cases h
    exact xe_ret_v (by decide +kernel) rfl ⟨rfl, rfl⟩
def f44_145   (f : Nat) (x0 : Nat) (M : xj_M) : Option ((Nat ⊕ Unit) × xj_M) := ((xq_is 4 (x0) M).bind fun _ => ((f38 f (x0) (41) M).bind fun R133 => xth R133 (fun _ => (some (.inr (), R133.2)))))
theorem k44_145 {d f : Nat}     {x0 : Nat} {M : xj_M} {R : (Nat ⊕ Unit) × xj_M}  (h : f44_145   f x0 M = some R) : xW (d + 9) (none, d + 9, none) xr_44 (145, [(0, xR_ x0)], [], M) (xQtv R) := by
  unfold f44_145 at h
  refine xe_alr (ins := .aload_n 0) (len := 1) (i := 0) (by decide +kernel) rfl rfl rfl rfl rfl ?_
  refine xe_bipush (n := 41) (by decide +kernel) (by decide) rfl ?_
  obtain ⟨_, e132, h⟩ := xbnd h
  obtain ⟨R133, e131, h⟩ := xbnd h
  refine xs2_cv (kd := 0) (jj := 38) (by decide) (i := 76) (j := 38) (ar := [xI (41)]) (rest := []) (r2 := xr_38) (by decide +kernel) (by decide +kernel) (by decide +kernel) xr_38_e rfl (by decide) (by decide) e132 ?_
  refine xct_v (k38 (d := d + 2) (show xin (41) by decide) e131) rfl (fun e1 g135 => ?_) (fun g135 => ?_)
  · rw [xth_l g135] at h; cases h; exact xK_thr rfl ⟨rfl, rfl⟩
  · rw [xth_r g135] at h
    cases h
    exact xe_ret_v (by decide +kernel) rfl ⟨rfl, rfl⟩
def f44_96   (f : Nat) (x0 : Nat) (x1 : Int) (M : xj_M) : Option ((Nat ⊕ Unit) × xj_M) := ((xq_gr 4 5 (x0) M).bind fun v137 => ((xq_gr 4 5 (x0) M).bind fun v139 => ((xq_gi 6 2 (v139) M).bind fun v141 => ((xq_pi 6 3 (v137) (v141) M).bind fun M143 => ((xq_gr 4 5 (x0) M143).bind fun v145 => ((xq_pi 6 4 (v145) (x1) M143).bind fun M147 => ((xq_is 4 (x0) M147).bind fun _ => ((f37  f (x0) M147).bind fun M151 => ((xq_is 4 (x0) M151).bind fun _ => ((f38 f (x0) (40) M151).bind fun R155 => xth R155 (fun _ => (if (x1) = (10) then f44_145   f (x0) R155.2 else ((xq_gr 4 5 (x0) R155.2).bind fun v160 => ((xq_is 4 (x0) R155.2).bind fun _ => ((f49 f (x0) R155.2).bind fun R164 => xth R164 (fun v165 => ((xq_pi 6 5 (v160) (v165) R164.2).bind fun M168 => f44_145   f (x0) M168)))))))))))))))))
theorem k44_96 {d f : Nat}     {x0 : Nat} {x1 : Int} {M : xj_M} {R : (Nat ⊕ Unit) × xj_M} (hx1 : xin x1) (h : f44_96   f x0 x1 M = some R) : xW (d + 9) (none, d + 9, none) xr_44 (96, [(0, xR_ x0), (1, xI x1)], [], M) (xQtv R) := by
  unfold f44_96 at h
  refine xe_alr (ins := .aload_n 0) (len := 1) (i := 0) (by decide +kernel) rfl rfl rfl rfl rfl ?_
  obtain ⟨v137, e138, h⟩ := xbnd h
  refine xs_gr (i := 86) (c := 4) (k := 5) (by decide +kernel) (by decide) (by decide +kernel) e138 rfl ?_
  refine xe_alr (ins := .aload_n 0) (len := 1) (i := 0) (by decide +kernel) rfl rfl rfl rfl rfl ?_
  obtain ⟨v139, e140, h⟩ := xbnd h
  refine xs_gr (i := 86) (c := 4) (k := 5) (by decide +kernel) (by decide) (by decide +kernel) e140 rfl ?_
  obtain ⟨v141, e142, h⟩ := xbnd h
  refine xs_gi (i := 197) (c := 6) (k := 2) (by decide +kernel) (by decide) (by decide +kernel) e142 rfl ?_
  obtain ⟨M143, e144, h⟩ := xbnd h
  refine xs_p (i := 213) (c := 6) (k := 3) (by decide +kernel) (by decide +kernel) (by decide +kernel) e144 rfl ?_
  refine xe_alr (ins := .aload_n 0) (len := 1) (i := 0) (by decide +kernel) rfl rfl rfl rfl rfl ?_
  obtain ⟨v145, e146, h⟩ := xbnd h
  refine xs_gr (i := 86) (c := 4) (k := 5) (by decide +kernel) (by decide) (by decide +kernel) e146 rfl ?_
  refine xe_ldn (ins := .iload_n 1) (len := 1) (by decide +kernel) rfl rfl rfl rfl ?_
  obtain ⟨M147, e148, h⟩ := xbnd h
  refine xs_p (i := 216) (c := 6) (k := 4) (by decide +kernel) (by decide +kernel) (by decide +kernel) e148 rfl ?_
  refine xe_alr (ins := .aload_n 0) (len := 1) (i := 0) (by decide +kernel) rfl rfl rfl rfl rfl ?_
  obtain ⟨_, e150, h⟩ := xbnd h
  obtain ⟨M151, e149, h⟩ := xbnd h
  refine xs_cv (i := 73) (j := 37) (ar := []) (rest := []) (r2 := xr_37) (by decide +kernel) (by decide +kernel) (by decide +kernel) xr_37_e rfl (by decide) (by decide) e150 ?_
  refine xc_v (k37 (d := d + 8)   e149) rfl ?_
  refine xe_alr (ins := .aload_n 0) (len := 1) (i := 0) (by decide +kernel) rfl rfl rfl rfl rfl ?_
  refine xe_bipush (n := 40) (by decide +kernel) (by decide) rfl ?_
  obtain ⟨_, e154, h⟩ := xbnd h
  obtain ⟨R155, e153, h⟩ := xbnd h
  refine xs2_cv (kd := 0) (jj := 38) (by decide) (i := 76) (j := 38) (ar := [xI (40)]) (rest := []) (r2 := xr_38) (by decide +kernel) (by decide +kernel) (by decide +kernel) xr_38_e rfl (by decide) (by decide) e154 ?_
  refine xct_v (k38 (d := d + 2) (show xin (40) by decide) e153) rfl (fun e1 g157 => ?_) (fun g157 => ?_)
  · rw [xth_l g157] at h; cases h; exact xK_thr rfl ⟨rfl, rfl⟩
  · rw [xth_r g157] at h
    refine xe_ldn (ins := .iload_n 1) (len := 1) (by decide +kernel) rfl rfl rfl rfl ?_
    refine xe_bipush (n := 10) (by decide +kernel) (by decide) rfl ?_
    refine xe_icmpeq (off := 14) (t := 145) (by decide +kernel) (by decide) rfl hx1 (show xin (10) by decide) (fun c159 => ?_) (fun c159 => ?_)
    · rw [if_pos c159] at h
      refine xW_lv rfl (l := [(0, xR_ (x0))]) (xsb_of ⟨rfl, trivial⟩ (show [0, 1].Nodup by decide)) ?_
      exact k44_145    h
    · rw [if_neg c159] at h
      refine xe_alr (ins := .aload_n 0) (len := 1) (i := 0) (by decide +kernel) rfl rfl rfl rfl rfl ?_
      obtain ⟨v160, e161, h⟩ := xbnd h
      refine xs_gr (i := 86) (c := 4) (k := 5) (by decide +kernel) (by decide) (by decide +kernel) e161 rfl ?_
      refine xe_alr (ins := .aload_n 0) (len := 1) (i := 0) (by decide +kernel) rfl rfl rfl rfl rfl ?_
      obtain ⟨_, e163, h⟩ := xbnd h
      obtain ⟨R164, e162, h⟩ := xbnd h
      refine xs2_cv (kd := 0) (jj := 49) (by decide) (i := 219) (j := 49) (ar := []) (rest := [xR_ (v160)]) (r2 := xr_49) (by decide +kernel) (by decide +kernel) (by decide +kernel) xr_49_e rfl (by decide) (by simp only [List.map_cons, List.map_nil, List.sum_cons, List.sum_nil, xR_cat, xI_cat, xZ_cat]; decide) e163 ?_
      refine xct_i (k49 (d := d + 2)  e162) rfl (fun e1 g166 => ?_) (fun v165 g166 hi167 => ?_)
      · rw [xth_l g166] at h; cases h; exact xK_thr rfl ⟨rfl, rfl⟩
      · rw [xth_r g166] at h
        obtain ⟨M168, e169, h⟩ := xbnd h
        refine xs_p (i := 222) (c := 6) (k := 5) (by decide +kernel) (by decide +kernel) (by decide +kernel) e169 rfl ?_
        refine xW_lv rfl (l := [(0, xR_ (x0))]) (xsb_of ⟨rfl, trivial⟩ (show [0, 1].Nodup by decide)) ?_
        exact k44_145    h
def f44  (f : Nat) (a0 : Nat) (M : xj_M) : Option ((Nat ⊕ Unit) × xj_M) := ((xq_gr 4 0 (a0) M).bind fun v170 => ((xq_gr 8 3 (v170) M).bind fun v172 => ((xq_gi 4 1 (a0) M).bind fun v174 => ((xq_ai 3 (v172) (v174) M).bind fun v176 => (if (v176) < (10) then f44_25   f (a0) M else (if (v176) ≤ (13) then ((xq_gr 4 5 (a0) M).bind fun v180 => ((xq_gi 6 3 (v180) M).bind fun v182 => (if (v182) = (-1) then f44_96   f (a0) (v176) M else ((xq_gr 4 0 (a0) M).bind fun v185 => ((xq_gr 8 4 (v185) M).bind fun v187 => ((xq_gi 4 1 (a0) M).bind fun v189 => ((xq_ai 3 (v187) (v189) M).bind fun v191 => ((xq_is 4 (a0) M).bind fun _ => ((f36 f (a0) (v191) M).bind fun R195 => xth R195 (fun _ => f44_96   f (a0) (v176) R195.2)))))))))) else f44_25   f (a0) M))))))
theorem k44 {d f : Nat}   {a0 : Nat} {M : xj_M} {R : (Nat ⊕ Unit) × xj_M}  (h : f44  f a0 M = some R) : xT (d + 10) 44 [xR_ a0] M (xQtv R) := by
  refine xT_m xr_44_e (X := (none, d + 9, none)) rfl (xa_1 (xR_cat _) xa_n) (by decide) ?_
  unfold f44 at h
  refine xe_alr (ins := .aload_n 0) (len := 1) (i := 0) (by decide +kernel) rfl rfl rfl rfl rfl ?_
  obtain ⟨v170, e171, h⟩ := xbnd h
  refine xs_gr (i := 43) (c := 4) (k := 0) (by decide +kernel) (by decide) (by decide +kernel) e171 rfl ?_
  obtain ⟨v172, e173, h⟩ := xbnd h
  refine xs_gr (i := 51) (c := 8) (k := 3) (by decide +kernel) (by decide) (by decide +kernel) e173 rfl ?_
  refine xe_alr (ins := .aload_n 0) (len := 1) (i := 0) (by decide +kernel) rfl rfl rfl rfl rfl ?_
  obtain ⟨v174, e175, h⟩ := xbnd h
  refine xs_gi (i := 54) (c := 4) (k := 1) (by decide +kernel) (by decide) (by decide +kernel) e175 rfl ?_
  obtain ⟨v176, e177, h⟩ := xbnd h
  refine xs_iald rfl (by decide +kernel) (xq_gi_in e175) e177 rfl ?_
  refine xe_isr (ins := .istore_n 1) (len := 1) (i := 1) (by decide +kernel) rfl rfl rfl (by decide) (xk_k (show ¬ (0 : Nat) = 1 by decide) (Or.inr (xR_cat _)) xk_n) rfl ?_
  refine xe_ldn (ins := .iload_n 1) (len := 1) (by decide +kernel) rfl rfl rfl rfl ?_
  refine xe_bipush (n := 10) (by decide +kernel) (by decide) rfl ?_
  refine xe_icmplt (off := 9) (t := 25) (by decide +kernel) (by decide) rfl (xq_ai_in e177) (show xin (10) by decide) (fun c178 => ?_) (fun c178 => ?_)
  · rw [if_pos c178] at h
    refine xW_lv rfl (l := [(0, xR_ (a0))]) (xsb_of ⟨rfl, trivial⟩ (show [1, 0].Nodup by decide)) ?_
    exact k44_25    h
  · rw [if_neg c178] at h
    refine xe_ldn (ins := .iload_n 1) (len := 1) (by decide +kernel) rfl rfl rfl rfl ?_
    refine xe_bipush (n := 13) (by decide +kernel) (by decide) rfl ?_
    refine xe_icmple (off := 47) (t := 69) (by decide +kernel) (by decide) rfl (xq_ai_in e177) (show xin (13) by decide) (fun c179 => ?_) (fun c179 => ?_)
    · rw [if_pos c179] at h
      refine xe_alr (ins := .aload_n 0) (len := 1) (i := 0) (by decide +kernel) rfl rfl rfl rfl rfl ?_
      obtain ⟨v180, e181, h⟩ := xbnd h
      refine xs_gr (i := 86) (c := 4) (k := 5) (by decide +kernel) (by decide) (by decide +kernel) e181 rfl ?_
      obtain ⟨v182, e183, h⟩ := xbnd h
      refine xs_gi (i := 213) (c := 6) (k := 3) (by decide +kernel) (by decide) (by decide +kernel) e183 rfl ?_
      refine xe_iconst (n := -1) (by decide +kernel) rfl ?_
      refine xe_icmpeq (off := 19) (t := 96) (by decide +kernel) (by decide) rfl (xq_gi_in e183) (show xin (-1) by decide) (fun c184 => ?_) (fun c184 => ?_)
      · rw [if_pos c184] at h
        refine xW_lv rfl (l := [(0, xR_ (a0)), (1, xI (v176))]) (xsb_of ⟨rfl, rfl, trivial⟩ (show [1, 0].Nodup by decide)) ?_
        exact k44_96   (xq_ai_in e177) h
      · rw [if_neg c184] at h
        refine xe_alr (ins := .aload_n 0) (len := 1) (i := 0) (by decide +kernel) rfl rfl rfl rfl rfl ?_
        refine xe_alr (ins := .aload_n 0) (len := 1) (i := 0) (by decide +kernel) rfl rfl rfl rfl rfl ?_
        obtain ⟨v185, e186, h⟩ := xbnd h
        refine xs_gr (i := 43) (c := 4) (k := 0) (by decide +kernel) (by decide) (by decide +kernel) e186 rfl ?_
        obtain ⟨v187, e188, h⟩ := xbnd h
        refine xs_gr (i := 80) (c := 8) (k := 4) (by decide +kernel) (by decide) (by decide +kernel) e188 rfl ?_
        refine xe_alr (ins := .aload_n 0) (len := 1) (i := 0) (by decide +kernel) rfl rfl rfl rfl rfl ?_
        obtain ⟨v189, e190, h⟩ := xbnd h
        refine xs_gi (i := 54) (c := 4) (k := 1) (by decide +kernel) (by decide) (by decide +kernel) e190 rfl ?_
        obtain ⟨v191, e192, h⟩ := xbnd h
        refine xs_iald rfl (by decide +kernel) (xq_gi_in e190) e192 rfl ?_
        obtain ⟨_, e194, h⟩ := xbnd h
        obtain ⟨R195, e193, h⟩ := xbnd h
        refine xs2_cv (kd := 0) (jj := 36) (by decide) (i := 83) (j := 36) (ar := [xI (v191)]) (rest := []) (r2 := xr_36) (by decide +kernel) (by decide +kernel) (by decide +kernel) xr_36_e rfl (by decide) (by decide) e194 ?_
        refine xct_v (k36 (d := d + 3) (xq_ai_in e192) e193) rfl (fun e1 g197 => ?_) (fun g197 => ?_)
        · rw [xth_l g197] at h; cases h; exact xK_thr rfl ⟨rfl, rfl⟩
        · rw [xth_r g197] at h
          refine xW_lv rfl (l := [(0, xR_ (a0)), (1, xI (v176))]) (xsb_of ⟨rfl, rfl, trivial⟩ (show [1, 0].Nodup by decide)) ?_
          exact k44_96   (xq_ai_in e177) h
    · rw [if_neg c179] at h
      refine xW_lv rfl (l := [(0, xR_ (a0))]) (xsb_of ⟨rfl, trivial⟩ (show [1, 0].Nodup by decide)) ?_
      exact k44_25    h
-- ChangeHouse$Reader.readLiteral
def xr_45 : xj_mR := (4, yX4_readLiteral, cX4_readLiteral, 4, (Option.none : Option Jvm.ClassFile.FieldType), 0, false, (5, 126), (1, 3))
set_option maxRecDepth 20000 in
theorem xr_45_e : xj_row 45 = some xr_45 := rfl
def f45_133   (f : Nat) (x0 : Nat) (M : xj_M) : Option ((Nat ⊕ Unit) × xj_M) := ((xq_is 4 (x0) M).bind fun _ => ((f46 f (x0) (15) M).bind fun R103 => xth R103 (fun _ => (some (.inr (), R103.2)))))
theorem k45_133 {d f : Nat}     {x0 : Nat} {M : xj_M} {R : (Nat ⊕ Unit) × xj_M}  (h : f45_133   f x0 M = some R) : xW (d + 9) (none, d + 9, none) xr_45 (133, [(0, xR_ x0)], [], M) (xQtv R) := by
  unfold f45_133 at h
  refine xe_alr (ins := .aload_n 0) (len := 1) (i := 0) (by decide +kernel) rfl rfl rfl rfl rfl ?_
  refine xe_bipush (n := 15) (by decide +kernel) (by decide) rfl ?_
  obtain ⟨_, e102, h⟩ := xbnd h
  obtain ⟨R103, e101, h⟩ := xbnd h
  refine xs2_cv (kd := 0) (jj := 46) (by decide) (i := 228) (j := 46) (ar := [xI (15)]) (rest := []) (r2 := xr_46) (by decide +kernel) (by decide +kernel) (by decide +kernel) xr_46_e rfl (by decide) (by decide) e102 ?_
  refine xct_v (k46 (d := d + 1) (show xin (15) by decide) e101) rfl (fun e1 g105 => ?_) (fun g105 => ?_)
  · rw [xth_l g105] at h; cases h; exact xK_thr rfl ⟨rfl, rfl⟩
  · rw [xth_r g105] at h
    cases h
    exact xe_ret_v (by decide +kernel) rfl ⟨rfl, rfl⟩
def f45_288   (f : Nat) (x0 : Nat) (x2 : Int) (x3 : Int) (M : xj_M) : Option ((Nat ⊕ Unit) × xj_M) := ((xq_is 4 (x0) M).bind fun _ => ((f37  f (x0) M).bind fun M109 => ((xq_gr 4 5 (x0) M109).bind fun v111 => ((xq_gr 6 14 (v111) M109).bind fun v113 => ((xq_gi 4 9 (x0) M109).bind fun v115 => ((xq_si (v113) (xwr ((x2) + (1))) (v115) M109).bind fun M117 => ((xq_is 4 (x0) M117).bind fun _ => ((f53 f (x0) (0) M117).bind fun R121 => xth R121 (fun _ => ((xq_gr 4 5 (x0) R121.2).bind fun v125 => ((xq_gr 6 15 (v125) R121.2).bind fun v127 => ((xq_gi 4 9 (x0) R121.2).bind fun v129 => ((xq_si (v127) (xwr ((x2) + (1))) (v129) R121.2).bind fun M131 => ((xq_gr 4 5 (x0) M131).bind fun v133 => ((xq_gr 6 9 (v133) M131).bind fun v135 => ((xq_gr 4 5 (x0) M131).bind fun v137 => ((xq_gi 6 8 (v137) M131).bind fun v139 => ((xq_si (v135) (v139) (x3) M131).bind fun M141 => ((xq_gr 4 5 (x0) M141).bind fun v143 => ((xq_gi 6 8 (v143) M141).bind fun v145 => ((xq_pi 6 8 (v143) (xwr ((v145) + (1))) M141).bind fun M147 => (some (.inr (), M147)))))))))))))))))))))))
theorem k45_288 {d f : Nat}     {x0 : Nat} {x2 : Int} {x3 : Int} {M : xj_M} {R : (Nat ⊕ Unit) × xj_M} (hx2 : xin x2) (hx3 : xin x3) (h : f45_288   f x0 x2 x3 M = some R) : xW (d + 9) (none, d + 9, none) xr_45 (288, [(0, xR_ x0), (2, xI x2), (3, xI x3)], [], M) (xQtv R) := by
  unfold f45_288 at h
  refine xe_alr (ins := .aload_n 0) (len := 1) (i := 0) (by decide +kernel) rfl rfl rfl rfl rfl ?_
  obtain ⟨_, e108, h⟩ := xbnd h
  obtain ⟨M109, e107, h⟩ := xbnd h
  refine xs_cv (i := 73) (j := 37) (ar := []) (rest := []) (r2 := xr_37) (by decide +kernel) (by decide +kernel) (by decide +kernel) xr_37_e rfl (by decide) (by decide) e108 ?_
  refine xc_v (k37 (d := d + 8)   e107) rfl ?_
  refine xe_alr (ins := .aload_n 0) (len := 1) (i := 0) (by decide +kernel) rfl rfl rfl rfl rfl ?_
  obtain ⟨v111, e112, h⟩ := xbnd h
  refine xs_gr (i := 86) (c := 4) (k := 5) (by decide +kernel) (by decide) (by decide +kernel) e112 rfl ?_
  obtain ⟨v113, e114, h⟩ := xbnd h
  refine xs_gr (i := 207) (c := 6) (k := 14) (by decide +kernel) (by decide) (by decide +kernel) e114 rfl ?_
  refine xe_ldn (ins := .iload_n 2) (len := 1) (by decide +kernel) rfl rfl rfl rfl ?_
  refine xe_iconst (n := 1) (by decide +kernel) rfl ?_
  refine xe_iadd (by decide +kernel) rfl ?_
  refine xe_alr (ins := .aload_n 0) (len := 1) (i := 0) (by decide +kernel) rfl rfl rfl rfl rfl ?_
  obtain ⟨v115, e116, h⟩ := xbnd h
  refine xs_gi (i := 90) (c := 4) (k := 9) (by decide +kernel) (by decide) (by decide +kernel) e116 rfl ?_
  obtain ⟨M117, e118, h⟩ := xbnd h
  refine xs_iast (by decide +kernel) (xin_wr _) e118 rfl ?_
  refine xe_alr (ins := .aload_n 0) (len := 1) (i := 0) (by decide +kernel) rfl rfl rfl rfl rfl ?_
  refine xe_iconst (n := 0) (by decide +kernel) rfl ?_
  obtain ⟨_, e120, h⟩ := xbnd h
  obtain ⟨R121, e119, h⟩ := xbnd h
  refine xs2_cv (kd := 0) (jj := 53) (by decide) (i := 129) (j := 53) (ar := [xI (0)]) (rest := []) (r2 := xr_53) (by decide +kernel) (by decide +kernel) (by decide +kernel) xr_53_e rfl (by decide) (by decide) e120 ?_
  refine xct_v (k53 (d := d + 0) (show xin (0) by decide) e119) rfl (fun e1 g123 => ?_) (fun g123 => ?_)
  · rw [xth_l g123] at h; cases h; exact xK_thr rfl ⟨rfl, rfl⟩
  · rw [xth_r g123] at h
    refine xe_alr (ins := .aload_n 0) (len := 1) (i := 0) (by decide +kernel) rfl rfl rfl rfl rfl ?_
    obtain ⟨v125, e126, h⟩ := xbnd h
    refine xs_gr (i := 86) (c := 4) (k := 5) (by decide +kernel) (by decide) (by decide +kernel) e126 rfl ?_
    obtain ⟨v127, e128, h⟩ := xbnd h
    refine xs_gr (i := 210) (c := 6) (k := 15) (by decide +kernel) (by decide) (by decide +kernel) e128 rfl ?_
    refine xe_ldn (ins := .iload_n 2) (len := 1) (by decide +kernel) rfl rfl rfl rfl ?_
    refine xe_iconst (n := 1) (by decide +kernel) rfl ?_
    refine xe_iadd (by decide +kernel) rfl ?_
    refine xe_alr (ins := .aload_n 0) (len := 1) (i := 0) (by decide +kernel) rfl rfl rfl rfl rfl ?_
    obtain ⟨v129, e130, h⟩ := xbnd h
    refine xs_gi (i := 90) (c := 4) (k := 9) (by decide +kernel) (by decide) (by decide +kernel) e130 rfl ?_
    obtain ⟨M131, e132, h⟩ := xbnd h
    refine xs_iast (by decide +kernel) (xin_wr _) e132 rfl ?_
    refine xe_alr (ins := .aload_n 0) (len := 1) (i := 0) (by decide +kernel) rfl rfl rfl rfl rfl ?_
    obtain ⟨v133, e134, h⟩ := xbnd h
    refine xs_gr (i := 86) (c := 4) (k := 5) (by decide +kernel) (by decide) (by decide +kernel) e134 rfl ?_
    obtain ⟨v135, e136, h⟩ := xbnd h
    refine xs_gr (i := 242) (c := 6) (k := 9) (by decide +kernel) (by decide) (by decide +kernel) e136 rfl ?_
    refine xe_alr (ins := .aload_n 0) (len := 1) (i := 0) (by decide +kernel) rfl rfl rfl rfl rfl ?_
    obtain ⟨v137, e138, h⟩ := xbnd h
    refine xs_gr (i := 86) (c := 4) (k := 5) (by decide +kernel) (by decide) (by decide +kernel) e138 rfl ?_
    obtain ⟨v139, e140, h⟩ := xbnd h
    refine xs_gi (i := 225) (c := 6) (k := 8) (by decide +kernel) (by decide) (by decide +kernel) e140 rfl ?_
    refine xe_ldn (ins := .iload_n 3) (len := 1) (by decide +kernel) rfl rfl rfl rfl ?_
    obtain ⟨M141, e142, h⟩ := xbnd h
    refine xs_iast (by decide +kernel) (xq_gi_in e140) e142 rfl ?_
    refine xe_alr (ins := .aload_n 0) (len := 1) (i := 0) (by decide +kernel) rfl rfl rfl rfl rfl ?_
    obtain ⟨v143, e144, h⟩ := xbnd h
    refine xs_gr (i := 86) (c := 4) (k := 5) (by decide +kernel) (by decide) (by decide +kernel) e144 rfl ?_
    refine xe_dupr (by decide +kernel) rfl ?_
    obtain ⟨v145, e146, h⟩ := xbnd h
    refine xs_gi (i := 225) (c := 6) (k := 8) (by decide +kernel) (by decide) (by decide +kernel) e146 rfl ?_
    refine xe_iconst (n := 1) (by decide +kernel) rfl ?_
    refine xe_iadd (by decide +kernel) rfl ?_
    obtain ⟨M147, e148, h⟩ := xbnd h
    refine xs_p (i := 225) (c := 6) (k := 8) (by decide +kernel) (by decide +kernel) (by decide +kernel) e148 rfl ?_
    cases h
    exact xe_ret_v (by decide +kernel) rfl ⟨rfl, rfl⟩
def f45_177   (f : Nat) (x0 : Nat) (M : xj_M) : Option ((Nat ⊕ Unit) × xj_M) := ((xq_gr 4 5 (x0) M).bind fun v149 => ((xq_gi 6 8 (v149) M).bind fun v151 => ((xq_gr 4 5 (x0) M).bind fun v153 => ((xq_gr 6 14 (v153) M).bind fun v155 => ((xq_gi 4 9 (x0) M).bind fun v157 => ((xq_si (v155) (xwr ((4) + (xwr ((2) * (v151))))) (v157) M).bind fun M159 => ((xq_is 4 (x0) M159).bind fun _ => ((f53 f (x0) (0) M159).bind fun R163 => xth R163 (fun _ => ((xq_gr 4 5 (x0) R163.2).bind fun v167 => ((xq_gr 6 15 (v167) R163.2).bind fun v169 => ((xq_gi 4 9 (x0) R163.2).bind fun v171 => ((xq_si (v169) (xwr ((4) + (xwr ((2) * (v151))))) (v171) R163.2).bind fun M173 => ((xq_gr 4 0 (x0) M173).bind fun v175 => ((xq_gr 8 3 (v175) M173).bind fun v177 => ((xq_gi 4 1 (x0) M173).bind fun v179 => ((xq_ai 3 (v177) (v179) M173).bind fun v181 => (if (v181) = (61) then f45_288   f (x0) (xwr ((4) + (xwr ((2) * (v151))))) (v181) M173 else (if (v181) = (60) then f45_288   f (x0) (xwr ((4) + (xwr ((2) * (v151))))) (v181) M173 else (if (v181) = (62) then f45_288   f (x0) (xwr ((4) + (xwr ((2) * (v151))))) (v181) M173 else (if (v181) = (257) then f45_288   f (x0) (xwr ((4) + (xwr ((2) * (v151))))) (v181) M173 else (if (v181) = (258) then f45_288   f (x0) (xwr ((4) + (xwr ((2) * (v151))))) (v181) M173 else (if (v181) = (259) then f45_288   f (x0) (xwr ((4) + (xwr ((2) * (v151))))) (v181) M173 else ((xq_gr 4 0 (x0) M173).bind fun v189 => ((xq_gr 8 4 (v189) M173).bind fun v191 => ((xq_gi 4 1 (x0) M173).bind fun v193 => ((xq_ai 3 (v191) (v193) M173).bind fun v195 => ((xq_is 4 (x0) M173).bind fun _ => ((f36 f (x0) (v195) M173).bind fun R199 => xth R199 (fun _ => f45_288   f (x0) (xwr ((4) + (xwr ((2) * (v151))))) (v181) R199.2))))))))))))))))))))))))))))))
theorem k45_177 {d f : Nat}     {x0 : Nat} {M : xj_M} {R : (Nat ⊕ Unit) × xj_M}  (h : f45_177   f x0 M = some R) : xW (d + 9) (none, d + 9, none) xr_45 (177, [(0, xR_ x0)], [], M) (xQtv R) := by
  unfold f45_177 at h
  refine xe_iconst (n := 4) (by decide +kernel) rfl ?_
  refine xe_iconst (n := 2) (by decide +kernel) rfl ?_
  refine xe_alr (ins := .aload_n 0) (len := 1) (i := 0) (by decide +kernel) rfl rfl rfl rfl rfl ?_
  obtain ⟨v149, e150, h⟩ := xbnd h
  refine xs_gr (i := 86) (c := 4) (k := 5) (by decide +kernel) (by decide) (by decide +kernel) e150 rfl ?_
  obtain ⟨v151, e152, h⟩ := xbnd h
  refine xs_gi (i := 225) (c := 6) (k := 8) (by decide +kernel) (by decide) (by decide +kernel) e152 rfl ?_
  refine xe_imul (by decide +kernel) rfl ?_
  refine xe_iadd (by decide +kernel) rfl ?_
  refine xe_isr (ins := .istore_n 2) (len := 1) (i := 2) (by decide +kernel) rfl rfl rfl (by decide) (xk_k (show ¬ (0 : Nat) = 2 by decide) (Or.inl (show ¬ (0 + 1 : Nat) = 2 by decide)) xk_n) rfl ?_
  refine xe_alr (ins := .aload_n 0) (len := 1) (i := 0) (by decide +kernel) rfl rfl rfl rfl rfl ?_
  obtain ⟨v153, e154, h⟩ := xbnd h
  refine xs_gr (i := 86) (c := 4) (k := 5) (by decide +kernel) (by decide) (by decide +kernel) e154 rfl ?_
  obtain ⟨v155, e156, h⟩ := xbnd h
  refine xs_gr (i := 207) (c := 6) (k := 14) (by decide +kernel) (by decide) (by decide +kernel) e156 rfl ?_
  refine xe_ldn (ins := .iload_n 2) (len := 1) (by decide +kernel) rfl rfl rfl rfl ?_
  refine xe_alr (ins := .aload_n 0) (len := 1) (i := 0) (by decide +kernel) rfl rfl rfl rfl rfl ?_
  obtain ⟨v157, e158, h⟩ := xbnd h
  refine xs_gi (i := 90) (c := 4) (k := 9) (by decide +kernel) (by decide) (by decide +kernel) e158 rfl ?_
  obtain ⟨M159, e160, h⟩ := xbnd h
  refine xs_iast (by decide +kernel) (xin_wr _) e160 rfl ?_
  refine xe_alr (ins := .aload_n 0) (len := 1) (i := 0) (by decide +kernel) rfl rfl rfl rfl rfl ?_
  refine xe_iconst (n := 0) (by decide +kernel) rfl ?_
  obtain ⟨_, e162, h⟩ := xbnd h
  obtain ⟨R163, e161, h⟩ := xbnd h
  refine xs2_cv (kd := 0) (jj := 53) (by decide) (i := 129) (j := 53) (ar := [xI (0)]) (rest := []) (r2 := xr_53) (by decide +kernel) (by decide +kernel) (by decide +kernel) xr_53_e rfl (by decide) (by decide) e162 ?_
  refine xct_v (k53 (d := d + 0) (show xin (0) by decide) e161) rfl (fun e1 g165 => ?_) (fun g165 => ?_)
  · rw [xth_l g165] at h; cases h; exact xK_thr rfl ⟨rfl, rfl⟩
  · rw [xth_r g165] at h
    refine xe_alr (ins := .aload_n 0) (len := 1) (i := 0) (by decide +kernel) rfl rfl rfl rfl rfl ?_
    obtain ⟨v167, e168, h⟩ := xbnd h
    refine xs_gr (i := 86) (c := 4) (k := 5) (by decide +kernel) (by decide) (by decide +kernel) e168 rfl ?_
    obtain ⟨v169, e170, h⟩ := xbnd h
    refine xs_gr (i := 210) (c := 6) (k := 15) (by decide +kernel) (by decide) (by decide +kernel) e170 rfl ?_
    refine xe_ldn (ins := .iload_n 2) (len := 1) (by decide +kernel) rfl rfl rfl rfl ?_
    refine xe_alr (ins := .aload_n 0) (len := 1) (i := 0) (by decide +kernel) rfl rfl rfl rfl rfl ?_
    obtain ⟨v171, e172, h⟩ := xbnd h
    refine xs_gi (i := 90) (c := 4) (k := 9) (by decide +kernel) (by decide) (by decide +kernel) e172 rfl ?_
    obtain ⟨M173, e174, h⟩ := xbnd h
    refine xs_iast (by decide +kernel) (xin_wr _) e174 rfl ?_
    refine xe_alr (ins := .aload_n 0) (len := 1) (i := 0) (by decide +kernel) rfl rfl rfl rfl rfl ?_
    obtain ⟨v175, e176, h⟩ := xbnd h
    refine xs_gr (i := 43) (c := 4) (k := 0) (by decide +kernel) (by decide) (by decide +kernel) e176 rfl ?_
    obtain ⟨v177, e178, h⟩ := xbnd h
    refine xs_gr (i := 51) (c := 8) (k := 3) (by decide +kernel) (by decide) (by decide +kernel) e178 rfl ?_
    refine xe_alr (ins := .aload_n 0) (len := 1) (i := 0) (by decide +kernel) rfl rfl rfl rfl rfl ?_
    obtain ⟨v179, e180, h⟩ := xbnd h
    refine xs_gi (i := 54) (c := 4) (k := 1) (by decide +kernel) (by decide) (by decide +kernel) e180 rfl ?_
    obtain ⟨v181, e182, h⟩ := xbnd h
    refine xs_iald rfl (by decide +kernel) (xq_gi_in e180) e182 rfl ?_
    refine xe_isr (ins := .istore_n 3) (len := 1) (i := 3) (by decide +kernel) rfl rfl rfl (by decide) (xk_k (show ¬ (2 : Nat) = 3 by decide) (Or.inr (xI_cat _)) (xk_k (show ¬ (0 : Nat) = 3 by decide) (Or.inl (show ¬ (0 + 1 : Nat) = 3 by decide)) xk_n)) rfl ?_
    refine xe_ldn (ins := .iload_n 3) (len := 1) (by decide +kernel) rfl rfl rfl rfl ?_
    refine xe_bipush (n := 61) (by decide +kernel) (by decide) rfl ?_
    refine xe_icmpeq (off := 52) (t := 288) (by decide +kernel) (by decide) rfl (xq_ai_in e182) (show xin (61) by decide) (fun c183 => ?_) (fun c183 => ?_)
    · rw [if_pos c183] at h
      refine xW_lv rfl (l := [(0, xR_ (x0)), (2, xI (xwr ((4) + (xwr ((2) * (v151)))))), (3, xI (v181))]) (xsb_of ⟨rfl, rfl, rfl, trivial⟩ (show [3, 2, 0].Nodup by decide)) ?_
      exact k45_288   (xin_wr _) (xq_ai_in e182) h
    · rw [if_neg c183] at h
      refine xe_ldn (ins := .iload_n 3) (len := 1) (by decide +kernel) rfl rfl rfl rfl ?_
      refine xe_bipush (n := 60) (by decide +kernel) (by decide) rfl ?_
      refine xe_icmpeq (off := 46) (t := 288) (by decide +kernel) (by decide) rfl (xq_ai_in e182) (show xin (60) by decide) (fun c184 => ?_) (fun c184 => ?_)
      · rw [if_pos c184] at h
        refine xW_lv rfl (l := [(0, xR_ (x0)), (2, xI (xwr ((4) + (xwr ((2) * (v151)))))), (3, xI (v181))]) (xsb_of ⟨rfl, rfl, rfl, trivial⟩ (show [3, 2, 0].Nodup by decide)) ?_
        exact k45_288   (xin_wr _) (xq_ai_in e182) h
      · rw [if_neg c184] at h
        refine xe_ldn (ins := .iload_n 3) (len := 1) (by decide +kernel) rfl rfl rfl rfl ?_
        refine xe_bipush (n := 62) (by decide +kernel) (by decide) rfl ?_
        refine xe_icmpeq (off := 40) (t := 288) (by decide +kernel) (by decide) rfl (xq_ai_in e182) (show xin (62) by decide) (fun c185 => ?_) (fun c185 => ?_)
        · rw [if_pos c185] at h
          refine xW_lv rfl (l := [(0, xR_ (x0)), (2, xI (xwr ((4) + (xwr ((2) * (v151)))))), (3, xI (v181))]) (xsb_of ⟨rfl, rfl, rfl, trivial⟩ (show [3, 2, 0].Nodup by decide)) ?_
          exact k45_288   (xin_wr _) (xq_ai_in e182) h
        · rw [if_neg c185] at h
          refine xe_ldn (ins := .iload_n 3) (len := 1) (by decide +kernel) rfl rfl rfl rfl ?_
          refine xe_sipush (n := 257) (by decide +kernel) (by decide) rfl ?_
          refine xe_icmpeq (off := 33) (t := 288) (by decide +kernel) (by decide) rfl (xq_ai_in e182) (show xin (257) by decide) (fun c186 => ?_) (fun c186 => ?_)
          · rw [if_pos c186] at h
            refine xW_lv rfl (l := [(0, xR_ (x0)), (2, xI (xwr ((4) + (xwr ((2) * (v151)))))), (3, xI (v181))]) (xsb_of ⟨rfl, rfl, rfl, trivial⟩ (show [3, 2, 0].Nodup by decide)) ?_
            exact k45_288   (xin_wr _) (xq_ai_in e182) h
          · rw [if_neg c186] at h
            refine xe_ldn (ins := .iload_n 3) (len := 1) (by decide +kernel) rfl rfl rfl rfl ?_
            refine xe_sipush (n := 258) (by decide +kernel) (by decide) rfl ?_
            refine xe_icmpeq (off := 26) (t := 288) (by decide +kernel) (by decide) rfl (xq_ai_in e182) (show xin (258) by decide) (fun c187 => ?_) (fun c187 => ?_)
            · rw [if_pos c187] at h
              refine xW_lv rfl (l := [(0, xR_ (x0)), (2, xI (xwr ((4) + (xwr ((2) * (v151)))))), (3, xI (v181))]) (xsb_of ⟨rfl, rfl, rfl, trivial⟩ (show [3, 2, 0].Nodup by decide)) ?_
              exact k45_288   (xin_wr _) (xq_ai_in e182) h
            · rw [if_neg c187] at h
              refine xe_ldn (ins := .iload_n 3) (len := 1) (by decide +kernel) rfl rfl rfl rfl ?_
              refine xe_sipush (n := 259) (by decide +kernel) (by decide) rfl ?_
              refine xe_icmpeq (off := 19) (t := 288) (by decide +kernel) (by decide) rfl (xq_ai_in e182) (show xin (259) by decide) (fun c188 => ?_) (fun c188 => ?_)
              · rw [if_pos c188] at h
                refine xW_lv rfl (l := [(0, xR_ (x0)), (2, xI (xwr ((4) + (xwr ((2) * (v151)))))), (3, xI (v181))]) (xsb_of ⟨rfl, rfl, rfl, trivial⟩ (show [3, 2, 0].Nodup by decide)) ?_
                exact k45_288   (xin_wr _) (xq_ai_in e182) h
              · rw [if_neg c188] at h
                refine xe_alr (ins := .aload_n 0) (len := 1) (i := 0) (by decide +kernel) rfl rfl rfl rfl rfl ?_
                refine xe_alr (ins := .aload_n 0) (len := 1) (i := 0) (by decide +kernel) rfl rfl rfl rfl rfl ?_
                obtain ⟨v189, e190, h⟩ := xbnd h
                refine xs_gr (i := 43) (c := 4) (k := 0) (by decide +kernel) (by decide) (by decide +kernel) e190 rfl ?_
                obtain ⟨v191, e192, h⟩ := xbnd h
                refine xs_gr (i := 80) (c := 8) (k := 4) (by decide +kernel) (by decide) (by decide +kernel) e192 rfl ?_
                refine xe_alr (ins := .aload_n 0) (len := 1) (i := 0) (by decide +kernel) rfl rfl rfl rfl rfl ?_
                obtain ⟨v193, e194, h⟩ := xbnd h
                refine xs_gi (i := 54) (c := 4) (k := 1) (by decide +kernel) (by decide) (by decide +kernel) e194 rfl ?_
                obtain ⟨v195, e196, h⟩ := xbnd h
                refine xs_iald rfl (by decide +kernel) (xq_gi_in e194) e196 rfl ?_
                obtain ⟨_, e198, h⟩ := xbnd h
                obtain ⟨R199, e197, h⟩ := xbnd h
                refine xs2_cv (kd := 0) (jj := 36) (by decide) (i := 83) (j := 36) (ar := [xI (v195)]) (rest := []) (r2 := xr_36) (by decide +kernel) (by decide +kernel) (by decide +kernel) xr_36_e rfl (by decide) (by decide) e198 ?_
                refine xct_v (k36 (d := d + 3) (xq_ai_in e196) e197) rfl (fun e1 g201 => ?_) (fun g201 => ?_)
                · rw [xth_l g201] at h; cases h; exact xK_thr rfl ⟨rfl, rfl⟩
                · rw [xth_r g201] at h
                  refine xW_lv rfl (l := [(0, xR_ (x0)), (2, xI (xwr ((4) + (xwr ((2) * (v151)))))), (3, xI (v181))]) (xsb_of ⟨rfl, rfl, rfl, trivial⟩ (show [3, 2, 0].Nodup by decide)) ?_
                  exact k45_288   (xin_wr _) (xq_ai_in e182) h
def f45_98   (f : Nat) (x0 : Nat) (x1 : Int) (M : xj_M) : Option ((Nat ⊕ Unit) × xj_M) := ((xq_gr 4 0 (x0) M).bind fun v203 => ((xq_gr 8 3 (v203) M).bind fun v205 => ((xq_gi 4 1 (x0) M).bind fun v207 => ((xq_ai 3 (v205) (xwr ((v207) + (1))) M).bind fun v209 => (if ¬ (v209) = (40) then ((xq_gr 4 0 (x0) M).bind fun v212 => ((xq_gr 8 7 (v212) M).bind fun v214 => ((xq_gi 4 1 (x0) M).bind fun v216 => ((xq_al (v214) (v216) M).bind fun v218 => (if ¬ (v218) = (-1) then f45_177   f (x0) M else ((xq_gr 4 0 (x0) M).bind fun v221 => ((xq_gr 8 4 (v221) M).bind fun v223 => ((xq_gi 4 1 (x0) M).bind fun v225 => ((xq_ai 3 (v223) (xwr ((v225) + (1))) M).bind fun v227 => ((xq_is 4 (x0) M).bind fun _ => ((f36 f (x0) (v227) M).bind fun R231 => xth R231 (fun _ => f45_177   f (x0) R231.2)))))))))))) else ((xq_gr 4 5 (x0) M).bind fun v235 => ((xq_is 6 (v235) M).bind fun _ => ((f89  f (v235) M).bind fun R239 => (if ¬ (R239.1) = (3) then f45_133   f (x0) R239.2 else ((xq_is 4 (x0) R239.2).bind fun _ => ((f36 f (x0) (x1) R239.2).bind fun R244 => xth R244 (fun _ => f45_133   f (x0) R244.2))))))))))))
theorem k45_98 {d f : Nat}     {x0 : Nat} {x1 : Int} {M : xj_M} {R : (Nat ⊕ Unit) × xj_M} (hx1 : xin x1) (h : f45_98   f x0 x1 M = some R) : xW (d + 9) (none, d + 9, none) xr_45 (98, [(0, xR_ x0), (1, xI x1)], [], M) (xQtv R) := by
  unfold f45_98 at h
  refine xe_alr (ins := .aload_n 0) (len := 1) (i := 0) (by decide +kernel) rfl rfl rfl rfl rfl ?_
  obtain ⟨v203, e204, h⟩ := xbnd h
  refine xs_gr (i := 43) (c := 4) (k := 0) (by decide +kernel) (by decide) (by decide +kernel) e204 rfl ?_
  obtain ⟨v205, e206, h⟩ := xbnd h
  refine xs_gr (i := 51) (c := 8) (k := 3) (by decide +kernel) (by decide) (by decide +kernel) e206 rfl ?_
  refine xe_alr (ins := .aload_n 0) (len := 1) (i := 0) (by decide +kernel) rfl rfl rfl rfl rfl ?_
  obtain ⟨v207, e208, h⟩ := xbnd h
  refine xs_gi (i := 54) (c := 4) (k := 1) (by decide +kernel) (by decide) (by decide +kernel) e208 rfl ?_
  refine xe_iconst (n := 1) (by decide +kernel) rfl ?_
  refine xe_iadd (by decide +kernel) rfl ?_
  obtain ⟨v209, e210, h⟩ := xbnd h
  refine xs_iald rfl (by decide +kernel) (xin_wr _) e210 rfl ?_
  refine xe_bipush (n := 40) (by decide +kernel) (by decide) rfl ?_
  refine xe_icmpne (off := 26) (t := 140) (by decide +kernel) (by decide) rfl (xq_ai_in e210) (show xin (40) by decide) (fun c211 => ?_) (fun c211 => ?_)
  · rw [if_pos c211] at h
    refine xe_alr (ins := .aload_n 0) (len := 1) (i := 0) (by decide +kernel) rfl rfl rfl rfl rfl ?_
    obtain ⟨v212, e213, h⟩ := xbnd h
    refine xs_gr (i := 43) (c := 4) (k := 0) (by decide +kernel) (by decide) (by decide +kernel) e213 rfl ?_
    obtain ⟨v214, e215, h⟩ := xbnd h
    refine xs_gr (i := 237) (c := 8) (k := 7) (by decide +kernel) (by decide) (by decide +kernel) e215 rfl ?_
    refine xe_alr (ins := .aload_n 0) (len := 1) (i := 0) (by decide +kernel) rfl rfl rfl rfl rfl ?_
    obtain ⟨v216, e217, h⟩ := xbnd h
    refine xs_gi (i := 54) (c := 4) (k := 1) (by decide +kernel) (by decide) (by decide +kernel) e217 rfl ?_
    obtain ⟨v218, e219, h⟩ := xbnd h
    refine xs_lald (by decide +kernel) (xq_gi_in e217) e219 rfl ?_
    refine xe_ldc2 (i := 240) (n := -1) (by decide +kernel) (by decide +kernel) rfl ?_
    refine xe_lcmp (by decide +kernel) rfl (xq_al_in e219) (show xiN (-1) by decide) ?_
    refine xe_ifne (off := 21) (t := 177) (by decide +kernel) (by decide) rfl (xin_cmp8 _ _) (fun c220 => ?_) (fun c220 => ?_)
    · have c220 := xcmp8_ne.mp c220; rw [if_pos c220] at h
      refine xW_lv rfl (l := [(0, xR_ (x0))]) (xsb_of ⟨rfl, trivial⟩ (show [0, 1].Nodup by decide)) ?_
      exact k45_177    h
    · have c220 := (not_congr xcmp8_ne).mp c220; rw [if_neg c220] at h
      refine xe_alr (ins := .aload_n 0) (len := 1) (i := 0) (by decide +kernel) rfl rfl rfl rfl rfl ?_
      refine xe_alr (ins := .aload_n 0) (len := 1) (i := 0) (by decide +kernel) rfl rfl rfl rfl rfl ?_
      obtain ⟨v221, e222, h⟩ := xbnd h
      refine xs_gr (i := 43) (c := 4) (k := 0) (by decide +kernel) (by decide) (by decide +kernel) e222 rfl ?_
      obtain ⟨v223, e224, h⟩ := xbnd h
      refine xs_gr (i := 80) (c := 8) (k := 4) (by decide +kernel) (by decide) (by decide +kernel) e224 rfl ?_
      refine xe_alr (ins := .aload_n 0) (len := 1) (i := 0) (by decide +kernel) rfl rfl rfl rfl rfl ?_
      obtain ⟨v225, e226, h⟩ := xbnd h
      refine xs_gi (i := 54) (c := 4) (k := 1) (by decide +kernel) (by decide) (by decide +kernel) e226 rfl ?_
      refine xe_iconst (n := 1) (by decide +kernel) rfl ?_
      refine xe_iadd (by decide +kernel) rfl ?_
      obtain ⟨v227, e228, h⟩ := xbnd h
      refine xs_iald rfl (by decide +kernel) (xin_wr _) e228 rfl ?_
      obtain ⟨_, e230, h⟩ := xbnd h
      obtain ⟨R231, e229, h⟩ := xbnd h
      refine xs2_cv (kd := 0) (jj := 36) (by decide) (i := 83) (j := 36) (ar := [xI (v227)]) (rest := []) (r2 := xr_36) (by decide +kernel) (by decide +kernel) (by decide +kernel) xr_36_e rfl (by decide) (by decide) e230 ?_
      refine xct_v (k36 (d := d + 3) (xq_ai_in e228) e229) rfl (fun e1 g233 => ?_) (fun g233 => ?_)
      · rw [xth_l g233] at h; cases h; exact xK_thr rfl ⟨rfl, rfl⟩
      · rw [xth_r g233] at h
        refine xW_lv rfl (l := [(0, xR_ (x0))]) (xsb_of ⟨rfl, trivial⟩ (show [0, 1].Nodup by decide)) ?_
        exact k45_177    h
  · rw [if_neg c211] at h
    refine xe_alr (ins := .aload_n 0) (len := 1) (i := 0) (by decide +kernel) rfl rfl rfl rfl rfl ?_
    obtain ⟨v235, e236, h⟩ := xbnd h
    refine xs_gr (i := 86) (c := 4) (k := 5) (by decide +kernel) (by decide) (by decide +kernel) e236 rfl ?_
    obtain ⟨_, e238, h⟩ := xbnd h
    obtain ⟨R239, e237, h⟩ := xbnd h
    refine xs_cv (i := 234) (j := 89) (ar := []) (rest := []) (r2 := xr_89) (by decide +kernel) (by decide +kernel) (by decide +kernel) xr_89_e rfl (by decide) (by decide) e238 ?_
    refine xc_i (k89 (d := d + 8)   e237) rfl (fun hi240 => ?_)
    refine xe_iconst (n := 3) (by decide +kernel) rfl ?_
    refine xe_icmpne (off := 8) (t := 133) (by decide +kernel) (by decide) rfl hi240 (show xin (3) by decide) (fun c241 => ?_) (fun c241 => ?_)
    · rw [if_pos c241] at h
      refine xW_lv rfl (l := [(0, xR_ (x0))]) (xsb_of ⟨rfl, trivial⟩ (show [0, 1].Nodup by decide)) ?_
      exact k45_133    h
    · rw [if_neg c241] at h
      refine xe_alr (ins := .aload_n 0) (len := 1) (i := 0) (by decide +kernel) rfl rfl rfl rfl rfl ?_
      refine xe_ldn (ins := .iload_n 1) (len := 1) (by decide +kernel) rfl rfl rfl rfl ?_
      obtain ⟨_, e243, h⟩ := xbnd h
      obtain ⟨R244, e242, h⟩ := xbnd h
      refine xs2_cv (kd := 0) (jj := 36) (by decide) (i := 83) (j := 36) (ar := [xI (x1)]) (rest := []) (r2 := xr_36) (by decide +kernel) (by decide +kernel) (by decide +kernel) xr_36_e rfl (by decide) (by decide) e243 ?_
      refine xct_v (k36 (d := d + 3) hx1 e242) rfl (fun e1 g246 => ?_) (fun g246 => ?_)
      · rw [xth_l g246] at h; cases h; exact xK_thr rfl ⟨rfl, rfl⟩
      · rw [xth_r g246] at h
        refine xW_lv rfl (l := [(0, xR_ (x0))]) (xsb_of ⟨rfl, trivial⟩ (show [0, 1].Nodup by decide)) ?_
        exact k45_133    h
def f45_30   (f : Nat) (x0 : Nat) (x1 : Int) (M : xj_M) : Option ((Nat ⊕ Unit) × xj_M) := ((xq_gr 4 0 (x0) M).bind fun v248 => ((xq_gr 8 3 (v248) M).bind fun v250 => ((xq_gi 4 1 (x0) M).bind fun v252 => ((xq_ai 3 (v250) (v252) M).bind fun v254 => (if ¬ (v254) = (9) then ((xq_gr 4 0 (x0) M).bind fun v257 => ((xq_gr 8 3 (v257) M).bind fun v259 => ((xq_gi 4 1 (x0) M).bind fun v261 => ((xq_ai 3 (v259) (v261) M).bind fun v263 => (if ¬ (v263) = (1) then f45_177   f (x0) M else ((xq_gr 4 0 (x0) M).bind fun v266 => ((xq_gi 4 1 (x0) M).bind fun v268 => ((xq_is 8 (v266) M).bind fun _ => ((f124  f (v266) (v268) M).bind fun R272 => (if (R272.1) ≤ (12) then f45_98   f (x0) (x1) R272.2 else ((xq_is 4 (x0) R272.2).bind fun _ => ((f36 f (x0) (xwr ((x1) + (12))) R272.2).bind fun R277 => xth R277 (fun _ => f45_98   f (x0) (x1) R277.2))))))))))))) else ((xq_is 4 (x0) M).bind fun _ => ((f37  f (x0) M).bind fun M283 => ((xq_is 4 (x0) M283).bind fun _ => ((f46 f (x0) (9) M283).bind fun R287 => xth R287 (fun _ => (some (.inr (), R287.2))))))))))))
theorem k45_30 {d f : Nat}     {x0 : Nat} {x1 : Int} {M : xj_M} {R : (Nat ⊕ Unit) × xj_M} (hx1 : xin x1) (h : f45_30   f x0 x1 M = some R) : xW (d + 9) (none, d + 9, none) xr_45 (30, [(0, xR_ x0), (1, xI x1)], [], M) (xQtv R) := by
  unfold f45_30 at h
  refine xe_alr (ins := .aload_n 0) (len := 1) (i := 0) (by decide +kernel) rfl rfl rfl rfl rfl ?_
  obtain ⟨v248, e249, h⟩ := xbnd h
  refine xs_gr (i := 43) (c := 4) (k := 0) (by decide +kernel) (by decide) (by decide +kernel) e249 rfl ?_
  obtain ⟨v250, e251, h⟩ := xbnd h
  refine xs_gr (i := 51) (c := 8) (k := 3) (by decide +kernel) (by decide) (by decide +kernel) e251 rfl ?_
  refine xe_alr (ins := .aload_n 0) (len := 1) (i := 0) (by decide +kernel) rfl rfl rfl rfl rfl ?_
  obtain ⟨v252, e253, h⟩ := xbnd h
  refine xs_gi (i := 54) (c := 4) (k := 1) (by decide +kernel) (by decide) (by decide +kernel) e253 rfl ?_
  obtain ⟨v254, e255, h⟩ := xbnd h
  refine xs_iald rfl (by decide +kernel) (xq_gi_in e253) e255 rfl ?_
  refine xe_bipush (n := 9) (by decide +kernel) (by decide) rfl ?_
  refine xe_icmpne (off := 14) (t := 58) (by decide +kernel) (by decide) rfl (xq_ai_in e255) (show xin (9) by decide) (fun c256 => ?_) (fun c256 => ?_)
  · rw [if_pos c256] at h
    refine xe_alr (ins := .aload_n 0) (len := 1) (i := 0) (by decide +kernel) rfl rfl rfl rfl rfl ?_
    obtain ⟨v257, e258, h⟩ := xbnd h
    refine xs_gr (i := 43) (c := 4) (k := 0) (by decide +kernel) (by decide) (by decide +kernel) e258 rfl ?_
    obtain ⟨v259, e260, h⟩ := xbnd h
    refine xs_gr (i := 51) (c := 8) (k := 3) (by decide +kernel) (by decide) (by decide +kernel) e260 rfl ?_
    refine xe_alr (ins := .aload_n 0) (len := 1) (i := 0) (by decide +kernel) rfl rfl rfl rfl rfl ?_
    obtain ⟨v261, e262, h⟩ := xbnd h
    refine xs_gi (i := 54) (c := 4) (k := 1) (by decide +kernel) (by decide) (by decide +kernel) e262 rfl ?_
    obtain ⟨v263, e264, h⟩ := xbnd h
    refine xs_iald rfl (by decide +kernel) (xq_gi_in e262) e264 rfl ?_
    refine xe_iconst (n := 1) (by decide +kernel) rfl ?_
    refine xe_icmpne (off := 106) (t := 177) (by decide +kernel) (by decide) rfl (xq_ai_in e264) (show xin (1) by decide) (fun c265 => ?_) (fun c265 => ?_)
    · rw [if_pos c265] at h
      refine xW_lv rfl (l := [(0, xR_ (x0))]) (xsb_of ⟨rfl, trivial⟩ (show [0, 1].Nodup by decide)) ?_
      exact k45_177    h
    · rw [if_neg c265] at h
      refine xe_alr (ins := .aload_n 0) (len := 1) (i := 0) (by decide +kernel) rfl rfl rfl rfl rfl ?_
      obtain ⟨v266, e267, h⟩ := xbnd h
      refine xs_gr (i := 43) (c := 4) (k := 0) (by decide +kernel) (by decide) (by decide +kernel) e267 rfl ?_
      refine xe_alr (ins := .aload_n 0) (len := 1) (i := 0) (by decide +kernel) rfl rfl rfl rfl rfl ?_
      obtain ⟨v268, e269, h⟩ := xbnd h
      refine xs_gi (i := 54) (c := 4) (k := 1) (by decide +kernel) (by decide) (by decide +kernel) e269 rfl ?_
      obtain ⟨_, e271, h⟩ := xbnd h
      obtain ⟨R272, e270, h⟩ := xbnd h
      refine xs_cv (i := 231) (j := 124) (ar := [xI (v268)]) (rest := []) (r2 := xr_124) (by decide +kernel) (by decide +kernel) (by decide +kernel) xr_124_e rfl (by decide) (by decide) e271 ?_
      refine xc_i (k124 (d := d + 8)  (xq_gi_in e269) e270) rfl (fun hi273 => ?_)
      refine xe_bipush (n := 12) (by decide +kernel) (by decide) rfl ?_
      refine xe_icmple (off := 11) (t := 98) (by decide +kernel) (by decide) rfl hi273 (show xin (12) by decide) (fun c274 => ?_) (fun c274 => ?_)
      · rw [if_pos c274] at h
        refine xW_lv rfl (l := [(0, xR_ (x0)), (1, xI (x1))]) (xsb_of ⟨rfl, rfl, trivial⟩ (show [0, 1].Nodup by decide)) ?_
        exact k45_98   hx1 h
      · rw [if_neg c274] at h
        refine xe_alr (ins := .aload_n 0) (len := 1) (i := 0) (by decide +kernel) rfl rfl rfl rfl rfl ?_
        refine xe_ldn (ins := .iload_n 1) (len := 1) (by decide +kernel) rfl rfl rfl rfl ?_
        refine xe_bipush (n := 12) (by decide +kernel) (by decide) rfl ?_
        refine xe_iadd (by decide +kernel) rfl ?_
        obtain ⟨_, e276, h⟩ := xbnd h
        obtain ⟨R277, e275, h⟩ := xbnd h
        refine xs2_cv (kd := 0) (jj := 36) (by decide) (i := 83) (j := 36) (ar := [xI (xwr ((x1) + (12)))]) (rest := []) (r2 := xr_36) (by decide +kernel) (by decide +kernel) (by decide +kernel) xr_36_e rfl (by decide) (by decide) e276 ?_
        refine xct_v (k36 (d := d + 3) (xin_wr _) e275) rfl (fun e1 g279 => ?_) (fun g279 => ?_)
        · rw [xth_l g279] at h; cases h; exact xK_thr rfl ⟨rfl, rfl⟩
        · rw [xth_r g279] at h
          refine xW_lv rfl (l := [(0, xR_ (x0)), (1, xI (x1))]) (xsb_of ⟨rfl, rfl, trivial⟩ (show [0, 1].Nodup by decide)) ?_
          exact k45_98   hx1 h
  · rw [if_neg c256] at h
    refine xe_alr (ins := .aload_n 0) (len := 1) (i := 0) (by decide +kernel) rfl rfl rfl rfl rfl ?_
    obtain ⟨_, e282, h⟩ := xbnd h
    obtain ⟨M283, e281, h⟩ := xbnd h
    refine xs_cv (i := 73) (j := 37) (ar := []) (rest := []) (r2 := xr_37) (by decide +kernel) (by decide +kernel) (by decide +kernel) xr_37_e rfl (by decide) (by decide) e282 ?_
    refine xc_v (k37 (d := d + 8)   e281) rfl ?_
    refine xe_alr (ins := .aload_n 0) (len := 1) (i := 0) (by decide +kernel) rfl rfl rfl rfl rfl ?_
    refine xe_bipush (n := 9) (by decide +kernel) (by decide) rfl ?_
    obtain ⟨_, e286, h⟩ := xbnd h
    obtain ⟨R287, e285, h⟩ := xbnd h
    refine xs2_cv (kd := 0) (jj := 46) (by decide) (i := 228) (j := 46) (ar := [xI (9)]) (rest := []) (r2 := xr_46) (by decide +kernel) (by decide +kernel) (by decide +kernel) xr_46_e rfl (by decide) (by decide) e286 ?_
    refine xct_v (k46 (d := d + 1) (show xin (9) by decide) e285) rfl (fun e1 g289 => ?_) (fun g289 => ?_)
    · rw [xth_l g289] at h; cases h; exact xK_thr rfl ⟨rfl, rfl⟩
    · rw [xth_r g289] at h
      cases h
      exact xe_ret_v (by decide +kernel) rfl ⟨rfl, rfl⟩
def f45  (f : Nat) (a0 : Nat) (M : xj_M) : Option ((Nat ⊕ Unit) × xj_M) := ((xq_gr 4 0 (a0) M).bind fun v291 => ((xq_gr 8 4 (v291) M).bind fun v293 => ((xq_gi 4 1 (a0) M).bind fun v295 => ((xq_ai 3 (v293) (v295) M).bind fun v297 => ((xq_gr 4 5 (a0) M).bind fun v299 => ((xq_gi 6 8 (v299) M).bind fun v301 => (if ¬ (v301) = (8) then f45_30   f (a0) (v297) M else ((xq_is 4 (a0) M).bind fun _ => ((f36 f (a0) (v297) M).bind fun R306 => xth R306 (fun _ => f45_30   f (a0) (v297) R306.2))))))))))
theorem k45 {d f : Nat}   {a0 : Nat} {M : xj_M} {R : (Nat ⊕ Unit) × xj_M}  (h : f45  f a0 M = some R) : xT (d + 10) 45 [xR_ a0] M (xQtv R) := by
  refine xT_m xr_45_e (X := (none, d + 9, none)) rfl (xa_1 (xR_cat _) xa_n) (by decide) ?_
  unfold f45 at h
  refine xe_alr (ins := .aload_n 0) (len := 1) (i := 0) (by decide +kernel) rfl rfl rfl rfl rfl ?_
  obtain ⟨v291, e292, h⟩ := xbnd h
  refine xs_gr (i := 43) (c := 4) (k := 0) (by decide +kernel) (by decide) (by decide +kernel) e292 rfl ?_
  obtain ⟨v293, e294, h⟩ := xbnd h
  refine xs_gr (i := 80) (c := 8) (k := 4) (by decide +kernel) (by decide) (by decide +kernel) e294 rfl ?_
  refine xe_alr (ins := .aload_n 0) (len := 1) (i := 0) (by decide +kernel) rfl rfl rfl rfl rfl ?_
  obtain ⟨v295, e296, h⟩ := xbnd h
  refine xs_gi (i := 54) (c := 4) (k := 1) (by decide +kernel) (by decide) (by decide +kernel) e296 rfl ?_
  obtain ⟨v297, e298, h⟩ := xbnd h
  refine xs_iald rfl (by decide +kernel) (xq_gi_in e296) e298 rfl ?_
  refine xe_isr (ins := .istore_n 1) (len := 1) (i := 1) (by decide +kernel) rfl rfl rfl (by decide) (xk_k (show ¬ (0 : Nat) = 1 by decide) (Or.inr (xR_cat _)) xk_n) rfl ?_
  refine xe_alr (ins := .aload_n 0) (len := 1) (i := 0) (by decide +kernel) rfl rfl rfl rfl rfl ?_
  obtain ⟨v299, e300, h⟩ := xbnd h
  refine xs_gr (i := 86) (c := 4) (k := 5) (by decide +kernel) (by decide) (by decide +kernel) e300 rfl ?_
  obtain ⟨v301, e302, h⟩ := xbnd h
  refine xs_gi (i := 225) (c := 6) (k := 8) (by decide +kernel) (by decide) (by decide +kernel) e302 rfl ?_
  refine xe_bipush (n := 8) (by decide +kernel) (by decide) rfl ?_
  refine xe_icmpne (off := 8) (t := 30) (by decide +kernel) (by decide) rfl (xq_gi_in e302) (show xin (8) by decide) (fun c303 => ?_) (fun c303 => ?_)
  · rw [if_pos c303] at h
    refine xW_lv rfl (l := [(0, xR_ (a0)), (1, xI (v297))]) (xsb_of ⟨rfl, rfl, trivial⟩ (show [1, 0].Nodup by decide)) ?_
    exact k45_30   (xq_ai_in e298) h
  · rw [if_neg c303] at h
    refine xe_alr (ins := .aload_n 0) (len := 1) (i := 0) (by decide +kernel) rfl rfl rfl rfl rfl ?_
    refine xe_ldn (ins := .iload_n 1) (len := 1) (by decide +kernel) rfl rfl rfl rfl ?_
    obtain ⟨_, e305, h⟩ := xbnd h
    obtain ⟨R306, e304, h⟩ := xbnd h
    refine xs2_cv (kd := 0) (jj := 36) (by decide) (i := 83) (j := 36) (ar := [xI (v297)]) (rest := []) (r2 := xr_36) (by decide +kernel) (by decide +kernel) (by decide +kernel) xr_36_e rfl (by decide) (by decide) e305 ?_
    refine xct_v (k36 (d := d + 3) (xq_ai_in e298) e304) rfl (fun e1 g308 => ?_) (fun g308 => ?_)
    · rw [xth_l g308] at h; cases h; exact xK_thr rfl ⟨rfl, rfl⟩
    · rw [xth_r g308] at h
      refine xW_lv rfl (l := [(0, xR_ (a0)), (1, xI (v297))]) (xsb_of ⟨rfl, rfl, trivial⟩ (show [1, 0].Nodup by decide)) ?_
      exact k45_30   (xq_ai_in e298) h
-- ChangeHouse$Sheet.workCells
def xr_102 : xj_mR := (7, yX7_workCells, cX7_workCells, 11, (Option.none : Option Jvm.ClassFile.FieldType), 0, false, (7, 74), (1, 7))
set_option maxRecDepth 20000 in
theorem xr_102_e : xj_row 102 = some xr_102 := rfl
def f102_195  (r10 : Nat → Int → Int → Int → Int → xj_M → Option (xj_M)) (r28 : Nat → Int → Int → Int → Int → Int → xj_M → Option (xj_M)) (f : Nat) (x0 : Nat) (x1 : Int) (x3 : Int) (x5 : Int) (x6 : Int) (x7 : Int) (M : xj_M) : Option (xj_M) := r28 (x0) (x1) (x3) (x5) (x6) (xwr ((x7) + (1))) M
theorem k102_195 {d f : Nat}  {r10 : Nat → Int → Int → Int → Int → xj_M → Option (xj_M)} {r28 : Nat → Int → Int → Int → Int → Int → xj_M → Option (xj_M)}  (hr10 : ∀ {x0 : Nat} {x1 : Int} {x3 : Int} {x5 : Int} {x6 : Int} {M : xj_M} {R : xj_M}, xiN x1 → xiN x3 → xin x5 → xin x6 → r10 x0 x1 x3 x5 x6 M = some R → xW (d + 4) (none, d + 4, none) xr_102 (10, [(0, xR_ x0), (1, xZ x1), (3, xZ x3), (5, xI x5), (6, xI x6)], [], M) (xQv R)) (hr28 : ∀ {x0 : Nat} {x1 : Int} {x3 : Int} {x5 : Int} {x6 : Int} {x7 : Int} {M : xj_M} {R : xj_M}, xiN x1 → xiN x3 → xin x5 → xin x6 → xin x7 → r28 x0 x1 x3 x5 x6 x7 M = some R → xW (d + 4) (none, d + 4, none) xr_102 (28, [(0, xR_ x0), (1, xZ x1), (3, xZ x3), (5, xI x5), (6, xI x6), (7, xI x7)], [], M) (xQv R)) {x0 : Nat} {x1 : Int} {x3 : Int} {x5 : Int} {x6 : Int} {x7 : Int} {M : xj_M} {R : xj_M} (hx1 : xiN x1) (hx3 : xiN x3) (hx5 : xin x5) (hx6 : xin x6) (hx7 : xin x7) (h : f102_195  r10 r28 f x0 x1 x3 x5 x6 x7 M = some R) : xW (d + 4) (none, d + 4, none) xr_102 (195, [(0, xR_ x0), (1, xZ x1), (3, xZ x3), (5, xI x5), (6, xI x6), (7, xI x7)], [], M) (xQv R) := by
  unfold f102_195 at h
  refine xe_iincr (i := 7) (n := 1) (by decide +kernel) (by decide) rfl (xk_k (show ¬ (0 : Nat) = 7 by decide) (Or.inl (show ¬ (0 + 1 : Nat) = 7 by decide)) (xk_k (show ¬ (1 : Nat) = 7 by decide) (Or.inl (show ¬ (1 + 1 : Nat) = 7 by decide)) (xk_k (show ¬ (3 : Nat) = 7 by decide) (Or.inl (show ¬ (3 + 1 : Nat) = 7 by decide)) (xk_k (show ¬ (5 : Nat) = 7 by decide) (Or.inl (show ¬ (5 + 1 : Nat) = 7 by decide)) (xk_k (show ¬ (6 : Nat) = 7 by decide) (Or.inr (xI_cat _)) (xk_d rfl xk_n)))))) rfl ?_
  refine xe_goto (off := -170) (nx := 28) (by decide +kernel) (by decide) ?_
  refine xW_lv rfl (l := [(0, xR_ (x0)), (1, xZ (x1)), (3, xZ (x3)), (5, xI (x5)), (6, xI (x6)), (7, xI (xwr ((x7) + (1))))]) (xsb_of ⟨rfl, rfl, rfl, rfl, rfl, rfl, trivial⟩ (show [7, 0, 1, 3, 5, 6].Nodup by decide)) ?_
  exact hr28 hx1 hx3 hx5 hx6 (xin_wr _) h
def f102_190  (r10 : Nat → Int → Int → Int → Int → xj_M → Option (xj_M)) (r28 : Nat → Int → Int → Int → Int → Int → xj_M → Option (xj_M)) (f : Nat) (x0 : Nat) (x1 : Int) (x6 : Int) (x7 : Int) (y0 : Int) (y1 : Int) (M : xj_M) : Option (xj_M) := f102_195  r10 r28 f (x0) (x1) (xor8 (y1) (y0)) (1) (x6) (x7) M
theorem k102_190 {d f : Nat}  {r10 : Nat → Int → Int → Int → Int → xj_M → Option (xj_M)} {r28 : Nat → Int → Int → Int → Int → Int → xj_M → Option (xj_M)}  (hr10 : ∀ {x0 : Nat} {x1 : Int} {x3 : Int} {x5 : Int} {x6 : Int} {M : xj_M} {R : xj_M}, xiN x1 → xiN x3 → xin x5 → xin x6 → r10 x0 x1 x3 x5 x6 M = some R → xW (d + 4) (none, d + 4, none) xr_102 (10, [(0, xR_ x0), (1, xZ x1), (3, xZ x3), (5, xI x5), (6, xI x6)], [], M) (xQv R)) (hr28 : ∀ {x0 : Nat} {x1 : Int} {x3 : Int} {x5 : Int} {x6 : Int} {x7 : Int} {M : xj_M} {R : xj_M}, xiN x1 → xiN x3 → xin x5 → xin x6 → xin x7 → r28 x0 x1 x3 x5 x6 x7 M = some R → xW (d + 4) (none, d + 4, none) xr_102 (28, [(0, xR_ x0), (1, xZ x1), (3, xZ x3), (5, xI x5), (6, xI x6), (7, xI x7)], [], M) (xQv R)) {x0 : Nat} {x1 : Int} {x6 : Int} {x7 : Int} {y0 : Int} {y1 : Int} {M : xj_M} {R : xj_M} (hx1 : xiN x1) (hx6 : xin x6) (hx7 : xin x7) (hy0 : xiN y0) (hy1 : xiN y1) (h : f102_190  r10 r28 f x0 x1 x6 x7 y0 y1 M = some R) : xW (d + 4) (none, d + 4, none) xr_102 (190, [(0, xR_ x0), (1, xZ x1), (6, xI x6), (7, xI x7)], [xZ y0, xZ y1], M) (xQv R) := by
  unfold f102_190 at h
  refine xe_lor (by decide +kernel) rfl ?_
  refine xe_lsr (ins := .lstore_n 3) (len := 1) (i := 3) (by decide +kernel) rfl rfl rfl (by decide) (xk2_k (show ¬ (0 : Nat) = 3 by decide) (show ¬ (0 : Nat) = 3 + 1 by decide) (Or.inl (show ¬ (0 + 1 : Nat) = 3 by decide)) (xk2_k (show ¬ (1 : Nat) = 3 by decide) (show ¬ (1 : Nat) = 3 + 1 by decide) (Or.inl (show ¬ (1 + 1 : Nat) = 3 by decide)) (xk2_k (show ¬ (6 : Nat) = 3 by decide) (show ¬ (6 : Nat) = 3 + 1 by decide) (Or.inl (show ¬ (6 + 1 : Nat) = 3 by decide)) (xk2_k (show ¬ (7 : Nat) = 3 by decide) (show ¬ (7 : Nat) = 3 + 1 by decide) (Or.inl (show ¬ (7 + 1 : Nat) = 3 by decide)) xk2_n)))) rfl ?_
  refine xe_iconst (n := 1) (by decide +kernel) rfl ?_
  refine xe_isr (ins := .istore 5) (len := 2) (i := 5) (by decide +kernel) rfl rfl rfl (by decide) (xk_k (show ¬ (3 : Nat) = 5 by decide) (Or.inl (show ¬ (3 + 1 : Nat) = 5 by decide)) (xk_k (show ¬ (0 : Nat) = 5 by decide) (Or.inl (show ¬ (0 + 1 : Nat) = 5 by decide)) (xk_k (show ¬ (1 : Nat) = 5 by decide) (Or.inl (show ¬ (1 + 1 : Nat) = 5 by decide)) (xk_k (show ¬ (6 : Nat) = 5 by decide) (Or.inl (show ¬ (6 + 1 : Nat) = 5 by decide)) (xk_k (show ¬ (7 : Nat) = 5 by decide) (Or.inl (show ¬ (7 + 1 : Nat) = 5 by decide)) xk_n))))) rfl ?_
  refine xW_lv rfl (l := [(0, xR_ (x0)), (1, xZ (x1)), (3, xZ (xor8 (y1) (y0))), (5, xI (1)), (6, xI (x6)), (7, xI (x7))]) (xsb_of ⟨rfl, rfl, rfl, rfl, rfl, rfl, trivial⟩ (show [5, 3, 0, 1, 6, 7].Nodup by decide)) ?_
  exact k102_195  hr10 hr28 hx1 (xiN_of _) (show xin (1) by decide) hx6 hx7 h
def f102_169  (r10 : Nat → Int → Int → Int → Int → xj_M → Option (xj_M)) (r28 : Nat → Int → Int → Int → Int → Int → xj_M → Option (xj_M)) (f : Nat) (x0 : Nat) (x3 : Int) (x6 : Int) (x7 : Int) (y0 : Int) (y1 : Int) (M : xj_M) : Option (xj_M) := (if (64) ≤ (x7) then f102_190  r10 r28 f (x0) (xor8 (y1) (y0)) (x6) (x7) (xshl8 (1) (xwr ((x7) - (64)))) (x3) M else f102_190  r10 r28 f (x0) (xor8 (y1) (y0)) (x6) (x7) (0) (x3) M)
theorem k102_169 {d f : Nat}  {r10 : Nat → Int → Int → Int → Int → xj_M → Option (xj_M)} {r28 : Nat → Int → Int → Int → Int → Int → xj_M → Option (xj_M)}  (hr10 : ∀ {x0 : Nat} {x1 : Int} {x3 : Int} {x5 : Int} {x6 : Int} {M : xj_M} {R : xj_M}, xiN x1 → xiN x3 → xin x5 → xin x6 → r10 x0 x1 x3 x5 x6 M = some R → xW (d + 4) (none, d + 4, none) xr_102 (10, [(0, xR_ x0), (1, xZ x1), (3, xZ x3), (5, xI x5), (6, xI x6)], [], M) (xQv R)) (hr28 : ∀ {x0 : Nat} {x1 : Int} {x3 : Int} {x5 : Int} {x6 : Int} {x7 : Int} {M : xj_M} {R : xj_M}, xiN x1 → xiN x3 → xin x5 → xin x6 → xin x7 → r28 x0 x1 x3 x5 x6 x7 M = some R → xW (d + 4) (none, d + 4, none) xr_102 (28, [(0, xR_ x0), (1, xZ x1), (3, xZ x3), (5, xI x5), (6, xI x6), (7, xI x7)], [], M) (xQv R)) {x0 : Nat} {x3 : Int} {x6 : Int} {x7 : Int} {y0 : Int} {y1 : Int} {M : xj_M} {R : xj_M} (hx3 : xiN x3) (hx6 : xin x6) (hx7 : xin x7) (hy0 : xiN y0) (hy1 : xiN y1) (h : f102_169  r10 r28 f x0 x3 x6 x7 y0 y1 M = some R) : xW (d + 4) (none, d + 4, none) xr_102 (169, [(0, xR_ x0), (3, xZ x3), (6, xI x6), (7, xI x7)], [xZ y0, xZ y1], M) (xQv R) := by
  unfold f102_169 at h
  refine xe_lor (by decide +kernel) rfl ?_
  refine xe_lsr (ins := .lstore_n 1) (len := 1) (i := 1) (by decide +kernel) rfl rfl rfl (by decide) (xk2_k (show ¬ (0 : Nat) = 1 by decide) (show ¬ (0 : Nat) = 1 + 1 by decide) (Or.inr (xR_cat _)) (xk2_k (show ¬ (3 : Nat) = 1 by decide) (show ¬ (3 : Nat) = 1 + 1 by decide) (Or.inl (show ¬ (3 + 1 : Nat) = 1 by decide)) (xk2_k (show ¬ (6 : Nat) = 1 by decide) (show ¬ (6 : Nat) = 1 + 1 by decide) (Or.inl (show ¬ (6 + 1 : Nat) = 1 by decide)) (xk2_k (show ¬ (7 : Nat) = 1 by decide) (show ¬ (7 : Nat) = 1 + 1 by decide) (Or.inl (show ¬ (7 + 1 : Nat) = 1 by decide)) xk2_n)))) rfl ?_
  refine xe_ldn (ins := .lload_n 3) (len := 1) (by decide +kernel) rfl rfl rfl rfl ?_
  refine xe_ldn (ins := .iload 7) (len := 2) (by decide +kernel) rfl rfl rfl rfl ?_
  refine xe_bipush (n := 64) (by decide +kernel) (by decide) rfl ?_
  refine xe_icmpge (off := 7) (t := 183) (by decide +kernel) (by decide) rfl hx7 (show xin (64) by decide) (fun c101 => ?_) (fun c101 => ?_)
  · rw [if_pos c101] at h
    refine xe_lconst (n := 1) (z := 1) (by decide +kernel) rfl rfl ?_
    refine xe_ldn (ins := .iload 7) (len := 2) (by decide +kernel) rfl rfl rfl rfl ?_
    refine xe_bipush (n := 64) (by decide +kernel) (by decide) rfl ?_
    refine xe_isub (by decide +kernel) rfl ?_
    refine xe_lshl (by decide +kernel) rfl ?_
    refine xW_lv rfl (l := [(0, xR_ (x0)), (1, xZ (xor8 (y1) (y0))), (6, xI (x6)), (7, xI (x7))]) (xsb_of ⟨rfl, rfl, rfl, rfl, trivial⟩ (show [1, 0, 3, 6, 7].Nodup by decide)) ?_
    exact k102_190  hr10 hr28 (xiN_of _) hx6 hx7 (xiN_of _) hx3 h
  · rw [if_neg c101] at h
    refine xe_lconst (n := 0) (z := 0) (by decide +kernel) rfl rfl ?_
    refine xe_goto (off := 10) (nx := 190) (by decide +kernel) (by decide) ?_
    refine xW_lv rfl (l := [(0, xR_ (x0)), (1, xZ (xor8 (y1) (y0))), (6, xI (x6)), (7, xI (x7))]) (xsb_of ⟨rfl, rfl, rfl, rfl, trivial⟩ (show [1, 0, 3, 6, 7].Nodup by decide)) ?_
    exact k102_190  hr10 hr28 (xiN_of _) hx6 hx7 (show xiN (0) by decide) hx3 h
def f102_152  (r10 : Nat → Int → Int → Int → Int → xj_M → Option (xj_M)) (r28 : Nat → Int → Int → Int → Int → Int → xj_M → Option (xj_M)) (f : Nat) (x0 : Nat) (x1 : Int) (x3 : Int) (x6 : Int) (x7 : Int) (y0 : Int) (y1 : Int) (y2 : Nat) (M : xj_M) : Option (xj_M) := ((xq_sl (y2) (y1) (y0) M).bind fun M102 => (if (64) ≤ (x7) then f102_169  r10 r28 f (x0) (x3) (x6) (x7) (0) (x1) M102 else f102_169  r10 r28 f (x0) (x3) (x6) (x7) (xshl8 (1) (x7)) (x1) M102))
theorem k102_152 {d f : Nat}  {r10 : Nat → Int → Int → Int → Int → xj_M → Option (xj_M)} {r28 : Nat → Int → Int → Int → Int → Int → xj_M → Option (xj_M)}  (hr10 : ∀ {x0 : Nat} {x1 : Int} {x3 : Int} {x5 : Int} {x6 : Int} {M : xj_M} {R : xj_M}, xiN x1 → xiN x3 → xin x5 → xin x6 → r10 x0 x1 x3 x5 x6 M = some R → xW (d + 4) (none, d + 4, none) xr_102 (10, [(0, xR_ x0), (1, xZ x1), (3, xZ x3), (5, xI x5), (6, xI x6)], [], M) (xQv R)) (hr28 : ∀ {x0 : Nat} {x1 : Int} {x3 : Int} {x5 : Int} {x6 : Int} {x7 : Int} {M : xj_M} {R : xj_M}, xiN x1 → xiN x3 → xin x5 → xin x6 → xin x7 → r28 x0 x1 x3 x5 x6 x7 M = some R → xW (d + 4) (none, d + 4, none) xr_102 (28, [(0, xR_ x0), (1, xZ x1), (3, xZ x3), (5, xI x5), (6, xI x6), (7, xI x7)], [], M) (xQv R)) {x0 : Nat} {x1 : Int} {x3 : Int} {x6 : Int} {x7 : Int} {y0 : Int} {y1 : Int} {y2 : Nat} {M : xj_M} {R : xj_M} (hx1 : xiN x1) (hx3 : xiN x3) (hx6 : xin x6) (hx7 : xin x7) (hy0 : xiN y0) (hy1 : xin y1) (h : f102_152  r10 r28 f x0 x1 x3 x6 x7 y0 y1 y2 M = some R) : xW (d + 4) (none, d + 4, none) xr_102 (152, [(0, xR_ x0), (1, xZ x1), (3, xZ x3), (6, xI x6), (7, xI x7)], [xZ y0, xI y1, xR_ y2], M) (xQv R) := by
  unfold f102_152 at h
  obtain ⟨M102, e103, h⟩ := xbnd h
  refine xs_last (by decide +kernel) hy1 e103 rfl ?_
  refine xe_ldn (ins := .lload_n 1) (len := 1) (by decide +kernel) rfl rfl rfl rfl ?_
  refine xe_ldn (ins := .iload 7) (len := 2) (by decide +kernel) rfl rfl rfl rfl ?_
  refine xe_bipush (n := 64) (by decide +kernel) (by decide) rfl ?_
  refine xe_icmpge (off := 10) (t := 168) (by decide +kernel) (by decide) rfl hx7 (show xin (64) by decide) (fun c104 => ?_) (fun c104 => ?_)
  · rw [if_pos c104] at h
    refine xe_lconst (n := 0) (z := 0) (by decide +kernel) rfl rfl ?_
    refine xW_lv rfl (l := [(0, xR_ (x0)), (3, xZ (x3)), (6, xI (x6)), (7, xI (x7))]) (xsb_of ⟨rfl, rfl, rfl, rfl, trivial⟩ (show [0, 1, 3, 6, 7].Nodup by decide)) ?_
    exact k102_169  hr10 hr28 hx3 hx6 hx7 (show xiN (0) by decide) hx1 h
  · rw [if_neg c104] at h
    refine xe_lconst (n := 1) (z := 1) (by decide +kernel) rfl rfl ?_
    refine xe_ldn (ins := .iload 7) (len := 2) (by decide +kernel) rfl rfl rfl rfl ?_
    refine xe_lshl (by decide +kernel) rfl ?_
    refine xe_goto (off := 4) (nx := 169) (by decide +kernel) (by decide) ?_
    refine xW_lv rfl (l := [(0, xR_ (x0)), (3, xZ (x3)), (6, xI (x6)), (7, xI (x7))]) (xsb_of ⟨rfl, rfl, rfl, rfl, trivial⟩ (show [0, 1, 3, 6, 7].Nodup by decide)) ?_
    exact k102_169  hr10 hr28 hx3 hx6 hx7 (xiN_of _) hx1 h
def f102_118  (r10 : Nat → Int → Int → Int → Int → xj_M → Option (xj_M)) (r28 : Nat → Int → Int → Int → Int → Int → xj_M → Option (xj_M)) (f : Nat) (x0 : Nat) (x1 : Int) (x3 : Int) (x6 : Int) (x7 : Int) (x8 : Nat) (x9 : Int) (M : xj_M) : Option (xj_M) := ((xq_gr 7 1 (x0) M).bind fun v105 => (if (x8) = 0 then f102_152  r10 r28 f (x0) (x1) (x3) (x6) (x7) (9000000000000000000) (x7) (v105) M else (if (x9) = 0 then ((xq_is 7 (x0) M).bind fun _ => ((f105  f (x0) (x8) M).bind fun R111 => f102_152  r10 r28 f (x0) (x1) (x3) (x6) (x7) (R111.1) (x7) (v105) R111.2)) else f102_152  r10 r28 f (x0) (x1) (x3) (x6) (x7) (-8999999999999999999) (x7) (v105) M)))
theorem k102_118 {d f : Nat}  {r10 : Nat → Int → Int → Int → Int → xj_M → Option (xj_M)} {r28 : Nat → Int → Int → Int → Int → Int → xj_M → Option (xj_M)}  (hr10 : ∀ {x0 : Nat} {x1 : Int} {x3 : Int} {x5 : Int} {x6 : Int} {M : xj_M} {R : xj_M}, xiN x1 → xiN x3 → xin x5 → xin x6 → r10 x0 x1 x3 x5 x6 M = some R → xW (d + 4) (none, d + 4, none) xr_102 (10, [(0, xR_ x0), (1, xZ x1), (3, xZ x3), (5, xI x5), (6, xI x6)], [], M) (xQv R)) (hr28 : ∀ {x0 : Nat} {x1 : Int} {x3 : Int} {x5 : Int} {x6 : Int} {x7 : Int} {M : xj_M} {R : xj_M}, xiN x1 → xiN x3 → xin x5 → xin x6 → xin x7 → r28 x0 x1 x3 x5 x6 x7 M = some R → xW (d + 4) (none, d + 4, none) xr_102 (28, [(0, xR_ x0), (1, xZ x1), (3, xZ x3), (5, xI x5), (6, xI x6), (7, xI x7)], [], M) (xQv R)) {x0 : Nat} {x1 : Int} {x3 : Int} {x6 : Int} {x7 : Int} {x8 : Nat} {x9 : Int} {M : xj_M} {R : xj_M} (hx1 : xiN x1) (hx3 : xiN x3) (hx6 : xin x6) (hx7 : xin x7) (hx9 : xin x9) (h : f102_118  r10 r28 f x0 x1 x3 x6 x7 x8 x9 M = some R) : xW (d + 4) (none, d + 4, none) xr_102 (118, [(0, xR_ x0), (1, xZ x1), (3, xZ x3), (6, xI x6), (7, xI x7), (8, xR_ x8), (9, xI x9)], [], M) (xQv R) := by
  unfold f102_118 at h
  refine xe_alr (ins := .aload_n 0) (len := 1) (i := 0) (by decide +kernel) rfl rfl rfl rfl rfl ?_
  obtain ⟨v105, e106, h⟩ := xbnd h
  refine xs_gr (i := 55) (c := 7) (k := 1) (by decide +kernel) (by decide) (by decide +kernel) e106 rfl ?_
  refine xe_ldn (ins := .iload 7) (len := 2) (by decide +kernel) rfl rfl rfl rfl ?_
  refine xe_alr (ins := .aload 8) (len := 2) (i := 8) (by decide +kernel) rfl rfl rfl rfl rfl ?_
  refine xe_ifnonnull (off := 9) (t := 135) (by decide +kernel) (by decide) rfl (fun c107 => ?_) (fun c107 => ?_)
  · rw [if_neg c107] at h
    refine xe_ldn (ins := .iload 9) (len := 2) (by decide +kernel) rfl rfl rfl rfl ?_
    refine xe_ifeq (off := 9) (t := 146) (by decide +kernel) (by decide) rfl hx9 (fun c108 => ?_) (fun c108 => ?_)
    · rw [if_pos c108] at h
      refine xe_alr (ins := .aload_n 0) (len := 1) (i := 0) (by decide +kernel) rfl rfl rfl rfl rfl ?_
      refine xe_alr (ins := .aload 8) (len := 2) (i := 8) (by decide +kernel) rfl rfl rfl rfl rfl ?_
      obtain ⟨_, e110, h⟩ := xbnd h
      obtain ⟨R111, e109, h⟩ := xbnd h
      refine xs_cv (i := 89) (j := 105) (ar := [xR_ (x8)]) (rest := [xI (x7), xR_ (v105)]) (r2 := xr_105) (by decide +kernel) (by decide +kernel) (by decide +kernel) xr_105_e rfl (by decide) (by simp only [List.map_cons, List.map_nil, List.sum_cons, List.sum_nil, xR_cat, xI_cat, xZ_cat]; decide) e110 ?_
      refine xc_l (k105 (d := d + 0)   e109) rfl (fun hi112 => ?_)
      refine xW_lv rfl (l := [(0, xR_ (x0)), (1, xZ (x1)), (3, xZ (x3)), (6, xI (x6)), (7, xI (x7))]) (xsb_of ⟨rfl, rfl, rfl, rfl, rfl, trivial⟩ (show [0, 1, 3, 6, 7, 8, 9].Nodup by decide)) ?_
      exact k102_152  hr10 hr28 hx1 hx3 hx6 hx7 hi112 hx7 h
    · rw [if_neg c108] at h
      refine xe_ldc2 (i := 87) (n := -8999999999999999999) (by decide +kernel) (by decide +kernel) rfl ?_
      refine xe_goto (off := 9) (nx := 152) (by decide +kernel) (by decide) ?_
      refine xW_lv rfl (l := [(0, xR_ (x0)), (1, xZ (x1)), (3, xZ (x3)), (6, xI (x6)), (7, xI (x7))]) (xsb_of ⟨rfl, rfl, rfl, rfl, rfl, trivial⟩ (show [0, 1, 3, 6, 7, 8, 9].Nodup by decide)) ?_
      exact k102_152  hr10 hr28 hx1 hx3 hx6 hx7 (show xiN (-8999999999999999999) by decide) hx7 h
  · rw [if_pos c107] at h
    refine xe_ldc2 (i := 85) (n := 9000000000000000000) (by decide +kernel) (by decide +kernel) rfl ?_
    refine xe_goto (off := 20) (nx := 152) (by decide +kernel) (by decide) ?_
    refine xW_lv rfl (l := [(0, xR_ (x0)), (1, xZ (x1)), (3, xZ (x3)), (6, xI (x6)), (7, xI (x7))]) (xsb_of ⟨rfl, rfl, rfl, rfl, rfl, trivial⟩ (show [0, 1, 3, 6, 7, 8, 9].Nodup by decide)) ?_
    exact k102_152  hr10 hr28 hx1 hx3 hx6 hx7 (show xiN (9000000000000000000) by decide) hx7 h
def f102_83  (r10 : Nat → Int → Int → Int → Int → xj_M → Option (xj_M)) (r28 : Nat → Int → Int → Int → Int → Int → xj_M → Option (xj_M)) (f : Nat) (x0 : Nat) (x1 : Int) (x3 : Int) (x5 : Int) (x6 : Int) (x7 : Int) (x8 : Nat) (x9 : Int) (y0 : Int) (M : xj_M) : Option (xj_M) := (if (y0) = 0 then f102_195  r10 r28 f (x0) (x1) (x3) (x5) (x6) (x7) M else (if (x8) = 0 then f102_118  r10 r28 f (x0) (x1) (x3) (x6) (x7) (x8) (x9) M else (if ¬ (x9) = 0 then f102_118  r10 r28 f (x0) (x1) (x3) (x6) (x7) (x8) (x9) M else ((xq_is 0 (x8) M).bind fun _ => ((f3  f (x8) (xxor8 (x1) (-1)) (xxor8 (x3) (-1)) M).bind fun R118 => (if ¬ (R118.1) = 0 then f102_195  r10 r28 f (x0) (x1) (x3) (x5) (x6) (x7) R118.2 else f102_118  r10 r28 f (x0) (x1) (x3) (x6) (x7) (x8) (x9) R118.2))))))
theorem k102_83 {d f : Nat}  {r10 : Nat → Int → Int → Int → Int → xj_M → Option (xj_M)} {r28 : Nat → Int → Int → Int → Int → Int → xj_M → Option (xj_M)}  (hr10 : ∀ {x0 : Nat} {x1 : Int} {x3 : Int} {x5 : Int} {x6 : Int} {M : xj_M} {R : xj_M}, xiN x1 → xiN x3 → xin x5 → xin x6 → r10 x0 x1 x3 x5 x6 M = some R → xW (d + 4) (none, d + 4, none) xr_102 (10, [(0, xR_ x0), (1, xZ x1), (3, xZ x3), (5, xI x5), (6, xI x6)], [], M) (xQv R)) (hr28 : ∀ {x0 : Nat} {x1 : Int} {x3 : Int} {x5 : Int} {x6 : Int} {x7 : Int} {M : xj_M} {R : xj_M}, xiN x1 → xiN x3 → xin x5 → xin x6 → xin x7 → r28 x0 x1 x3 x5 x6 x7 M = some R → xW (d + 4) (none, d + 4, none) xr_102 (28, [(0, xR_ x0), (1, xZ x1), (3, xZ x3), (5, xI x5), (6, xI x6), (7, xI x7)], [], M) (xQv R)) {x0 : Nat} {x1 : Int} {x3 : Int} {x5 : Int} {x6 : Int} {x7 : Int} {x8 : Nat} {x9 : Int} {y0 : Int} {M : xj_M} {R : xj_M} (hx1 : xiN x1) (hx3 : xiN x3) (hx5 : xin x5) (hx6 : xin x6) (hx7 : xin x7) (hx9 : xin x9) (hy0 : xin y0) (h : f102_83  r10 r28 f x0 x1 x3 x5 x6 x7 x8 x9 y0 M = some R) : xW (d + 4) (none, d + 4, none) xr_102 (83, [(0, xR_ x0), (1, xZ x1), (3, xZ x3), (5, xI x5), (6, xI x6), (7, xI x7), (8, xR_ x8), (9, xI x9)], [xI y0], M) (xQv R) := by
  unfold f102_83 at h
  refine xe_isr (ins := .istore 10) (len := 2) (i := 10) (by decide +kernel) rfl rfl rfl (by decide) (xk_k (show ¬ (0 : Nat) = 10 by decide) (Or.inl (show ¬ (0 + 1 : Nat) = 10 by decide)) (xk_k (show ¬ (1 : Nat) = 10 by decide) (Or.inl (show ¬ (1 + 1 : Nat) = 10 by decide)) (xk_k (show ¬ (3 : Nat) = 10 by decide) (Or.inl (show ¬ (3 + 1 : Nat) = 10 by decide)) (xk_k (show ¬ (5 : Nat) = 10 by decide) (Or.inl (show ¬ (5 + 1 : Nat) = 10 by decide)) (xk_k (show ¬ (6 : Nat) = 10 by decide) (Or.inl (show ¬ (6 + 1 : Nat) = 10 by decide)) (xk_k (show ¬ (7 : Nat) = 10 by decide) (Or.inl (show ¬ (7 + 1 : Nat) = 10 by decide)) (xk_k (show ¬ (8 : Nat) = 10 by decide) (Or.inl (show ¬ (8 + 1 : Nat) = 10 by decide)) (xk_k (show ¬ (9 : Nat) = 10 by decide) (Or.inr (xI_cat _)) xk_n)))))))) rfl ?_
  refine xe_ldn (ins := .iload 10) (len := 2) (by decide +kernel) rfl rfl rfl rfl ?_
  refine xe_ifeq (off := 108) (t := 195) (by decide +kernel) (by decide) rfl hy0 (fun c113 => ?_) (fun c113 => ?_)
  · rw [if_pos c113] at h
    refine xW_lv rfl (l := [(0, xR_ (x0)), (1, xZ (x1)), (3, xZ (x3)), (5, xI (x5)), (6, xI (x6)), (7, xI (x7))]) (xsb_of ⟨rfl, rfl, rfl, rfl, rfl, rfl, trivial⟩ (show [10, 0, 1, 3, 5, 6, 7, 8, 9].Nodup by decide)) ?_
    exact k102_195  hr10 hr28 hx1 hx3 hx5 hx6 hx7 h
  · rw [if_neg c113] at h
    refine xe_alr (ins := .aload 8) (len := 2) (i := 8) (by decide +kernel) rfl rfl rfl rfl rfl ?_
    refine xe_ifnull (off := 26) (t := 118) (by decide +kernel) (by decide) rfl (fun c114 => ?_) (fun c114 => ?_)
    · rw [if_pos c114] at h
      refine xW_lv rfl (l := [(0, xR_ (x0)), (1, xZ (x1)), (3, xZ (x3)), (6, xI (x6)), (7, xI (x7)), (8, xR_ (x8)), (9, xI (x9))]) (xsb_of ⟨rfl, rfl, rfl, rfl, rfl, rfl, rfl, trivial⟩ (show [10, 0, 1, 3, 5, 6, 7, 8, 9].Nodup by decide)) ?_
      exact k102_118  hr10 hr28 hx1 hx3 hx6 hx7 hx9 h
    · rw [if_neg c114] at h
      refine xe_ldn (ins := .iload 9) (len := 2) (by decide +kernel) rfl rfl rfl rfl ?_
      refine xe_ifne (off := 21) (t := 118) (by decide +kernel) (by decide) rfl hx9 (fun c115 => ?_) (fun c115 => ?_)
      · rw [if_pos c115] at h
        refine xW_lv rfl (l := [(0, xR_ (x0)), (1, xZ (x1)), (3, xZ (x3)), (6, xI (x6)), (7, xI (x7)), (8, xR_ (x8)), (9, xI (x9))]) (xsb_of ⟨rfl, rfl, rfl, rfl, rfl, rfl, rfl, trivial⟩ (show [10, 0, 1, 3, 5, 6, 7, 8, 9].Nodup by decide)) ?_
        exact k102_118  hr10 hr28 hx1 hx3 hx6 hx7 hx9 h
      · rw [if_neg c115] at h
        refine xe_alr (ins := .aload 8) (len := 2) (i := 8) (by decide +kernel) rfl rfl rfl rfl rfl ?_
        refine xe_ldn (ins := .lload_n 1) (len := 1) (by decide +kernel) rfl rfl rfl rfl ?_
        refine xe_ldc2 (i := 79) (n := -1) (by decide +kernel) (by decide +kernel) rfl ?_
        refine xe_lxor (by decide +kernel) rfl ?_
        refine xe_ldn (ins := .lload_n 3) (len := 1) (by decide +kernel) rfl rfl rfl rfl ?_
        refine xe_ldc2 (i := 79) (n := -1) (by decide +kernel) (by decide +kernel) rfl ?_
        refine xe_lxor (by decide +kernel) rfl ?_
        obtain ⟨_, e117, h⟩ := xbnd h
        obtain ⟨R118, e116, h⟩ := xbnd h
        refine xs_cv (i := 81) (j := 3) (ar := [xZ (xxor8 (x3) (-1)), xZ (xxor8 (x1) (-1))]) (rest := []) (r2 := xr_3) (by decide +kernel) (by decide +kernel) (by decide +kernel) xr_3_e rfl (by decide) (by decide) e117 ?_
        refine xc_i (k3 (d := d + 3)  (xiN_of _) (xiN_of _) e116) rfl (fun hi119 => ?_)
        refine xe_ifne (off := 80) (t := 195) (by decide +kernel) (by decide) rfl hi119 (fun c120 => ?_) (fun c120 => ?_)
        · rw [if_pos c120] at h
          refine xW_lv rfl (l := [(0, xR_ (x0)), (1, xZ (x1)), (3, xZ (x3)), (5, xI (x5)), (6, xI (x6)), (7, xI (x7))]) (xsb_of ⟨rfl, rfl, rfl, rfl, rfl, rfl, trivial⟩ (show [10, 0, 1, 3, 5, 6, 7, 8, 9].Nodup by decide)) ?_
          exact k102_195  hr10 hr28 hx1 hx3 hx5 hx6 hx7 h
        · rw [if_neg c120] at h
          refine xW_lv rfl (l := [(0, xR_ (x0)), (1, xZ (x1)), (3, xZ (x3)), (6, xI (x6)), (7, xI (x7)), (8, xR_ (x8)), (9, xI (x9))]) (xsb_of ⟨rfl, rfl, rfl, rfl, rfl, rfl, rfl, trivial⟩ (show [10, 0, 1, 3, 5, 6, 7, 8, 9].Nodup by decide)) ?_
          exact k102_118  hr10 hr28 hx1 hx3 hx6 hx7 hx9 h
def f102_28b  (r10 : Nat → Int → Int → Int → Int → xj_M → Option (xj_M)) (r28 : Nat → Int → Int → Int → Int → Int → xj_M → Option (xj_M)) (f : Nat) (x0 : Nat) (x1 : Int) (x3 : Int) (x5 : Int) (x6 : Int) (x7 : Int) (M : xj_M) : Option (xj_M) := (if (72) ≤ (x7) then r10 (x0) (x1) (x3) (x5) (xwr ((x6) + (1))) M else ((xq_gr 7 0 (x0) M).bind fun v122 => ((xq_gr 2 2 (v122) M).bind fun v124 => ((xq_ar (v124) (x7) M).bind fun v126 => ((xq_gr 7 2 (x0) M).bind fun v128 => ((xq_al (v128) (x7) M).bind fun v130 => ((xq_gr 7 3 (x0) M).bind fun v132 => ((xq_al (v132) (x7) M).bind fun v134 => ((f101  f (x7) (v130) (v134) M).bind fun R137 => ((f101  f (x7) (x1) (x3) R137.2).bind fun R140 => (if ¬ (R140.1) = 0 then f102_83  r10 r28 f (x0) (x1) (x3) (x5) (x6) (x7) (v126) (R137.1) (0) R140.2 else f102_83  r10 r28 f (x0) (x1) (x3) (x5) (x6) (x7) (v126) (R137.1) (1) R140.2)))))))))))
theorem k102_28b {d f : Nat}  {r10 : Nat → Int → Int → Int → Int → xj_M → Option (xj_M)} {r28 : Nat → Int → Int → Int → Int → Int → xj_M → Option (xj_M)}  (hr10 : ∀ {x0 : Nat} {x1 : Int} {x3 : Int} {x5 : Int} {x6 : Int} {M : xj_M} {R : xj_M}, xiN x1 → xiN x3 → xin x5 → xin x6 → r10 x0 x1 x3 x5 x6 M = some R → xW (d + 4) (none, d + 4, none) xr_102 (10, [(0, xR_ x0), (1, xZ x1), (3, xZ x3), (5, xI x5), (6, xI x6)], [], M) (xQv R)) (hr28 : ∀ {x0 : Nat} {x1 : Int} {x3 : Int} {x5 : Int} {x6 : Int} {x7 : Int} {M : xj_M} {R : xj_M}, xiN x1 → xiN x3 → xin x5 → xin x6 → xin x7 → r28 x0 x1 x3 x5 x6 x7 M = some R → xW (d + 4) (none, d + 4, none) xr_102 (28, [(0, xR_ x0), (1, xZ x1), (3, xZ x3), (5, xI x5), (6, xI x6), (7, xI x7)], [], M) (xQv R)) {x0 : Nat} {x1 : Int} {x3 : Int} {x5 : Int} {x6 : Int} {x7 : Int} {M : xj_M} {R : xj_M} (hx1 : xiN x1) (hx3 : xiN x3) (hx5 : xin x5) (hx6 : xin x6) (hx7 : xin x7) (h : f102_28b  r10 r28 f x0 x1 x3 x5 x6 x7 M = some R) : xW (d + 4) (none, d + 4, none) xr_102 (28, [(0, xR_ x0), (1, xZ x1), (3, xZ x3), (5, xI x5), (6, xI x6), (7, xI x7)], [], M) (xQv R) := by
  unfold f102_28b at h
  refine xe_ldn (ins := .iload 7) (len := 2) (by decide +kernel) rfl rfl rfl rfl ?_
  refine xe_bipush (n := 72) (by decide +kernel) (by decide) rfl ?_
  refine xe_icmpge (off := 169) (t := 201) (by decide +kernel) (by decide) rfl hx7 (show xin (72) by decide) (fun c121 => ?_) (fun c121 => ?_)
  · rw [if_pos c121] at h
    refine xe_iincr (i := 6) (n := 1) (by decide +kernel) (by decide) rfl (xk_k (show ¬ (0 : Nat) = 6 by decide) (Or.inl (show ¬ (0 + 1 : Nat) = 6 by decide)) (xk_k (show ¬ (1 : Nat) = 6 by decide) (Or.inl (show ¬ (1 + 1 : Nat) = 6 by decide)) (xk_k (show ¬ (3 : Nat) = 6 by decide) (Or.inl (show ¬ (3 + 1 : Nat) = 6 by decide)) (xk_k (show ¬ (5 : Nat) = 6 by decide) (Or.inr (xI_cat _)) (xk_d rfl (xk_k (show ¬ (7 : Nat) = 6 by decide) (Or.inl (show ¬ (7 + 1 : Nat) = 6 by decide)) xk_n)))))) rfl ?_
    refine xe_goto (off := -194) (nx := 10) (by decide +kernel) (by decide) ?_
    refine xW_lv rfl (l := [(0, xR_ (x0)), (1, xZ (x1)), (3, xZ (x3)), (5, xI (x5)), (6, xI (xwr ((x6) + (1))))]) (xsb_of ⟨rfl, rfl, rfl, rfl, rfl, trivial⟩ (show [6, 0, 1, 3, 5, 7].Nodup by decide)) ?_
    exact hr10 hx1 hx3 hx5 (xin_wr _) h
  · rw [if_neg c121] at h
    refine xe_alr (ins := .aload_n 0) (len := 1) (i := 0) (by decide +kernel) rfl rfl rfl rfl rfl ?_
    obtain ⟨v122, e123, h⟩ := xbnd h
    refine xs_gr (i := 21) (c := 7) (k := 0) (by decide +kernel) (by decide) (by decide +kernel) e123 rfl ?_
    obtain ⟨v124, e125, h⟩ := xbnd h
    refine xs_gr (i := 25) (c := 2) (k := 2) (by decide +kernel) (by decide) (by decide +kernel) e125 rfl ?_
    refine xe_ldn (ins := .iload 7) (len := 2) (by decide +kernel) rfl rfl rfl rfl ?_
    obtain ⟨v126, e127, h⟩ := xbnd h
    refine xs_aald (by decide +kernel) hx7 e127 rfl ?_
    refine xe_asr (ins := .astore 8) (len := 2) (i := 8) (by decide +kernel) rfl rfl rfl (by decide) (xk_k (show ¬ (0 : Nat) = 8 by decide) (Or.inl (show ¬ (0 + 1 : Nat) = 8 by decide)) (xk_k (show ¬ (1 : Nat) = 8 by decide) (Or.inl (show ¬ (1 + 1 : Nat) = 8 by decide)) (xk_k (show ¬ (3 : Nat) = 8 by decide) (Or.inl (show ¬ (3 + 1 : Nat) = 8 by decide)) (xk_k (show ¬ (5 : Nat) = 8 by decide) (Or.inl (show ¬ (5 + 1 : Nat) = 8 by decide)) (xk_k (show ¬ (6 : Nat) = 8 by decide) (Or.inl (show ¬ (6 + 1 : Nat) = 8 by decide)) (xk_k (show ¬ (7 : Nat) = 8 by decide) (Or.inr (xI_cat _)) xk_n)))))) rfl ?_
    refine xe_ldn (ins := .iload 7) (len := 2) (by decide +kernel) rfl rfl rfl rfl ?_
    refine xe_alr (ins := .aload_n 0) (len := 1) (i := 0) (by decide +kernel) rfl rfl rfl rfl rfl ?_
    obtain ⟨v128, e129, h⟩ := xbnd h
    refine xs_gr (i := 9) (c := 7) (k := 2) (by decide +kernel) (by decide) (by decide +kernel) e129 rfl ?_
    refine xe_ldn (ins := .iload 7) (len := 2) (by decide +kernel) rfl rfl rfl rfl ?_
    obtain ⟨v130, e131, h⟩ := xbnd h
    refine xs_lald (by decide +kernel) hx7 e131 rfl ?_
    refine xe_alr (ins := .aload_n 0) (len := 1) (i := 0) (by decide +kernel) rfl rfl rfl rfl rfl ?_
    obtain ⟨v132, e133, h⟩ := xbnd h
    refine xs_gr (i := 15) (c := 7) (k := 3) (by decide +kernel) (by decide) (by decide +kernel) e133 rfl ?_
    refine xe_ldn (ins := .iload 7) (len := 2) (by decide +kernel) rfl rfl rfl rfl ?_
    obtain ⟨v134, e135, h⟩ := xbnd h
    refine xs_lald (by decide +kernel) hx7 e135 rfl ?_
    obtain ⟨R137, e136, h⟩ := xbnd h
    refine xs_cs (kd := 2) (by decide) (i := 75) (j := 101) (ar := [xZ (v134), xZ (v130), xI (x7)]) (rest := []) (r2 := xr_101) (by decide +kernel) (by decide +kernel) (by decide +kernel) xr_101_e rfl (by decide) ?_
    refine xc_i (k101 (d := d + 3)  hx7 (xq_al_in e131) (xq_al_in e135) e136) rfl (fun hi138 => ?_)
    refine xe_isr (ins := .istore 9) (len := 2) (i := 9) (by decide +kernel) rfl rfl rfl (by decide) (xk_k (show ¬ (8 : Nat) = 9 by decide) (Or.inr (xR_cat _)) (xk_k (show ¬ (0 : Nat) = 9 by decide) (Or.inl (show ¬ (0 + 1 : Nat) = 9 by decide)) (xk_k (show ¬ (1 : Nat) = 9 by decide) (Or.inl (show ¬ (1 + 1 : Nat) = 9 by decide)) (xk_k (show ¬ (3 : Nat) = 9 by decide) (Or.inl (show ¬ (3 + 1 : Nat) = 9 by decide)) (xk_k (show ¬ (5 : Nat) = 9 by decide) (Or.inl (show ¬ (5 + 1 : Nat) = 9 by decide)) (xk_k (show ¬ (6 : Nat) = 9 by decide) (Or.inl (show ¬ (6 + 1 : Nat) = 9 by decide)) (xk_k (show ¬ (7 : Nat) = 9 by decide) (Or.inl (show ¬ (7 + 1 : Nat) = 9 by decide)) xk_n))))))) rfl ?_
    refine xe_ldn (ins := .iload 7) (len := 2) (by decide +kernel) rfl rfl rfl rfl ?_
    refine xe_ldn (ins := .lload_n 1) (len := 1) (by decide +kernel) rfl rfl rfl rfl ?_
    refine xe_ldn (ins := .lload_n 3) (len := 1) (by decide +kernel) rfl rfl rfl rfl ?_
    obtain ⟨R140, e139, h⟩ := xbnd h
    refine xs_cs (kd := 2) (by decide) (i := 75) (j := 101) (ar := [xZ (x3), xZ (x1), xI (x7)]) (rest := []) (r2 := xr_101) (by decide +kernel) (by decide +kernel) (by decide +kernel) xr_101_e rfl (by decide) ?_
    refine xc_i (k101 (d := d + 3)  hx7 hx1 hx3 e139) rfl (fun hi141 => ?_)
    refine xe_ifne (off := 7) (t := 82) (by decide +kernel) (by decide) rfl hi141 (fun c142 => ?_) (fun c142 => ?_)
    · rw [if_pos c142] at h
      refine xe_iconst (n := 0) (by decide +kernel) rfl ?_
      refine xW_lv rfl (l := [(0, xR_ (x0)), (1, xZ (x1)), (3, xZ (x3)), (5, xI (x5)), (6, xI (x6)), (7, xI (x7)), (8, xR_ (v126)), (9, xI (R137.1))]) (xsb_of ⟨rfl, rfl, rfl, rfl, rfl, rfl, rfl, rfl, trivial⟩ (show [9, 8, 0, 1, 3, 5, 6, 7].Nodup by decide)) ?_
      exact k102_83  hr10 hr28 hx1 hx3 hx5 hx6 hx7 hi138 (show xin (0) by decide) h
    · rw [if_neg c142] at h
      refine xe_iconst (n := 1) (by decide +kernel) rfl ?_
      refine xe_goto (off := 4) (nx := 83) (by decide +kernel) (by decide) ?_
      refine xW_lv rfl (l := [(0, xR_ (x0)), (1, xZ (x1)), (3, xZ (x3)), (5, xI (x5)), (6, xI (x6)), (7, xI (x7)), (8, xR_ (v126)), (9, xI (R137.1))]) (xsb_of ⟨rfl, rfl, rfl, rfl, rfl, rfl, rfl, rfl, trivial⟩ (show [9, 8, 0, 1, 3, 5, 6, 7].Nodup by decide)) ?_
      exact k102_83  hr10 hr28 hx1 hx3 hx5 hx6 hx7 hi138 (show xin (1) by decide) h
def f102_28  (r10 : Nat → Int → Int → Int → Int → xj_M → Option (xj_M)) (f : Nat) : Nat → Nat → Int → Int → Int → Int → Int → xj_M → Option (xj_M)
  | 0, _, _, _, _, _, _, _ => none
  | n + 1, x0, x1, x3, x5, x6, x7, M => f102_28b  r10 (f102_28  r10 f n) f x0 x1 x3 x5 x6 x7 M
theorem k102_28 {d f : Nat}  {r10 : Nat → Int → Int → Int → Int → xj_M → Option (xj_M)}  (hr10 : ∀ {x0 : Nat} {x1 : Int} {x3 : Int} {x5 : Int} {x6 : Int} {M : xj_M} {R : xj_M}, xiN x1 → xiN x3 → xin x5 → xin x6 → r10 x0 x1 x3 x5 x6 M = some R → xW (d + 4) (none, d + 4, none) xr_102 (10, [(0, xR_ x0), (1, xZ x1), (3, xZ x3), (5, xI x5), (6, xI x6)], [], M) (xQv R)) : ∀ {n : Nat} {x0 : Nat} {x1 : Int} {x3 : Int} {x5 : Int} {x6 : Int} {x7 : Int} {M : xj_M} {R : xj_M}, xiN x1 → xiN x3 → xin x5 → xin x6 → xin x7 → f102_28  r10 f n x0 x1 x3 x5 x6 x7 M = some R → xW (d + 4) (none, d + 4, none) xr_102 (28, [(0, xR_ x0), (1, xZ x1), (3, xZ x3), (5, xI x5), (6, xI x6), (7, xI x7)], [], M) (xQv R) := by
  intro n
  induction n with
  | zero => intros; rename_i h; cases h
  | succ n ih => intros; rename_i h; exact k102_28b  hr10 ih (by assumption) (by assumption) (by assumption) (by assumption) (by assumption) h
def f102_207   (f : Nat)  (M : xj_M) : Option (xj_M) := (some M)
theorem k102_207 {d f : Nat}      {M : xj_M} {R : xj_M}  (h : f102_207   f  M = some R) : xW (d + 4) (none, d + 4, none) xr_102 (207, [], [], M) (xQv R) := by
  unfold f102_207 at h
  cases h
  exact xe_ret_v (by decide +kernel) rfl ⟨rfl, rfl⟩
def f102_10b  (r10 : Nat → Int → Int → Int → Int → xj_M → Option (xj_M)) (f : Nat) (x0 : Nat) (x1 : Int) (x3 : Int) (x5 : Int) (x6 : Int) (M : xj_M) : Option (xj_M) := (if (72) < (x6) then f102_207   f  M else (if (x5) = 0 then f102_207   f  M else f102_28  r10 f f (x0) (x1) (x3) (0) (x6) (0) M))
theorem k102_10b {d f : Nat}  {r10 : Nat → Int → Int → Int → Int → xj_M → Option (xj_M)}  (hr10 : ∀ {x0 : Nat} {x1 : Int} {x3 : Int} {x5 : Int} {x6 : Int} {M : xj_M} {R : xj_M}, xiN x1 → xiN x3 → xin x5 → xin x6 → r10 x0 x1 x3 x5 x6 M = some R → xW (d + 4) (none, d + 4, none) xr_102 (10, [(0, xR_ x0), (1, xZ x1), (3, xZ x3), (5, xI x5), (6, xI x6)], [], M) (xQv R)) {x0 : Nat} {x1 : Int} {x3 : Int} {x5 : Int} {x6 : Int} {M : xj_M} {R : xj_M} (hx1 : xiN x1) (hx3 : xiN x3) (hx5 : xin x5) (hx6 : xin x6) (h : f102_10b  r10 f x0 x1 x3 x5 x6 M = some R) : xW (d + 4) (none, d + 4, none) xr_102 (10, [(0, xR_ x0), (1, xZ x1), (3, xZ x3), (5, xI x5), (6, xI x6)], [], M) (xQv R) := by
  unfold f102_10b at h
  refine xe_ldn (ins := .iload 6) (len := 2) (by decide +kernel) rfl rfl rfl rfl ?_
  refine xe_bipush (n := 72) (by decide +kernel) (by decide) rfl ?_
  refine xe_icmpgt (off := 193) (t := 207) (by decide +kernel) (by decide) rfl hx6 (show xin (72) by decide) (fun c143 => ?_) (fun c143 => ?_)
  · rw [if_pos c143] at h
    refine xW_lv rfl (l := []) (xsb_of trivial (show [0, 1, 3, 5, 6].Nodup by decide)) ?_
    exact k102_207    h
  · rw [if_neg c143] at h
    refine xe_ldn (ins := .iload 5) (len := 2) (by decide +kernel) rfl rfl rfl rfl ?_
    refine xe_ifeq (off := 188) (t := 207) (by decide +kernel) (by decide) rfl hx5 (fun c144 => ?_) (fun c144 => ?_)
    · rw [if_pos c144] at h
      refine xW_lv rfl (l := []) (xsb_of trivial (show [0, 1, 3, 5, 6].Nodup by decide)) ?_
      exact k102_207    h
    · rw [if_neg c144] at h
      refine xe_iconst (n := 0) (by decide +kernel) rfl ?_
      refine xe_isr (ins := .istore 5) (len := 2) (i := 5) (by decide +kernel) rfl rfl rfl (by decide) (xk_k (show ¬ (0 : Nat) = 5 by decide) (Or.inl (show ¬ (0 + 1 : Nat) = 5 by decide)) (xk_k (show ¬ (1 : Nat) = 5 by decide) (Or.inl (show ¬ (1 + 1 : Nat) = 5 by decide)) (xk_k (show ¬ (3 : Nat) = 5 by decide) (Or.inl (show ¬ (3 + 1 : Nat) = 5 by decide)) (xk_d rfl (xk_k (show ¬ (6 : Nat) = 5 by decide) (Or.inl (show ¬ (6 + 1 : Nat) = 5 by decide)) xk_n))))) rfl ?_
      refine xe_iconst (n := 0) (by decide +kernel) rfl ?_
      refine xe_isr (ins := .istore 7) (len := 2) (i := 7) (by decide +kernel) rfl rfl rfl (by decide) (xk_k (show ¬ (5 : Nat) = 7 by decide) (Or.inl (show ¬ (5 + 1 : Nat) = 7 by decide)) (xk_k (show ¬ (0 : Nat) = 7 by decide) (Or.inl (show ¬ (0 + 1 : Nat) = 7 by decide)) (xk_k (show ¬ (1 : Nat) = 7 by decide) (Or.inl (show ¬ (1 + 1 : Nat) = 7 by decide)) (xk_k (show ¬ (3 : Nat) = 7 by decide) (Or.inl (show ¬ (3 + 1 : Nat) = 7 by decide)) (xk_k (show ¬ (6 : Nat) = 7 by decide) (Or.inr (xI_cat _)) xk_n))))) rfl ?_
      refine xW_lv rfl (l := [(0, xR_ (x0)), (1, xZ (x1)), (3, xZ (x3)), (5, xI (0)), (6, xI (x6)), (7, xI (0))]) (xsb_of ⟨rfl, rfl, rfl, rfl, rfl, rfl, trivial⟩ (show [7, 5, 0, 1, 3, 6].Nodup by decide)) ?_
      exact k102_28  hr10 hx1 hx3 (show xin (0) by decide) hx6 (show xin (0) by decide) h
def f102_10   (f : Nat) : Nat → Nat → Int → Int → Int → Int → xj_M → Option (xj_M)
  | 0, _, _, _, _, _, _ => none
  | n + 1, x0, x1, x3, x5, x6, M => f102_10b   (f102_10   f n) f x0 x1 x3 x5 x6 M
theorem k102_10 {d f : Nat}     : ∀ {n : Nat} {x0 : Nat} {x1 : Int} {x3 : Int} {x5 : Int} {x6 : Int} {M : xj_M} {R : xj_M}, xiN x1 → xiN x3 → xin x5 → xin x6 → f102_10   f n x0 x1 x3 x5 x6 M = some R → xW (d + 4) (none, d + 4, none) xr_102 (10, [(0, xR_ x0), (1, xZ x1), (3, xZ x3), (5, xI x5), (6, xI x6)], [], M) (xQv R) := by
  intro n
  induction n with
  | zero => intros; rename_i h; cases h
  | succ n ih => intros; rename_i h; exact k102_10b   ih (by assumption) (by assumption) (by assumption) (by assumption) h
def f102  (f : Nat) (a0 : Nat) (M : xj_M) : Option (xj_M) := f102_10   f f (a0) (0) (0) (1) (0) M
theorem k102 {d f : Nat}   {a0 : Nat} {M : xj_M} {R : xj_M}  (h : f102  f a0 M = some R) : xT (d + 5) 102 [xR_ a0] M (xQv R) := by
  refine xT_m xr_102_e (X := (none, d + 4, none)) rfl (xa_1 (xR_cat _) xa_n) (by decide) ?_
  unfold f102 at h
  refine xe_lconst (n := 0) (z := 0) (by decide +kernel) rfl rfl ?_
  refine xe_lsr (ins := .lstore_n 1) (len := 1) (i := 1) (by decide +kernel) rfl rfl rfl (by decide) (xk2_k (show ¬ (0 : Nat) = 1 by decide) (show ¬ (0 : Nat) = 1 + 1 by decide) (Or.inr (xR_cat _)) xk2_n) rfl ?_
  refine xe_lconst (n := 0) (z := 0) (by decide +kernel) rfl rfl ?_
  refine xe_lsr (ins := .lstore_n 3) (len := 1) (i := 3) (by decide +kernel) rfl rfl rfl (by decide) (xk2_k (show ¬ (1 : Nat) = 3 by decide) (show ¬ (1 : Nat) = 3 + 1 by decide) (Or.inl (show ¬ (1 + 1 : Nat) = 3 by decide)) (xk2_k (show ¬ (0 : Nat) = 3 by decide) (show ¬ (0 : Nat) = 3 + 1 by decide) (Or.inl (show ¬ (0 + 1 : Nat) = 3 by decide)) xk2_n)) rfl ?_
  refine xe_iconst (n := 1) (by decide +kernel) rfl ?_
  refine xe_isr (ins := .istore 5) (len := 2) (i := 5) (by decide +kernel) rfl rfl rfl (by decide) (xk_k (show ¬ (3 : Nat) = 5 by decide) (Or.inl (show ¬ (3 + 1 : Nat) = 5 by decide)) (xk_k (show ¬ (1 : Nat) = 5 by decide) (Or.inl (show ¬ (1 + 1 : Nat) = 5 by decide)) (xk_k (show ¬ (0 : Nat) = 5 by decide) (Or.inl (show ¬ (0 + 1 : Nat) = 5 by decide)) xk_n))) rfl ?_
  refine xe_iconst (n := 0) (by decide +kernel) rfl ?_
  refine xe_isr (ins := .istore 6) (len := 2) (i := 6) (by decide +kernel) rfl rfl rfl (by decide) (xk_k (show ¬ (5 : Nat) = 6 by decide) (Or.inr (xI_cat _)) (xk_k (show ¬ (3 : Nat) = 6 by decide) (Or.inl (show ¬ (3 + 1 : Nat) = 6 by decide)) (xk_k (show ¬ (1 : Nat) = 6 by decide) (Or.inl (show ¬ (1 + 1 : Nat) = 6 by decide)) (xk_k (show ¬ (0 : Nat) = 6 by decide) (Or.inl (show ¬ (0 + 1 : Nat) = 6 by decide)) xk_n)))) rfl ?_
  refine xW_lv rfl (l := [(0, xR_ (a0)), (1, xZ (0)), (3, xZ (0)), (5, xI (1)), (6, xI (0))]) (xsb_of ⟨rfl, rfl, rfl, rfl, rfl, trivial⟩ (show [6, 5, 3, 1, 0].Nodup by decide)) ?_
  exact k102_10   (show xiN (0) by decide) (show xiN (0) by decide) (show xin (1) by decide) (show xin (0) by decide) h
-- ChangeHouse$Tape.addName
def xr_114 : xj_mR := (8, yX8_addName, cX8_addName, 7, (Option.some Jvm.ClassFile.FieldType.int), 1, false, (3, 134), (1, 2))
set_option maxRecDepth 20000 in
theorem xr_114_e : xj_row 114 = some xr_114 := rfl
def f114_112   (f : Nat) (x0 : Nat) (x1 : Int) (x2 : Int) (x4 : Int) (M : xj_M) : Option (Int × xj_M) := ((xq_gr 8 7 (x0) M).bind fun v101 => ((xq_gi 8 2 (x0) M).bind fun v103 => ((xq_is 8 (x0) M).bind fun _ => ((f127  f (x0) (x1) (xwr ((x4) - (x1))) M).bind fun R107 => ((xq_sl (v101) (v103) (R107.1) R107.2).bind fun M109 => ((xq_is 8 (x0) M109).bind fun _ => ((f115  f (x0) (x1) (x4) M109).bind fun R113 => ((xq_is 8 (x0) R113.2).bind fun _ => ((f120  f (x0) (R113.1) (x1) (x4) (x2) R113.2).bind fun M117 => (some (x4, M117)))))))))))
theorem k114_112 {d f : Nat}     {x0 : Nat} {x1 : Int} {x2 : Int} {x4 : Int} {M : xj_M} {R : Int × xj_M} (hx1 : xin x1) (hx2 : xiN x2) (hx4 : xin x4) (h : f114_112   f x0 x1 x2 x4 M = some R) : xW (d + 6) (none, d + 6, none) xr_114 (112, [(0, xR_ x0), (1, xI x1), (2, xZ x2), (4, xI x4)], [], M) (xQi R) := by
  unfold f114_112 at h
  refine xe_alr (ins := .aload_n 0) (len := 1) (i := 0) (by decide +kernel) rfl rfl rfl rfl rfl ?_
  obtain ⟨v101, e102, h⟩ := xbnd h
  refine xs_gr (i := 29) (c := 8) (k := 7) (by decide +kernel) (by decide) (by decide +kernel) e102 rfl ?_
  refine xe_alr (ins := .aload_n 0) (len := 1) (i := 0) (by decide +kernel) rfl rfl rfl rfl rfl ?_
  obtain ⟨v103, e104, h⟩ := xbnd h
  refine xs_gi (i := 36) (c := 8) (k := 2) (by decide +kernel) (by decide) (by decide +kernel) e104 rfl ?_
  refine xe_alr (ins := .aload_n 0) (len := 1) (i := 0) (by decide +kernel) rfl rfl rfl rfl rfl ?_
  refine xe_ldn (ins := .iload_n 1) (len := 1) (by decide +kernel) rfl rfl rfl rfl ?_
  refine xe_ldn (ins := .iload 4) (len := 2) (by decide +kernel) rfl rfl rfl rfl ?_
  refine xe_ldn (ins := .iload_n 1) (len := 1) (by decide +kernel) rfl rfl rfl rfl ?_
  refine xe_isub (by decide +kernel) rfl ?_
  obtain ⟨_, e106, h⟩ := xbnd h
  obtain ⟨R107, e105, h⟩ := xbnd h
  refine xs_cv (i := 71) (j := 127) (ar := [xI (xwr ((x4) - (x1))), xI (x1)]) (rest := [xI (v103), xR_ (v101)]) (r2 := xr_127) (by decide +kernel) (by decide +kernel) (by decide +kernel) xr_127_e rfl (by decide) (by simp only [List.map_cons, List.map_nil, List.sum_cons, List.sum_nil, xR_cat, xI_cat, xZ_cat]; decide) e106 ?_
  refine xc_l (k127 (d := d + 4)  hx1 (xin_wr _) e105) rfl (fun hi108 => ?_)
  obtain ⟨M109, e110, h⟩ := xbnd h
  refine xs_last (by decide +kernel) (xq_gi_in e104) e110 rfl ?_
  refine xe_alr (ins := .aload_n 0) (len := 1) (i := 0) (by decide +kernel) rfl rfl rfl rfl rfl ?_
  refine xe_alr (ins := .aload_n 0) (len := 1) (i := 0) (by decide +kernel) rfl rfl rfl rfl rfl ?_
  refine xe_ldn (ins := .iload_n 1) (len := 1) (by decide +kernel) rfl rfl rfl rfl ?_
  refine xe_ldn (ins := .iload 4) (len := 2) (by decide +kernel) rfl rfl rfl rfl ?_
  obtain ⟨_, e112, h⟩ := xbnd h
  obtain ⟨R113, e111, h⟩ := xbnd h
  refine xs_cv (i := 75) (j := 115) (ar := [xI (x4), xI (x1)]) (rest := [xR_ (x0)]) (r2 := xr_115) (by decide +kernel) (by decide +kernel) (by decide +kernel) xr_115_e rfl (by decide) (by simp only [List.map_cons, List.map_nil, List.sum_cons, List.sum_nil, xR_cat, xI_cat, xZ_cat]; decide) e112 ?_
  refine xc_i (k115 (d := d + 0)  hx1 hx4 e111) rfl (fun hi114 => ?_)
  refine xe_ldn (ins := .iload_n 1) (len := 1) (by decide +kernel) rfl rfl rfl rfl ?_
  refine xe_ldn (ins := .iload 4) (len := 2) (by decide +kernel) rfl rfl rfl rfl ?_
  refine xe_ldn (ins := .lload_n 2) (len := 1) (by decide +kernel) rfl rfl rfl rfl ?_
  obtain ⟨_, e116, h⟩ := xbnd h
  obtain ⟨M117, e115, h⟩ := xbnd h
  refine xs_cv (i := 65) (j := 120) (ar := [xZ (x2), xI (x4), xI (x1), xI (R113.1)]) (rest := []) (r2 := xr_120) (by decide +kernel) (by decide +kernel) (by decide +kernel) xr_120_e rfl (by decide) (by decide) e116 ?_
  refine xc_v (k120 (d := d + 5)  hi114 hx1 hx4 hx2 e115) rfl ?_
  refine xe_ldn (ins := .iload 4) (len := 2) (by decide +kernel) rfl rfl rfl rfl ?_
  cases h
  exact xe_ret_i (ty := .int) (by decide +kernel) rfl rfl ⟨rfl, rfl, hx4⟩
def f114_105  (r5 : Nat → Int → Int → Int → xj_M → Option (Int × xj_M)) (f : Nat) (x0 : Nat) (x1 : Int) (x4 : Int) (y0 : Int) (M : xj_M) : Option (Int × xj_M) := r5 (x0) (x1) (y0) (xwr ((x4) + (1))) M
theorem k114_105 {d f : Nat}  {r5 : Nat → Int → Int → Int → xj_M → Option (Int × xj_M)}  (hr5 : ∀ {x0 : Nat} {x1 : Int} {x2 : Int} {x4 : Int} {M : xj_M} {R : Int × xj_M}, xin x1 → xiN x2 → xin x4 → r5 x0 x1 x2 x4 M = some R → xW (d + 6) (none, d + 6, none) xr_114 (5, [(0, xR_ x0), (1, xI x1), (2, xZ x2), (4, xI x4)], [], M) (xQi R)) {x0 : Nat} {x1 : Int} {x4 : Int} {y0 : Int} {M : xj_M} {R : Int × xj_M} (hx1 : xin x1) (hx4 : xin x4) (hy0 : xiN y0) (h : f114_105  r5 f x0 x1 x4 y0 M = some R) : xW (d + 6) (none, d + 6, none) xr_114 (105, [(0, xR_ x0), (1, xI x1), (4, xI x4)], [xZ y0], M) (xQi R) := by
  unfold f114_105 at h
  refine xe_lsr (ins := .lstore_n 2) (len := 1) (i := 2) (by decide +kernel) rfl rfl rfl (by decide) (xk2_k (show ¬ (0 : Nat) = 2 by decide) (show ¬ (0 : Nat) = 2 + 1 by decide) (Or.inl (show ¬ (0 + 1 : Nat) = 2 by decide)) (xk2_k (show ¬ (1 : Nat) = 2 by decide) (show ¬ (1 : Nat) = 2 + 1 by decide) (Or.inr (xI_cat _)) (xk2_k (show ¬ (4 : Nat) = 2 by decide) (show ¬ (4 : Nat) = 2 + 1 by decide) (Or.inl (show ¬ (4 + 1 : Nat) = 2 by decide)) xk2_n))) rfl ?_
  refine xe_iincr (i := 4) (n := 1) (by decide +kernel) (by decide) rfl (xk_k (show ¬ (2 : Nat) = 4 by decide) (Or.inl (show ¬ (2 + 1 : Nat) = 4 by decide)) (xk_k (show ¬ (0 : Nat) = 4 by decide) (Or.inl (show ¬ (0 + 1 : Nat) = 4 by decide)) (xk_k (show ¬ (1 : Nat) = 4 by decide) (Or.inl (show ¬ (1 + 1 : Nat) = 4 by decide)) (xk_d rfl xk_n)))) rfl ?_
  refine xe_goto (off := -104) (nx := 5) (by decide +kernel) (by decide) ?_
  refine xW_lv rfl (l := [(0, xR_ (x0)), (1, xI (x1)), (2, xZ (y0)), (4, xI (xwr ((x4) + (1))))]) (xsb_of ⟨rfl, rfl, rfl, rfl, trivial⟩ (show [4, 2, 0, 1].Nodup by decide)) ?_
  exact hr5 hx1 hy0 (xin_wr _) h
def f114_73  (r5 : Nat → Int → Int → Int → xj_M → Option (Int × xj_M)) (f : Nat) (x0 : Nat) (x1 : Int) (x2 : Int) (x4 : Int) (y0 : Int) (M : xj_M) : Option (Int × xj_M) := (if ¬ (y0) = 0 then (if (12) ≤ (xwr ((x4) - (x1))) then f114_105  r5 f (x0) (x1) (x4) (x2) M else f114_105  r5 f (x0) (x1) (x4) (xwl ((xwl ((x2) * (38))) + (y0))) M) else f114_112   f (x0) (x1) (x2) (x4) M)
theorem k114_73 {d f : Nat}  {r5 : Nat → Int → Int → Int → xj_M → Option (Int × xj_M)}  (hr5 : ∀ {x0 : Nat} {x1 : Int} {x2 : Int} {x4 : Int} {M : xj_M} {R : Int × xj_M}, xin x1 → xiN x2 → xin x4 → r5 x0 x1 x2 x4 M = some R → xW (d + 6) (none, d + 6, none) xr_114 (5, [(0, xR_ x0), (1, xI x1), (2, xZ x2), (4, xI x4)], [], M) (xQi R)) {x0 : Nat} {x1 : Int} {x2 : Int} {x4 : Int} {y0 : Int} {M : xj_M} {R : Int × xj_M} (hx1 : xin x1) (hx2 : xiN x2) (hx4 : xin x4) (hy0 : xin y0) (h : f114_73  r5 f x0 x1 x2 x4 y0 M = some R) : xW (d + 6) (none, d + 6, none) xr_114 (73, [(0, xR_ x0), (1, xI x1), (2, xZ x2), (4, xI x4)], [xI y0], M) (xQi R) := by
  unfold f114_73 at h
  refine xe_isr (ins := .istore 6) (len := 2) (i := 6) (by decide +kernel) rfl rfl rfl (by decide) (xk_k (show ¬ (0 : Nat) = 6 by decide) (Or.inl (show ¬ (0 + 1 : Nat) = 6 by decide)) (xk_k (show ¬ (1 : Nat) = 6 by decide) (Or.inl (show ¬ (1 + 1 : Nat) = 6 by decide)) (xk_k (show ¬ (2 : Nat) = 6 by decide) (Or.inl (show ¬ (2 + 1 : Nat) = 6 by decide)) (xk_k (show ¬ (4 : Nat) = 6 by decide) (Or.inl (show ¬ (4 + 1 : Nat) = 6 by decide)) xk_n)))) rfl ?_
  refine xe_ldn (ins := .iload 6) (len := 2) (by decide +kernel) rfl rfl rfl rfl ?_
  refine xe_ifne (off := 6) (t := 83) (by decide +kernel) (by decide) rfl hy0 (fun c119 => ?_) (fun c119 => ?_)
  · rw [if_pos c119] at h
    refine xe_ldn (ins := .iload 4) (len := 2) (by decide +kernel) rfl rfl rfl rfl ?_
    refine xe_ldn (ins := .iload_n 1) (len := 1) (by decide +kernel) rfl rfl rfl rfl ?_
    refine xe_isub (by decide +kernel) rfl ?_
    refine xe_bipush (n := 12) (by decide +kernel) (by decide) rfl ?_
    refine xe_icmpge (off := 15) (t := 104) (by decide +kernel) (by decide) rfl (xin_wr _) (show xin (12) by decide) (fun c120 => ?_) (fun c120 => ?_)
    · rw [if_pos c120] at h
      refine xe_ldn (ins := .lload_n 2) (len := 1) (by decide +kernel) rfl rfl rfl rfl ?_
      refine xW_lv rfl (l := [(0, xR_ (x0)), (1, xI (x1)), (4, xI (x4))]) (xsb_of ⟨rfl, rfl, rfl, trivial⟩ (show [6, 0, 1, 2, 4].Nodup by decide)) ?_
      exact k114_105  hr5 hx1 hx4 hx2 h
    · rw [if_neg c120] at h
      refine xe_ldn (ins := .lload_n 2) (len := 1) (by decide +kernel) rfl rfl rfl rfl ?_
      refine xe_ldc2 (i := 69) (n := 38) (by decide +kernel) (by decide +kernel) rfl ?_
      refine xe_lmul (by decide +kernel) rfl ?_
      refine xe_ldn (ins := .iload 6) (len := 2) (by decide +kernel) rfl rfl rfl rfl ?_
      refine xe_i2l (by decide +kernel) rfl hy0 ?_
      refine xe_ladd (by decide +kernel) rfl ?_
      refine xe_goto (off := 4) (nx := 105) (by decide +kernel) (by decide) ?_
      refine xW_lv rfl (l := [(0, xR_ (x0)), (1, xI (x1)), (4, xI (x4))]) (xsb_of ⟨rfl, rfl, rfl, trivial⟩ (show [6, 0, 1, 2, 4].Nodup by decide)) ?_
      exact k114_105  hr5 hx1 hx4 (xiN_wl _) h
  · rw [if_neg c119] at h
    refine xe_goto (off := 32) (nx := 112) (by decide +kernel) (by decide) ?_
    refine xW_lv rfl (l := [(0, xR_ (x0)), (1, xI (x1)), (2, xZ (x2)), (4, xI (x4))]) (xsb_of ⟨rfl, rfl, rfl, rfl, trivial⟩ (show [6, 0, 1, 2, 4].Nodup by decide)) ?_
    exact k114_112   hx1 hx2 hx4 h
def f114_5b  (r5 : Nat → Int → Int → Int → xj_M → Option (Int × xj_M)) (f : Nat) (x0 : Nat) (x1 : Int) (x2 : Int) (x4 : Int) (M : xj_M) : Option (Int × xj_M) := ((xq_gi 8 1 (x0) M).bind fun v121 => (if (v121) ≤ (x4) then f114_112   f (x0) (x1) (x2) (x4) M else ((xq_gr 8 0 (x0) M).bind fun v124 => ((xq_ai 2 (v124) (x4) M).bind fun v126 => ((f121  f (v126) M).bind fun R129 => (if (R129.1) = 0 then ((f123  f (v126) R129.2).bind fun R133 => (if (R133.1) = 0 then (if ¬ (v126) = (95) then f114_73  r5 f (x0) (x1) (x2) (x4) (0) R133.2 else f114_73  r5 f (x0) (x1) (x2) (x4) (37) R133.2) else f114_73  r5 f (x0) (x1) (x2) (x4) (xwr ((xwr ((v126) - (48))) + (27))) R133.2)) else f114_73  r5 f (x0) (x1) (x2) (x4) (xwr ((xwr ((v126) - (97))) + (1))) R129.2))))))
theorem k114_5b {d f : Nat}  {r5 : Nat → Int → Int → Int → xj_M → Option (Int × xj_M)}  (hr5 : ∀ {x0 : Nat} {x1 : Int} {x2 : Int} {x4 : Int} {M : xj_M} {R : Int × xj_M}, xin x1 → xiN x2 → xin x4 → r5 x0 x1 x2 x4 M = some R → xW (d + 6) (none, d + 6, none) xr_114 (5, [(0, xR_ x0), (1, xI x1), (2, xZ x2), (4, xI x4)], [], M) (xQi R)) {x0 : Nat} {x1 : Int} {x2 : Int} {x4 : Int} {M : xj_M} {R : Int × xj_M} (hx1 : xin x1) (hx2 : xiN x2) (hx4 : xin x4) (h : f114_5b  r5 f x0 x1 x2 x4 M = some R) : xW (d + 6) (none, d + 6, none) xr_114 (5, [(0, xR_ x0), (1, xI x1), (2, xZ x2), (4, xI x4)], [], M) (xQi R) := by
  unfold f114_5b at h
  refine xe_ldn (ins := .iload 4) (len := 2) (by decide +kernel) rfl rfl rfl rfl ?_
  refine xe_alr (ins := .aload_n 0) (len := 1) (i := 0) (by decide +kernel) rfl rfl rfl rfl rfl ?_
  obtain ⟨v121, e122, h⟩ := xbnd h
  refine xs_gi (i := 32) (c := 8) (k := 1) (by decide +kernel) (by decide) (by decide +kernel) e122 rfl ?_
  refine xe_icmpge (off := 101) (t := 112) (by decide +kernel) (by decide) rfl hx4 (xq_gi_in e122) (fun c123 => ?_) (fun c123 => ?_)
  · rw [if_pos c123] at h
    refine xW_lv rfl (l := [(0, xR_ (x0)), (1, xI (x1)), (2, xZ (x2)), (4, xI (x4))]) (xsb_of ⟨rfl, rfl, rfl, rfl, trivial⟩ (show [0, 1, 2, 4].Nodup by decide)) ?_
    exact k114_112   hx1 hx2 hx4 h
  · rw [if_neg c123] at h
    refine xe_alr (ins := .aload_n 0) (len := 1) (i := 0) (by decide +kernel) rfl rfl rfl rfl rfl ?_
    obtain ⟨v124, e125, h⟩ := xbnd h
    refine xs_gr (i := 9) (c := 8) (k := 0) (by decide +kernel) (by decide) (by decide +kernel) e125 rfl ?_
    refine xe_ldn (ins := .iload 4) (len := 2) (by decide +kernel) rfl rfl rfl rfl ?_
    obtain ⟨v126, e127, h⟩ := xbnd h
    refine xs_cald (by decide +kernel) hx4 e127 rfl ?_
    refine xe_isr (ins := .istore 5) (len := 2) (i := 5) (by decide +kernel) rfl rfl rfl (by decide) (xk_k (show ¬ (0 : Nat) = 5 by decide) (Or.inl (show ¬ (0 + 1 : Nat) = 5 by decide)) (xk_k (show ¬ (1 : Nat) = 5 by decide) (Or.inl (show ¬ (1 + 1 : Nat) = 5 by decide)) (xk_k (show ¬ (2 : Nat) = 5 by decide) (Or.inl (show ¬ (2 + 1 : Nat) = 5 by decide)) (xk_k (show ¬ (4 : Nat) = 5 by decide) (Or.inr (xI_cat _)) xk_n)))) rfl ?_
    refine xe_ldn (ins := .iload 5) (len := 2) (by decide +kernel) rfl rfl rfl rfl ?_
    obtain ⟨R129, e128, h⟩ := xbnd h
    refine xs_cs (kd := 2) (by decide) (i := 43) (j := 121) (ar := [xI (v126)]) (rest := []) (r2 := xr_121) (by decide +kernel) (by decide +kernel) (by decide +kernel) xr_121_e rfl (by decide) ?_
    refine xc_i (k121 (d := d + 5)  (xq_ai_in e127) e128) rfl (fun hi130 => ?_)
    refine xe_ifeq (off := 13) (t := 41) (by decide +kernel) (by decide) rfl hi130 (fun c131 => ?_) (fun c131 => ?_)
    · rw [if_pos c131] at h
      refine xe_ldn (ins := .iload 5) (len := 2) (by decide +kernel) rfl rfl rfl rfl ?_
      obtain ⟨R133, e132, h⟩ := xbnd h
      refine xs_cs (kd := 2) (by decide) (i := 56) (j := 123) (ar := [xI (v126)]) (rest := []) (r2 := xr_123) (by decide +kernel) (by decide +kernel) (by decide +kernel) xr_123_e rfl (by decide) ?_
      refine xc_i (k123 (d := d + 5)  (xq_ai_in e127) e132) rfl (fun hi134 => ?_)
      refine xe_ifeq (off := 14) (t := 60) (by decide +kernel) (by decide) rfl hi134 (fun c135 => ?_) (fun c135 => ?_)
      · rw [if_pos c135] at h
        refine xe_ldn (ins := .iload 5) (len := 2) (by decide +kernel) rfl rfl rfl rfl ?_
        refine xe_bipush (n := 95) (by decide +kernel) (by decide) rfl ?_
        refine xe_icmpne (off := 8) (t := 72) (by decide +kernel) (by decide) rfl (xq_ai_in e127) (show xin (95) by decide) (fun c136 => ?_) (fun c136 => ?_)
        · rw [if_pos c136] at h
          refine xe_iconst (n := 0) (by decide +kernel) rfl ?_
          refine xW_lv rfl (l := [(0, xR_ (x0)), (1, xI (x1)), (2, xZ (x2)), (4, xI (x4))]) (xsb_of ⟨rfl, rfl, rfl, rfl, trivial⟩ (show [5, 0, 1, 2, 4].Nodup by decide)) ?_
          exact k114_73  hr5 hx1 hx2 hx4 (show xin (0) by decide) h
        · rw [if_neg c136] at h
          refine xe_bipush (n := 37) (by decide +kernel) (by decide) rfl ?_
          refine xe_goto (off := 4) (nx := 73) (by decide +kernel) (by decide) ?_
          refine xW_lv rfl (l := [(0, xR_ (x0)), (1, xI (x1)), (2, xZ (x2)), (4, xI (x4))]) (xsb_of ⟨rfl, rfl, rfl, rfl, trivial⟩ (show [5, 0, 1, 2, 4].Nodup by decide)) ?_
          exact k114_73  hr5 hx1 hx2 hx4 (show xin (37) by decide) h
      · rw [if_neg c135] at h
        refine xe_ldn (ins := .iload 5) (len := 2) (by decide +kernel) rfl rfl rfl rfl ?_
        refine xe_bipush (n := 48) (by decide +kernel) (by decide) rfl ?_
        refine xe_isub (by decide +kernel) rfl ?_
        refine xe_bipush (n := 27) (by decide +kernel) (by decide) rfl ?_
        refine xe_iadd (by decide +kernel) rfl ?_
        refine xe_goto (off := 16) (nx := 73) (by decide +kernel) (by decide) ?_
        refine xW_lv rfl (l := [(0, xR_ (x0)), (1, xI (x1)), (2, xZ (x2)), (4, xI (x4))]) (xsb_of ⟨rfl, rfl, rfl, rfl, trivial⟩ (show [5, 0, 1, 2, 4].Nodup by decide)) ?_
        exact k114_73  hr5 hx1 hx2 hx4 (xin_wr _) h
    · rw [if_neg c131] at h
      refine xe_ldn (ins := .iload 5) (len := 2) (by decide +kernel) rfl rfl rfl rfl ?_
      refine xe_bipush (n := 97) (by decide +kernel) (by decide) rfl ?_
      refine xe_isub (by decide +kernel) rfl ?_
      refine xe_iconst (n := 1) (by decide +kernel) rfl ?_
      refine xe_iadd (by decide +kernel) rfl ?_
      refine xe_goto (off := 35) (nx := 73) (by decide +kernel) (by decide) ?_
      refine xW_lv rfl (l := [(0, xR_ (x0)), (1, xI (x1)), (2, xZ (x2)), (4, xI (x4))]) (xsb_of ⟨rfl, rfl, rfl, rfl, trivial⟩ (show [5, 0, 1, 2, 4].Nodup by decide)) ?_
      exact k114_73  hr5 hx1 hx2 hx4 (xin_wr _) h
def f114_5   (f : Nat) : Nat → Nat → Int → Int → Int → xj_M → Option (Int × xj_M)
  | 0, _, _, _, _, _ => none
  | n + 1, x0, x1, x2, x4, M => f114_5b   (f114_5   f n) f x0 x1 x2 x4 M
theorem k114_5 {d f : Nat}     : ∀ {n : Nat} {x0 : Nat} {x1 : Int} {x2 : Int} {x4 : Int} {M : xj_M} {R : Int × xj_M}, xin x1 → xiN x2 → xin x4 → f114_5   f n x0 x1 x2 x4 M = some R → xW (d + 6) (none, d + 6, none) xr_114 (5, [(0, xR_ x0), (1, xI x1), (2, xZ x2), (4, xI x4)], [], M) (xQi R) := by
  intro n
  induction n with
  | zero => intros; rename_i h; cases h
  | succ n ih => intros; rename_i h; exact k114_5b   ih (by assumption) (by assumption) (by assumption) h
def f114  (f : Nat) (a0 : Nat) (a1 : Int) (M : xj_M) : Option (Int × xj_M) := f114_5   f f (a0) (a1) (0) (a1) M
theorem k114 {d f : Nat}   {a0 : Nat} {a1 : Int} {M : xj_M} {R : Int × xj_M} (ha1 : xin a1) (h : f114  f a0 a1 M = some R) : xT (d + 7) 114 [xR_ a0, xI a1] M (xQi R) := by
  refine xT_m xr_114_e (X := (none, d + 6, none)) rfl (xa_1 (xR_cat _) (xa_1 (xI_cat _) xa_n)) (by decide) ?_
  unfold f114 at h
  refine xe_lconst (n := 0) (z := 0) (by decide +kernel) rfl rfl ?_
  refine xe_lsr (ins := .lstore_n 2) (len := 1) (i := 2) (by decide +kernel) rfl rfl rfl (by decide) (xk2_k (show ¬ (0 : Nat) = 2 by decide) (show ¬ (0 : Nat) = 2 + 1 by decide) (Or.inl (show ¬ (0 + 1 : Nat) = 2 by decide)) (xk2_k (show ¬ (1 : Nat) = 2 by decide) (show ¬ (1 : Nat) = 2 + 1 by decide) (Or.inr (xI_cat _)) xk2_n)) rfl ?_
  refine xe_ldn (ins := .iload_n 1) (len := 1) (by decide +kernel) rfl rfl rfl rfl ?_
  refine xe_isr (ins := .istore 4) (len := 2) (i := 4) (by decide +kernel) rfl rfl rfl (by decide) (xk_k (show ¬ (2 : Nat) = 4 by decide) (Or.inl (show ¬ (2 + 1 : Nat) = 4 by decide)) (xk_k (show ¬ (0 : Nat) = 4 by decide) (Or.inl (show ¬ (0 + 1 : Nat) = 4 by decide)) (xk_k (show ¬ (1 : Nat) = 4 by decide) (Or.inl (show ¬ (1 + 1 : Nat) = 4 by decide)) xk_n))) rfl ?_
  refine xW_lv rfl (l := [(0, xR_ (a0)), (1, xI (a1)), (2, xZ (0)), (4, xI (a1))]) (xsb_of ⟨rfl, rfl, rfl, rfl, trivial⟩ (show [4, 2, 0, 1].Nodup by decide)) ?_
  exact k114_5   ha1 (show xiN (0) by decide) ha1 h
-- ChangeHouse$Tape.addSign
def xr_119 : xj_mR := (8, yX8_addSign, cX8_addSign, 6, (Option.some Jvm.ClassFile.FieldType.int), 1, false, (3, 239), (1, 2))
set_option maxRecDepth 20000 in
theorem xr_119_e : xj_row 119 = some xr_119 := rfl
def f119_167   (f : Nat) (x1 : Int) (y0 : Int) (y1 : Nat) (M : xj_M) : Option (Int × xj_M) := ((xq_is 8 (y1) M).bind fun _ => ((f120  f (y1) (y0) (x1) (xwr ((x1) + (1))) (0) M).bind fun M103 => (some (xwr ((x1) + (1)), M103))))
theorem k119_167 {d f : Nat}     {x1 : Int} {y0 : Int} {y1 : Nat} {M : xj_M} {R : Int × xj_M} (hx1 : xin x1) (hy0 : xin y0) (h : f119_167   f x1 y0 y1 M = some R) : xW (d + 4) (none, d + 4, none) xr_119 (167, [(1, xI x1)], [xI y0, xR_ y1], M) (xQi R) := by
  unfold f119_167 at h
  refine xe_ldn (ins := .iload_n 1) (len := 1) (by decide +kernel) rfl rfl rfl rfl ?_
  refine xe_ldn (ins := .iload_n 1) (len := 1) (by decide +kernel) rfl rfl rfl rfl ?_
  refine xe_iconst (n := 1) (by decide +kernel) rfl ?_
  refine xe_iadd (by decide +kernel) rfl ?_
  refine xe_lconst (n := 0) (z := 0) (by decide +kernel) rfl rfl ?_
  obtain ⟨_, e102, h⟩ := xbnd h
  obtain ⟨M103, e101, h⟩ := xbnd h
  refine xs_cv (i := 65) (j := 120) (ar := [xZ (0), xI (xwr ((x1) + (1))), xI (x1), xI (y0)]) (rest := []) (r2 := xr_120) (by decide +kernel) (by decide +kernel) (by decide +kernel) xr_120_e rfl (by decide) (by decide) e102 ?_
  refine xc_v (k120 (d := d + 3)  hy0 hx1 (xin_wr _) (show xiN (0) by decide) e101) rfl ?_
  refine xe_ldn (ins := .iload_n 1) (len := 1) (by decide +kernel) rfl rfl rfl rfl ?_
  refine xe_iconst (n := 1) (by decide +kernel) rfl ?_
  refine xe_iadd (by decide +kernel) rfl ?_
  cases h
  exact xe_ret_i (ty := .int) (by decide +kernel) rfl rfl ⟨rfl, rfl, (xin_wr _)⟩
def f119_144   (f : Nat) (x0 : Nat) (x1 : Int) (x2 : Int) (y0 : Int) (M : xj_M) : Option (Int × xj_M) := (if ¬ (x2) = (95) then (if (y0) = 0 then f119_167   f (x1) (5) (x0) M else f119_167   f (x1) (x2) (x0) M) else f119_167   f (x1) (3) (x0) M)
theorem k119_144 {d f : Nat}     {x0 : Nat} {x1 : Int} {x2 : Int} {y0 : Int} {M : xj_M} {R : Int × xj_M} (hx1 : xin x1) (hx2 : xin x2) (hy0 : xin y0) (h : f119_144   f x0 x1 x2 y0 M = some R) : xW (d + 4) (none, d + 4, none) xr_119 (144, [(0, xR_ x0), (1, xI x1), (2, xI x2)], [xI y0], M) (xQi R) := by
  unfold f119_144 at h
  refine xe_isr (ins := .istore 5) (len := 2) (i := 5) (by decide +kernel) rfl rfl rfl (by decide) (xk_k (show ¬ (0 : Nat) = 5 by decide) (Or.inl (show ¬ (0 + 1 : Nat) = 5 by decide)) (xk_k (show ¬ (1 : Nat) = 5 by decide) (Or.inl (show ¬ (1 + 1 : Nat) = 5 by decide)) (xk_k (show ¬ (2 : Nat) = 5 by decide) (Or.inl (show ¬ (2 + 1 : Nat) = 5 by decide)) xk_n))) rfl ?_
  refine xe_alr (ins := .aload_n 0) (len := 1) (i := 0) (by decide +kernel) rfl rfl rfl rfl rfl ?_
  refine xe_ldn (ins := .iload_n 2) (len := 1) (by decide +kernel) rfl rfl rfl rfl ?_
  refine xe_bipush (n := 95) (by decide +kernel) (by decide) rfl ?_
  refine xe_icmpne (off := 7) (t := 157) (by decide +kernel) (by decide) rfl hx2 (show xin (95) by decide) (fun c105 => ?_) (fun c105 => ?_)
  · rw [if_pos c105] at h
    refine xe_ldn (ins := .iload 5) (len := 2) (by decide +kernel) rfl rfl rfl rfl ?_
    refine xe_ifeq (off := 7) (t := 166) (by decide +kernel) (by decide) rfl hy0 (fun c106 => ?_) (fun c106 => ?_)
    · rw [if_pos c106] at h
      refine xe_iconst (n := 5) (by decide +kernel) rfl ?_
      refine xW_lv rfl (l := [(1, xI (x1))]) (xsb_of ⟨rfl, trivial⟩ (show [5, 0, 1, 2].Nodup by decide)) ?_
      exact k119_167   hx1 (show xin (5) by decide) h
    · rw [if_neg c106] at h
      refine xe_ldn (ins := .iload_n 2) (len := 1) (by decide +kernel) rfl rfl rfl rfl ?_
      refine xe_goto (off := 4) (nx := 167) (by decide +kernel) (by decide) ?_
      refine xW_lv rfl (l := [(1, xI (x1))]) (xsb_of ⟨rfl, trivial⟩ (show [5, 0, 1, 2].Nodup by decide)) ?_
      exact k119_167   hx1 hx2 h
  · rw [if_neg c105] at h
    refine xe_iconst (n := 3) (by decide +kernel) rfl ?_
    refine xe_goto (off := 13) (nx := 167) (by decide +kernel) (by decide) ?_
    refine xW_lv rfl (l := [(1, xI (x1))]) (xsb_of ⟨rfl, trivial⟩ (show [5, 0, 1, 2].Nodup by decide)) ?_
    exact k119_167   hx1 (show xin (3) by decide) h
def f119_143   (f : Nat) (x0 : Nat) (x1 : Int) (x2 : Int) (M : xj_M) : Option (Int × xj_M) := f119_144   f (x0) (x1) (x2) (0) M
theorem k119_143 {d f : Nat}     {x0 : Nat} {x1 : Int} {x2 : Int} {M : xj_M} {R : Int × xj_M} (hx1 : xin x1) (hx2 : xin x2) (h : f119_143   f x0 x1 x2 M = some R) : xW (d + 4) (none, d + 4, none) xr_119 (143, [(0, xR_ x0), (1, xI x1), (2, xI x2)], [], M) (xQi R) := by
  unfold f119_143 at h
  refine xe_iconst (n := 0) (by decide +kernel) rfl ?_
  refine xW_lv rfl (l := [(0, xR_ (x0)), (1, xI (x1)), (2, xI (x2))]) (xsb_of ⟨rfl, rfl, rfl, trivial⟩ (show [0, 1, 2].Nodup by decide)) ?_
  exact k119_144   hx1 hx2 (show xin (0) by decide) h
def f119_103   (f : Nat) (x0 : Nat) (x1 : Int) (x2 : Int) (y0 : Int) (M : xj_M) : Option (Int × xj_M) := (if (y0) = (-1) then (if (x2) ≤ 0 then f119_143   f (x0) (x1) (x2) M else ((xq_st (9)).bind fun _ => ((f387  f (9) (x2) M).bind fun R111 => (if (R111.1) < 0 then f119_143   f (x0) (x1) (x2) R111.2 else f119_144   f (x0) (x1) (x2) (1) R111.2)))) else ((xq_is 8 (x0) M).bind fun _ => ((f120  f (x0) (y0) (x1) (xwr ((x1) + (2))) (0) M).bind fun M116 => (some (xwr ((x1) + (2)), M116)))))
theorem k119_103 {d f : Nat}     {x0 : Nat} {x1 : Int} {x2 : Int} {y0 : Int} {M : xj_M} {R : Int × xj_M} (hx1 : xin x1) (hx2 : xin x2) (hy0 : xin y0) (h : f119_103   f x0 x1 x2 y0 M = some R) : xW (d + 4) (none, d + 4, none) xr_119 (103, [(0, xR_ x0), (1, xI x1), (2, xI x2)], [xI y0], M) (xQi R) := by
  unfold f119_103 at h
  refine xe_isr (ins := .istore 4) (len := 2) (i := 4) (by decide +kernel) rfl rfl rfl (by decide) (xk_k (show ¬ (0 : Nat) = 4 by decide) (Or.inl (show ¬ (0 + 1 : Nat) = 4 by decide)) (xk_k (show ¬ (1 : Nat) = 4 by decide) (Or.inl (show ¬ (1 + 1 : Nat) = 4 by decide)) (xk_k (show ¬ (2 : Nat) = 4 by decide) (Or.inl (show ¬ (2 + 1 : Nat) = 4 by decide)) xk_n))) rfl ?_
  refine xe_ldn (ins := .iload 4) (len := 2) (by decide +kernel) rfl rfl rfl rfl ?_
  refine xe_iconst (n := -1) (by decide +kernel) rfl ?_
  refine xe_icmpeq (off := 18) (t := 126) (by decide +kernel) (by decide) rfl hy0 (show xin (-1) by decide) (fun c107 => ?_) (fun c107 => ?_)
  · rw [if_pos c107] at h
    refine xe_ldn (ins := .iload_n 2) (len := 1) (by decide +kernel) rfl rfl rfl rfl ?_
    refine xe_ifle (off := 16) (t := 143) (by decide +kernel) (by decide) rfl hx2 (fun c108 => ?_) (fun c108 => ?_)
    · rw [if_pos c108] at h
      refine xW_lv rfl (l := [(0, xR_ (x0)), (1, xI (x1)), (2, xI (x2))]) (xsb_of ⟨rfl, rfl, rfl, trivial⟩ (show [4, 0, 1, 2].Nodup by decide)) ?_
      exact k119_143   hx1 hx2 h
    · rw [if_neg c108] at h
      refine xe_ldcs (x := 9) (by decide) (ins := .ldc 126) (len := 2) (by decide +kernel) rfl rfl rfl rfl rfl rfl rfl ?_
      refine xe_ldn (ins := .iload_n 2) (len := 1) (by decide +kernel) rfl rfl rfl rfl ?_
      obtain ⟨_, e110, h⟩ := xbnd h
      obtain ⟨R111, e109, h⟩ := xbnd h
      refine xs_cw (i := 128) (j := 387) (ar := [xI (x2)]) (rest := []) (r2 := xr_387) (by decide +kernel) (by decide +kernel) (by decide +kernel) xr_387_e rfl (by decide) e110 ?_
      refine xc_i (k387 (d := d + 0)  hx2 e109) rfl (fun hi112 => ?_)
      refine xe_iflt (off := 7) (t := 143) (by decide +kernel) (by decide) rfl hi112 (fun c113 => ?_) (fun c113 => ?_)
      · rw [if_pos c113] at h
        refine xW_lv rfl (l := [(0, xR_ (x0)), (1, xI (x1)), (2, xI (x2))]) (xsb_of ⟨rfl, rfl, rfl, trivial⟩ (show [4, 0, 1, 2].Nodup by decide)) ?_
        exact k119_143   hx1 hx2 h
      · rw [if_neg c113] at h
        refine xe_iconst (n := 1) (by decide +kernel) rfl ?_
        refine xe_goto (off := 4) (nx := 144) (by decide +kernel) (by decide) ?_
        refine xW_lv rfl (l := [(0, xR_ (x0)), (1, xI (x1)), (2, xI (x2))]) (xsb_of ⟨rfl, rfl, rfl, trivial⟩ (show [4, 0, 1, 2].Nodup by decide)) ?_
        exact k119_144   hx1 hx2 (show xin (1) by decide) h
  · rw [if_neg c107] at h
    refine xe_alr (ins := .aload_n 0) (len := 1) (i := 0) (by decide +kernel) rfl rfl rfl rfl rfl ?_
    refine xe_ldn (ins := .iload 4) (len := 2) (by decide +kernel) rfl rfl rfl rfl ?_
    refine xe_ldn (ins := .iload_n 1) (len := 1) (by decide +kernel) rfl rfl rfl rfl ?_
    refine xe_ldn (ins := .iload_n 1) (len := 1) (by decide +kernel) rfl rfl rfl rfl ?_
    refine xe_iconst (n := 2) (by decide +kernel) rfl ?_
    refine xe_iadd (by decide +kernel) rfl ?_
    refine xe_lconst (n := 0) (z := 0) (by decide +kernel) rfl rfl ?_
    obtain ⟨_, e115, h⟩ := xbnd h
    obtain ⟨M116, e114, h⟩ := xbnd h
    refine xs_cv (i := 65) (j := 120) (ar := [xZ (0), xI (xwr ((x1) + (2))), xI (x1), xI (y0)]) (rest := []) (r2 := xr_120) (by decide +kernel) (by decide +kernel) (by decide +kernel) xr_120_e rfl (by decide) (by decide) e115 ?_
    refine xc_v (k120 (d := d + 3)  hy0 hx1 (xin_wr _) (show xiN (0) by decide) e114) rfl ?_
    refine xe_ldn (ins := .iload_n 1) (len := 1) (by decide +kernel) rfl rfl rfl rfl ?_
    refine xe_iconst (n := 2) (by decide +kernel) rfl ?_
    refine xe_iadd (by decide +kernel) rfl ?_
    cases h
    exact xe_ret_i (ty := .int) (by decide +kernel) rfl rfl ⟨rfl, rfl, (xin_wr _)⟩
def f119_102   (f : Nat) (x0 : Nat) (x1 : Int) (x2 : Int) (M : xj_M) : Option (Int × xj_M) := f119_103   f (x0) (x1) (x2) (-1) M
theorem k119_102 {d f : Nat}     {x0 : Nat} {x1 : Int} {x2 : Int} {M : xj_M} {R : Int × xj_M} (hx1 : xin x1) (hx2 : xin x2) (h : f119_102   f x0 x1 x2 M = some R) : xW (d + 4) (none, d + 4, none) xr_119 (102, [(0, xR_ x0), (1, xI x1), (2, xI x2)], [], M) (xQi R) := by
  unfold f119_102 at h
  refine xe_iconst (n := -1) (by decide +kernel) rfl ?_
  refine xW_lv rfl (l := [(0, xR_ (x0)), (1, xI (x1)), (2, xI (x2))]) (xsb_of ⟨rfl, rfl, rfl, trivial⟩ (show [0, 1, 2].Nodup by decide)) ?_
  exact k119_103   hx1 hx2 (show xin (-1) by decide) h
def f119_84   (f : Nat) (x0 : Nat) (x1 : Int) (x2 : Int) (x3 : Int) (M : xj_M) : Option (Int × xj_M) := (if ¬ (x2) = (62) then f119_102   f (x0) (x1) (x2) M else (if ¬ (x3) = (61) then f119_102   f (x0) (x1) (x2) M else f119_103   f (x0) (x1) (x2) (259) M))
theorem k119_84 {d f : Nat}     {x0 : Nat} {x1 : Int} {x2 : Int} {x3 : Int} {M : xj_M} {R : Int × xj_M} (hx1 : xin x1) (hx2 : xin x2) (hx3 : xin x3) (h : f119_84   f x0 x1 x2 x3 M = some R) : xW (d + 4) (none, d + 4, none) xr_119 (84, [(0, xR_ x0), (1, xI x1), (2, xI x2), (3, xI x3)], [], M) (xQi R) := by
  unfold f119_84 at h
  refine xe_ldn (ins := .iload_n 2) (len := 1) (by decide +kernel) rfl rfl rfl rfl ?_
  refine xe_bipush (n := 62) (by decide +kernel) (by decide) rfl ?_
  refine xe_icmpne (off := 15) (t := 102) (by decide +kernel) (by decide) rfl hx2 (show xin (62) by decide) (fun c118 => ?_) (fun c118 => ?_)
  · rw [if_pos c118] at h
    refine xW_lv rfl (l := [(0, xR_ (x0)), (1, xI (x1)), (2, xI (x2))]) (xsb_of ⟨rfl, rfl, rfl, trivial⟩ (show [0, 1, 2, 3].Nodup by decide)) ?_
    exact k119_102   hx1 hx2 h
  · rw [if_neg c118] at h
    refine xe_ldn (ins := .iload_n 3) (len := 1) (by decide +kernel) rfl rfl rfl rfl ?_
    refine xe_bipush (n := 61) (by decide +kernel) (by decide) rfl ?_
    refine xe_icmpne (off := 9) (t := 102) (by decide +kernel) (by decide) rfl hx3 (show xin (61) by decide) (fun c119 => ?_) (fun c119 => ?_)
    · rw [if_pos c119] at h
      refine xW_lv rfl (l := [(0, xR_ (x0)), (1, xI (x1)), (2, xI (x2))]) (xsb_of ⟨rfl, rfl, rfl, trivial⟩ (show [0, 1, 2, 3].Nodup by decide)) ?_
      exact k119_102   hx1 hx2 h
    · rw [if_neg c119] at h
      refine xe_sipush (n := 259) (by decide +kernel) (by decide) rfl ?_
      refine xe_goto (off := 4) (nx := 103) (by decide +kernel) (by decide) ?_
      refine xW_lv rfl (l := [(0, xR_ (x0)), (1, xI (x1)), (2, xI (x2))]) (xsb_of ⟨rfl, rfl, rfl, trivial⟩ (show [0, 1, 2, 3].Nodup by decide)) ?_
      exact k119_103   hx1 hx2 (show xin (259) by decide) h
def f119_66   (f : Nat) (x0 : Nat) (x1 : Int) (x2 : Int) (x3 : Int) (M : xj_M) : Option (Int × xj_M) := (if ¬ (x2) = (60) then f119_84   f (x0) (x1) (x2) (x3) M else (if ¬ (x3) = (61) then f119_84   f (x0) (x1) (x2) (x3) M else f119_103   f (x0) (x1) (x2) (258) M))
theorem k119_66 {d f : Nat}     {x0 : Nat} {x1 : Int} {x2 : Int} {x3 : Int} {M : xj_M} {R : Int × xj_M} (hx1 : xin x1) (hx2 : xin x2) (hx3 : xin x3) (h : f119_66   f x0 x1 x2 x3 M = some R) : xW (d + 4) (none, d + 4, none) xr_119 (66, [(0, xR_ x0), (1, xI x1), (2, xI x2), (3, xI x3)], [], M) (xQi R) := by
  unfold f119_66 at h
  refine xe_ldn (ins := .iload_n 2) (len := 1) (by decide +kernel) rfl rfl rfl rfl ?_
  refine xe_bipush (n := 60) (by decide +kernel) (by decide) rfl ?_
  refine xe_icmpne (off := 15) (t := 84) (by decide +kernel) (by decide) rfl hx2 (show xin (60) by decide) (fun c120 => ?_) (fun c120 => ?_)
  · rw [if_pos c120] at h
    refine xW_lv rfl (l := [(0, xR_ (x0)), (1, xI (x1)), (2, xI (x2)), (3, xI (x3))]) (xsb_of ⟨rfl, rfl, rfl, rfl, trivial⟩ (show [0, 1, 2, 3].Nodup by decide)) ?_
    exact k119_84   hx1 hx2 hx3 h
  · rw [if_neg c120] at h
    refine xe_ldn (ins := .iload_n 3) (len := 1) (by decide +kernel) rfl rfl rfl rfl ?_
    refine xe_bipush (n := 61) (by decide +kernel) (by decide) rfl ?_
    refine xe_icmpne (off := 9) (t := 84) (by decide +kernel) (by decide) rfl hx3 (show xin (61) by decide) (fun c121 => ?_) (fun c121 => ?_)
    · rw [if_pos c121] at h
      refine xW_lv rfl (l := [(0, xR_ (x0)), (1, xI (x1)), (2, xI (x2)), (3, xI (x3))]) (xsb_of ⟨rfl, rfl, rfl, rfl, trivial⟩ (show [0, 1, 2, 3].Nodup by decide)) ?_
      exact k119_84   hx1 hx2 hx3 h
    · rw [if_neg c121] at h
      refine xe_sipush (n := 258) (by decide +kernel) (by decide) rfl ?_
      refine xe_goto (off := 22) (nx := 103) (by decide +kernel) (by decide) ?_
      refine xW_lv rfl (l := [(0, xR_ (x0)), (1, xI (x1)), (2, xI (x2))]) (xsb_of ⟨rfl, rfl, rfl, trivial⟩ (show [0, 1, 2, 3].Nodup by decide)) ?_
      exact k119_103   hx1 hx2 (show xin (258) by decide) h
def f119_48   (f : Nat) (x0 : Nat) (x1 : Int) (x2 : Int) (x3 : Int) (M : xj_M) : Option (Int × xj_M) := (if ¬ (x2) = (33) then f119_66   f (x0) (x1) (x2) (x3) M else (if ¬ (x3) = (61) then f119_66   f (x0) (x1) (x2) (x3) M else f119_103   f (x0) (x1) (x2) (257) M))
theorem k119_48 {d f : Nat}     {x0 : Nat} {x1 : Int} {x2 : Int} {x3 : Int} {M : xj_M} {R : Int × xj_M} (hx1 : xin x1) (hx2 : xin x2) (hx3 : xin x3) (h : f119_48   f x0 x1 x2 x3 M = some R) : xW (d + 4) (none, d + 4, none) xr_119 (48, [(0, xR_ x0), (1, xI x1), (2, xI x2), (3, xI x3)], [], M) (xQi R) := by
  unfold f119_48 at h
  refine xe_ldn (ins := .iload_n 2) (len := 1) (by decide +kernel) rfl rfl rfl rfl ?_
  refine xe_bipush (n := 33) (by decide +kernel) (by decide) rfl ?_
  refine xe_icmpne (off := 15) (t := 66) (by decide +kernel) (by decide) rfl hx2 (show xin (33) by decide) (fun c122 => ?_) (fun c122 => ?_)
  · rw [if_pos c122] at h
    refine xW_lv rfl (l := [(0, xR_ (x0)), (1, xI (x1)), (2, xI (x2)), (3, xI (x3))]) (xsb_of ⟨rfl, rfl, rfl, rfl, trivial⟩ (show [0, 1, 2, 3].Nodup by decide)) ?_
    exact k119_66   hx1 hx2 hx3 h
  · rw [if_neg c122] at h
    refine xe_ldn (ins := .iload_n 3) (len := 1) (by decide +kernel) rfl rfl rfl rfl ?_
    refine xe_bipush (n := 61) (by decide +kernel) (by decide) rfl ?_
    refine xe_icmpne (off := 9) (t := 66) (by decide +kernel) (by decide) rfl hx3 (show xin (61) by decide) (fun c123 => ?_) (fun c123 => ?_)
    · rw [if_pos c123] at h
      refine xW_lv rfl (l := [(0, xR_ (x0)), (1, xI (x1)), (2, xI (x2)), (3, xI (x3))]) (xsb_of ⟨rfl, rfl, rfl, rfl, trivial⟩ (show [0, 1, 2, 3].Nodup by decide)) ?_
      exact k119_66   hx1 hx2 hx3 h
    · rw [if_neg c123] at h
      refine xe_sipush (n := 257) (by decide +kernel) (by decide) rfl ?_
      refine xe_goto (off := 40) (nx := 103) (by decide +kernel) (by decide) ?_
      refine xW_lv rfl (l := [(0, xR_ (x0)), (1, xI (x1)), (2, xI (x2))]) (xsb_of ⟨rfl, rfl, rfl, trivial⟩ (show [0, 1, 2, 3].Nodup by decide)) ?_
      exact k119_103   hx1 hx2 (show xin (257) by decide) h
def f119_29   (f : Nat) (x0 : Nat) (x1 : Int) (x2 : Int) (y0 : Int) (M : xj_M) : Option (Int × xj_M) := (if ¬ (x2) = (58) then f119_48   f (x0) (x1) (x2) (y0) M else (if ¬ (y0) = (45) then f119_48   f (x0) (x1) (x2) (y0) M else f119_103   f (x0) (x1) (x2) (256) M))
theorem k119_29 {d f : Nat}     {x0 : Nat} {x1 : Int} {x2 : Int} {y0 : Int} {M : xj_M} {R : Int × xj_M} (hx1 : xin x1) (hx2 : xin x2) (hy0 : xin y0) (h : f119_29   f x0 x1 x2 y0 M = some R) : xW (d + 4) (none, d + 4, none) xr_119 (29, [(0, xR_ x0), (1, xI x1), (2, xI x2)], [xI y0], M) (xQi R) := by
  unfold f119_29 at h
  refine xe_isr (ins := .istore_n 3) (len := 1) (i := 3) (by decide +kernel) rfl rfl rfl (by decide) (xk_k (show ¬ (0 : Nat) = 3 by decide) (Or.inl (show ¬ (0 + 1 : Nat) = 3 by decide)) (xk_k (show ¬ (1 : Nat) = 3 by decide) (Or.inl (show ¬ (1 + 1 : Nat) = 3 by decide)) (xk_k (show ¬ (2 : Nat) = 3 by decide) (Or.inr (xI_cat _)) xk_n))) rfl ?_
  refine xe_ldn (ins := .iload_n 2) (len := 1) (by decide +kernel) rfl rfl rfl rfl ?_
  refine xe_bipush (n := 58) (by decide +kernel) (by decide) rfl ?_
  refine xe_icmpne (off := 15) (t := 48) (by decide +kernel) (by decide) rfl hx2 (show xin (58) by decide) (fun c124 => ?_) (fun c124 => ?_)
  · rw [if_pos c124] at h
    refine xW_lv rfl (l := [(0, xR_ (x0)), (1, xI (x1)), (2, xI (x2)), (3, xI (y0))]) (xsb_of ⟨rfl, rfl, rfl, rfl, trivial⟩ (show [3, 0, 1, 2].Nodup by decide)) ?_
    exact k119_48   hx1 hx2 hy0 h
  · rw [if_neg c124] at h
    refine xe_ldn (ins := .iload_n 3) (len := 1) (by decide +kernel) rfl rfl rfl rfl ?_
    refine xe_bipush (n := 45) (by decide +kernel) (by decide) rfl ?_
    refine xe_icmpne (off := 9) (t := 48) (by decide +kernel) (by decide) rfl hy0 (show xin (45) by decide) (fun c125 => ?_) (fun c125 => ?_)
    · rw [if_pos c125] at h
      refine xW_lv rfl (l := [(0, xR_ (x0)), (1, xI (x1)), (2, xI (x2)), (3, xI (y0))]) (xsb_of ⟨rfl, rfl, rfl, rfl, trivial⟩ (show [3, 0, 1, 2].Nodup by decide)) ?_
      exact k119_48   hx1 hx2 hy0 h
    · rw [if_neg c125] at h
      refine xe_sipush (n := 256) (by decide +kernel) (by decide) rfl ?_
      refine xe_goto (off := 58) (nx := 103) (by decide +kernel) (by decide) ?_
      refine xW_lv rfl (l := [(0, xR_ (x0)), (1, xI (x1)), (2, xI (x2))]) (xsb_of ⟨rfl, rfl, rfl, trivial⟩ (show [3, 0, 1, 2].Nodup by decide)) ?_
      exact k119_103   hx1 hx2 (show xin (256) by decide) h
def f119  (f : Nat) (a0 : Nat) (a1 : Int) (M : xj_M) : Option (Int × xj_M) := ((xq_gr 8 0 (a0) M).bind fun v126 => ((xq_ai 2 (v126) (a1) M).bind fun v128 => ((xq_gi 8 1 (a0) M).bind fun v130 => (if (v130) ≤ (xwr ((a1) + (1))) then f119_29   f (a0) (a1) (v128) (0) M else ((xq_gr 8 0 (a0) M).bind fun v133 => ((xq_ai 2 (v133) (xwr ((a1) + (1))) M).bind fun v135 => f119_29   f (a0) (a1) (v128) (v135) M))))))
theorem k119 {d f : Nat}   {a0 : Nat} {a1 : Int} {M : xj_M} {R : Int × xj_M} (ha1 : xin a1) (h : f119  f a0 a1 M = some R) : xT (d + 5) 119 [xR_ a0, xI a1] M (xQi R) := by
  refine xT_m xr_119_e (X := (none, d + 4, none)) rfl (xa_1 (xR_cat _) (xa_1 (xI_cat _) xa_n)) (by decide) ?_
  unfold f119 at h
  refine xe_alr (ins := .aload_n 0) (len := 1) (i := 0) (by decide +kernel) rfl rfl rfl rfl rfl ?_
  obtain ⟨v126, e127, h⟩ := xbnd h
  refine xs_gr (i := 9) (c := 8) (k := 0) (by decide +kernel) (by decide) (by decide +kernel) e127 rfl ?_
  refine xe_ldn (ins := .iload_n 1) (len := 1) (by decide +kernel) rfl rfl rfl rfl ?_
  obtain ⟨v128, e129, h⟩ := xbnd h
  refine xs_cald (by decide +kernel) ha1 e129 rfl ?_
  refine xe_isr (ins := .istore_n 2) (len := 1) (i := 2) (by decide +kernel) rfl rfl rfl (by decide) (xk_k (show ¬ (0 : Nat) = 2 by decide) (Or.inl (show ¬ (0 + 1 : Nat) = 2 by decide)) (xk_k (show ¬ (1 : Nat) = 2 by decide) (Or.inr (xI_cat _)) xk_n)) rfl ?_
  refine xe_ldn (ins := .iload_n 1) (len := 1) (by decide +kernel) rfl rfl rfl rfl ?_
  refine xe_iconst (n := 1) (by decide +kernel) rfl ?_
  refine xe_iadd (by decide +kernel) rfl ?_
  refine xe_alr (ins := .aload_n 0) (len := 1) (i := 0) (by decide +kernel) rfl rfl rfl rfl rfl ?_
  obtain ⟨v130, e131, h⟩ := xbnd h
  refine xs_gi (i := 32) (c := 8) (k := 1) (by decide +kernel) (by decide) (by decide +kernel) e131 rfl ?_
  refine xe_icmpge (off := 14) (t := 28) (by decide +kernel) (by decide) rfl (xin_wr _) (xq_gi_in e131) (fun c132 => ?_) (fun c132 => ?_)
  · rw [if_pos c132] at h
    refine xe_iconst (n := 0) (by decide +kernel) rfl ?_
    refine xW_lv rfl (l := [(0, xR_ (a0)), (1, xI (a1)), (2, xI (v128))]) (xsb_of ⟨rfl, rfl, rfl, trivial⟩ (show [2, 0, 1].Nodup by decide)) ?_
    exact k119_29   ha1 (xq_ai_in e129) (show xin (0) by decide) h
  · rw [if_neg c132] at h
    refine xe_alr (ins := .aload_n 0) (len := 1) (i := 0) (by decide +kernel) rfl rfl rfl rfl rfl ?_
    obtain ⟨v133, e134, h⟩ := xbnd h
    refine xs_gr (i := 9) (c := 8) (k := 0) (by decide +kernel) (by decide) (by decide +kernel) e134 rfl ?_
    refine xe_ldn (ins := .iload_n 1) (len := 1) (by decide +kernel) rfl rfl rfl rfl ?_
    refine xe_iconst (n := 1) (by decide +kernel) rfl ?_
    refine xe_iadd (by decide +kernel) rfl ?_
    obtain ⟨v135, e136, h⟩ := xbnd h
    refine xs_cald (by decide +kernel) (xin_wr _) e136 rfl ?_
    refine xe_goto (off := 4) (nx := 29) (by decide +kernel) (by decide) ?_
    refine xW_lv rfl (l := [(0, xR_ (a0)), (1, xI (a1)), (2, xI (v128))]) (xsb_of ⟨rfl, rfl, rfl, trivial⟩ (show [2, 0, 1].Nodup by decide)) ?_
    exact k119_29   ha1 (xq_ai_in e129) (xq_ai_in e136) h
