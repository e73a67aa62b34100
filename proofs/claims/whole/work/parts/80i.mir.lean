/-! Mirrors (written by mk_mir.py) -/
-- ChangeHouse$Reader.readChanges
def xr_32 : xj_mR := (4, yX4_readChanges, cX4_readChanges, 7, (Option.none : Option Jvm.ClassFile.FieldType), 1, false, (6, 7), (1, 3))
set_option maxRecDepth 20000 in
theorem xr_32_e : xj_row 32 = some xr_32 := rfl
def f32_141  (r8 : Nat → Int → xj_M → Option ((Nat ⊕ Unit) × xj_M)) (f : Nat) (x0 : Nat) (x2 : Int) (x3 : Int) (x4 : Int) (x5 : Int) (x6 : Int) (M : xj_M) : Option ((Nat ⊕ Unit) × xj_M) := ((xq_is 4 (x0) M).bind fun _ => ((f38 f (x0) (41) M).bind fun R103 => xth R103 (fun _ => ((xq_is 4 (x0) R103.2).bind fun _ => ((f38 f (x0) (46) R103.2).bind fun R109 => xth R109 (fun _ => ((xq_is 4 (x0) R109.2).bind fun _ => ((f40  f (x0) (x3) (x5) (x4) (x6) R109.2).bind fun M115 => r8 (x0) (xwr ((x2) + (1))) M115))))))))
theorem k32_141 {d f : Nat}  {r8 : Nat → Int → xj_M → Option ((Nat ⊕ Unit) × xj_M)}  (hr8 : ∀ {x0 : Nat} {x2 : Int} {M : xj_M} {R : (Nat ⊕ Unit) × xj_M}, xin x2 → r8 x0 x2 M = some R → xW (d + 7) (none, d + 7, none) xr_32 (8, [(0, xR_ x0), (2, xI x2)], [], M) (xQtv R)) {x0 : Nat} {x2 : Int} {x3 : Int} {x4 : Int} {x5 : Int} {x6 : Int} {M : xj_M} {R : (Nat ⊕ Unit) × xj_M} (hx2 : xin x2) (hx3 : xin x3) (hx4 : xin x4) (hx5 : xin x5) (hx6 : xin x6) (h : f32_141  r8 f x0 x2 x3 x4 x5 x6 M = some R) : xW (d + 7) (none, d + 7, none) xr_32 (141, [(0, xR_ x0), (2, xI x2), (3, xI x3), (4, xI x4), (5, xI x5), (6, xI x6)], [], M) (xQtv R) := by
  unfold f32_141 at h
  refine xe_alr (ins := .aload_n 0) (len := 1) (i := 0) (by decide +kernel) rfl rfl rfl rfl rfl ?_
  refine xe_bipush (n := 41) (by decide +kernel) (by decide) rfl ?_
  obtain ⟨_, e102, h⟩ := xbnd h
  obtain ⟨R103, e101, h⟩ := xbnd h
  refine xs2_cv (kd := 0) (jj := 38) (by decide) (i := 76) (j := 38) (ar := [xI (41)]) (rest := []) (r2 := xr_38) (by decide +kernel) (by decide +kernel) (by decide +kernel) xr_38_e rfl (by decide) (by decide) e102 ?_
  refine xct_v (k38 (d := d + 0) (show xin (41) by decide) e101) rfl (fun e1 g105 => ?_) (fun g105 => ?_)
  · rw [xth_l g105] at h; cases h; exact xK_thr rfl ⟨rfl, rfl⟩
  · rw [xth_r g105] at h
    refine xe_alr (ins := .aload_n 0) (len := 1) (i := 0) (by decide +kernel) rfl rfl rfl rfl rfl ?_
    refine xe_bipush (n := 46) (by decide +kernel) (by decide) rfl ?_
    obtain ⟨_, e108, h⟩ := xbnd h
    obtain ⟨R109, e107, h⟩ := xbnd h
    refine xs2_cv (kd := 0) (jj := 38) (by decide) (i := 76) (j := 38) (ar := [xI (46)]) (rest := []) (r2 := xr_38) (by decide +kernel) (by decide +kernel) (by decide +kernel) xr_38_e rfl (by decide) (by decide) e108 ?_
    refine xct_v (k38 (d := d + 0) (show xin (46) by decide) e107) rfl (fun e1 g111 => ?_) (fun g111 => ?_)
    · rw [xth_l g111] at h; cases h; exact xK_thr rfl ⟨rfl, rfl⟩
    · rw [xth_r g111] at h
      refine xe_alr (ins := .aload_n 0) (len := 1) (i := 0) (by decide +kernel) rfl rfl rfl rfl rfl ?_
      refine xe_ldn (ins := .iload_n 3) (len := 1) (by decide +kernel) rfl rfl rfl rfl ?_
      refine xe_ldn (ins := .iload 5) (len := 2) (by decide +kernel) rfl rfl rfl rfl ?_
      refine xe_ldn (ins := .iload 4) (len := 2) (by decide +kernel) rfl rfl rfl rfl ?_
      refine xe_ldn (ins := .iload 6) (len := 2) (by decide +kernel) rfl rfl rfl rfl ?_
      obtain ⟨_, e114, h⟩ := xbnd h
      obtain ⟨M115, e113, h⟩ := xbnd h
      refine xs_cv (i := 114) (j := 40) (ar := [xI (x6), xI (x4), xI (x5), xI (x3)]) (rest := []) (r2 := xr_40) (by decide +kernel) (by decide +kernel) (by decide +kernel) xr_40_e rfl (by decide) (by decide) e114 ?_
      refine xc_v (k40 (d := d + 6)  hx3 hx5 hx4 hx6 e113) rfl ?_
      refine xe_iincr (i := 2) (n := 1) (by decide +kernel) (by decide) rfl (xk_k (show ¬ (0 : Nat) = 2 by decide) (Or.inl (show ¬ (0 + 1 : Nat) = 2 by decide)) (xk_d rfl (xk_k (show ¬ (3 : Nat) = 2 by decide) (Or.inl (show ¬ (3 + 1 : Nat) = 2 by decide)) (xk_k (show ¬ (4 : Nat) = 2 by decide) (Or.inl (show ¬ (4 + 1 : Nat) = 2 by decide)) (xk_k (show ¬ (5 : Nat) = 2 by decide) (Or.inl (show ¬ (5 + 1 : Nat) = 2 by decide)) (xk_k (show ¬ (6 : Nat) = 2 by decide) (Or.inl (show ¬ (6 + 1 : Nat) = 2 by decide)) xk_n)))))) rfl ?_
      refine xe_goto (off := -159) (nx := 8) (by decide +kernel) (by decide) ?_
      refine xW_lv rfl (l := [(0, xR_ (x0)), (2, xI (xwr ((x2) + (1))))]) (xsb_of ⟨rfl, rfl, trivial⟩ (show [2, 0, 3, 4, 5, 6].Nodup by decide)) ?_
      exact hr8 (xin_wr _) h
def f32_110b  (r8 : Nat → Int → xj_M → Option ((Nat ⊕ Unit) × xj_M)) (r110 : Nat → Int → Int → Int → Int → Int → xj_M → Option ((Nat ⊕ Unit) × xj_M)) (f : Nat) (x0 : Nat) (x2 : Int) (x3 : Int) (x4 : Int) (x5 : Int) (x6 : Int) (M : xj_M) : Option ((Nat ⊕ Unit) × xj_M) := ((xq_gr 4 19 (x0) M).bind fun v117 => ((xq_is 4 (x0) M).bind fun _ => ((f51 f (x0) M).bind fun R121 => xth R121 (fun v122 => ((xq_sl (v117) (xwr ((xwr ((4) * (x2))) + (x6))) (v122) R121.2).bind fun M125 => (if (4) ≤ (xwr ((x6) + (1))) then f32_141  r8 f (x0) (x2) (x3) (x4) (x5) (xwr ((x6) + (1))) M125 else ((xq_is 4 (x0) M125).bind fun _ => ((f39  f (x0) M125).bind fun R130 => (if ¬ (R130.1) = 0 then r110 (x0) (x2) (x3) (x4) (x5) (xwr ((x6) + (1))) R130.2 else f32_141  r8 f (x0) (x2) (x3) (x4) (x5) (xwr ((x6) + (1))) R130.2)))))))))
theorem k32_110b {d f : Nat}  {r8 : Nat → Int → xj_M → Option ((Nat ⊕ Unit) × xj_M)} {r110 : Nat → Int → Int → Int → Int → Int → xj_M → Option ((Nat ⊕ Unit) × xj_M)}  (hr8 : ∀ {x0 : Nat} {x2 : Int} {M : xj_M} {R : (Nat ⊕ Unit) × xj_M}, xin x2 → r8 x0 x2 M = some R → xW (d + 7) (none, d + 7, none) xr_32 (8, [(0, xR_ x0), (2, xI x2)], [], M) (xQtv R)) (hr110 : ∀ {x0 : Nat} {x2 : Int} {x3 : Int} {x4 : Int} {x5 : Int} {x6 : Int} {M : xj_M} {R : (Nat ⊕ Unit) × xj_M}, xin x2 → xin x3 → xin x4 → xin x5 → xin x6 → r110 x0 x2 x3 x4 x5 x6 M = some R → xW (d + 7) (none, d + 7, none) xr_32 (110, [(0, xR_ x0), (2, xI x2), (3, xI x3), (4, xI x4), (5, xI x5), (6, xI x6)], [], M) (xQtv R)) {x0 : Nat} {x2 : Int} {x3 : Int} {x4 : Int} {x5 : Int} {x6 : Int} {M : xj_M} {R : (Nat ⊕ Unit) × xj_M} (hx2 : xin x2) (hx3 : xin x3) (hx4 : xin x4) (hx5 : xin x5) (hx6 : xin x6) (h : f32_110b  r8 r110 f x0 x2 x3 x4 x5 x6 M = some R) : xW (d + 7) (none, d + 7, none) xr_32 (110, [(0, xR_ x0), (2, xI x2), (3, xI x3), (4, xI x4), (5, xI x5), (6, xI x6)], [], M) (xQtv R) := by
  unfold f32_110b at h
  refine xe_alr (ins := .aload_n 0) (len := 1) (i := 0) (by decide +kernel) rfl rfl rfl rfl rfl ?_
  obtain ⟨v117, e118, h⟩ := xbnd h
  refine xs_gr (i := 40) (c := 4) (k := 19) (by decide +kernel) (by decide) (by decide +kernel) e118 rfl ?_
  refine xe_iconst (n := 4) (by decide +kernel) rfl ?_
  refine xe_ldn (ins := .iload_n 2) (len := 1) (by decide +kernel) rfl rfl rfl rfl ?_
  refine xe_imul (by decide +kernel) rfl ?_
  refine xe_ldn (ins := .iload 6) (len := 2) (by decide +kernel) rfl rfl rfl rfl ?_
  refine xe_iadd (by decide +kernel) rfl ?_
  refine xe_alr (ins := .aload_n 0) (len := 1) (i := 0) (by decide +kernel) rfl rfl rfl rfl rfl ?_
  obtain ⟨_, e120, h⟩ := xbnd h
  obtain ⟨R121, e119, h⟩ := xbnd h
  refine xs2_cv (kd := 0) (jj := 51) (by decide) (i := 107) (j := 51) (ar := []) (rest := [xI (xwr ((xwr ((4) * (x2))) + (x6))), xR_ (v117)]) (r2 := xr_51) (by decide +kernel) (by decide +kernel) (by decide +kernel) xr_51_e rfl (by decide) (by simp only [List.map_cons, List.map_nil, List.sum_cons, List.sum_nil, xR_cat, xI_cat, xZ_cat]; decide) e120 ?_
  refine xct_l (k51 (d := d + 0)  e119) rfl (fun e1 g123 => ?_) (fun v122 g123 hi124 => ?_)
  · rw [xth_l g123] at h; cases h; exact xK_thr rfl ⟨rfl, rfl⟩
  · rw [xth_r g123] at h
    obtain ⟨M125, e126, h⟩ := xbnd h
    refine xs_last (by decide +kernel) (xin_wr _) e126 rfl ?_
    refine xe_iincr (i := 6) (n := 1) (by decide +kernel) (by decide) rfl (xk_k (show ¬ (0 : Nat) = 6 by decide) (Or.inl (show ¬ (0 + 1 : Nat) = 6 by decide)) (xk_k (show ¬ (2 : Nat) = 6 by decide) (Or.inl (show ¬ (2 + 1 : Nat) = 6 by decide)) (xk_k (show ¬ (3 : Nat) = 6 by decide) (Or.inl (show ¬ (3 + 1 : Nat) = 6 by decide)) (xk_k (show ¬ (4 : Nat) = 6 by decide) (Or.inl (show ¬ (4 + 1 : Nat) = 6 by decide)) (xk_k (show ¬ (5 : Nat) = 6 by decide) (Or.inr (xI_cat _)) (xk_d rfl xk_n)))))) rfl ?_
    refine xe_ldn (ins := .iload 6) (len := 2) (by decide +kernel) rfl rfl rfl rfl ?_
    refine xe_iconst (n := 4) (by decide +kernel) rfl ?_
    refine xe_icmpge (off := 10) (t := 141) (by decide +kernel) (by decide) rfl (xin_wr _) (show xin (4) by decide) (fun c127 => ?_) (fun c127 => ?_)
    · rw [if_pos c127] at h
      refine xW_lv rfl (l := [(0, xR_ (x0)), (2, xI (x2)), (3, xI (x3)), (4, xI (x4)), (5, xI (x5)), (6, xI (xwr ((x6) + (1))))]) (xsb_of ⟨rfl, rfl, rfl, rfl, rfl, rfl, trivial⟩ (show [6, 0, 2, 3, 4, 5].Nodup by decide)) ?_
      exact k32_141  hr8 hx2 hx3 hx4 hx5 (xin_wr _) h
    · rw [if_neg c127] at h
      refine xe_alr (ins := .aload_n 0) (len := 1) (i := 0) (by decide +kernel) rfl rfl rfl rfl rfl ?_
      obtain ⟨_, e129, h⟩ := xbnd h
      obtain ⟨R130, e128, h⟩ := xbnd h
      refine xs_cv (i := 110) (j := 39) (ar := []) (rest := []) (r2 := xr_39) (by decide +kernel) (by decide +kernel) (by decide +kernel) xr_39_e rfl (by decide) (by decide) e129 ?_
      refine xc_i (k39 (d := d + 5)   e128) rfl (fun hi131 => ?_)
      refine xe_ifne (off := -28) (t := 110) (by decide +kernel) (by decide) rfl hi131 (fun c132 => ?_) (fun c132 => ?_)
      · rw [if_pos c132] at h
        refine xW_lv rfl (l := [(0, xR_ (x0)), (2, xI (x2)), (3, xI (x3)), (4, xI (x4)), (5, xI (x5)), (6, xI (xwr ((x6) + (1))))]) (xsb_of ⟨rfl, rfl, rfl, rfl, rfl, rfl, trivial⟩ (show [6, 0, 2, 3, 4, 5].Nodup by decide)) ?_
        exact hr110 hx2 hx3 hx4 hx5 (xin_wr _) h
      · rw [if_neg c132] at h
        refine xW_lv rfl (l := [(0, xR_ (x0)), (2, xI (x2)), (3, xI (x3)), (4, xI (x4)), (5, xI (x5)), (6, xI (xwr ((x6) + (1))))]) (xsb_of ⟨rfl, rfl, rfl, rfl, rfl, rfl, trivial⟩ (show [6, 0, 2, 3, 4, 5].Nodup by decide)) ?_
        exact k32_141  hr8 hx2 hx3 hx4 hx5 (xin_wr _) h
def f32_110  (r8 : Nat → Int → xj_M → Option ((Nat ⊕ Unit) × xj_M)) (f : Nat) : Nat → Nat → Int → Int → Int → Int → Int → xj_M → Option ((Nat ⊕ Unit) × xj_M)
  | 0, _, _, _, _, _, _, _ => none
  | n + 1, x0, x2, x3, x4, x5, x6, M => f32_110b  r8 (f32_110  r8 f n) f x0 x2 x3 x4 x5 x6 M
theorem k32_110 {d f : Nat}  {r8 : Nat → Int → xj_M → Option ((Nat ⊕ Unit) × xj_M)}  (hr8 : ∀ {x0 : Nat} {x2 : Int} {M : xj_M} {R : (Nat ⊕ Unit) × xj_M}, xin x2 → r8 x0 x2 M = some R → xW (d + 7) (none, d + 7, none) xr_32 (8, [(0, xR_ x0), (2, xI x2)], [], M) (xQtv R)) : ∀ {n : Nat} {x0 : Nat} {x2 : Int} {x3 : Int} {x4 : Int} {x5 : Int} {x6 : Int} {M : xj_M} {R : (Nat ⊕ Unit) × xj_M}, xin x2 → xin x3 → xin x4 → xin x5 → xin x6 → f32_110  r8 f n x0 x2 x3 x4 x5 x6 M = some R → xW (d + 7) (none, d + 7, none) xr_32 (110, [(0, xR_ x0), (2, xI x2), (3, xI x3), (4, xI x4), (5, xI x5), (6, xI x6)], [], M) (xQtv R) := by
  intro n
  induction n with
  | zero => intros; rename_i h; cases h
  | succ n ih => intros; rename_i h; exact k32_110b  hr8 ih (by assumption) (by assumption) (by assumption) (by assumption) (by assumption) h
def f32_71  (r8 : Nat → Int → xj_M → Option ((Nat ⊕ Unit) × xj_M)) (f : Nat) (x0 : Nat) (x2 : Int) (x3 : Int) (M : xj_M) : Option ((Nat ⊕ Unit) × xj_M) := ((xq_is 4 (x0) M).bind fun _ => ((f37  f (x0) M).bind fun M135 => ((xq_gr 4 0 (x0) M135).bind fun v137 => ((xq_gr 8 4 (v137) M135).bind fun v139 => ((xq_gi 4 1 (x0) M135).bind fun v141 => ((xq_ai 3 (v139) (v141) M135).bind fun v143 => ((xq_is 4 (x0) M135).bind fun _ => ((f47 f (x0) M135).bind fun R147 => xth R147 (fun v148 => ((xq_is 4 (x0) R147.2).bind fun _ => ((f48 f (x0) (v148) (v143) R147.2).bind fun R153 => xth R153 (fun v154 => ((xq_is 4 (x0) R153.2).bind fun _ => ((f38 f (x0) (40) R153.2).bind fun R159 => xth R159 (fun _ => f32_110  r8 f f (x0) (x2) (x3) (v143) (v154) (0) R159.2)))))))))))))))
theorem k32_71 {d f : Nat}  {r8 : Nat → Int → xj_M → Option ((Nat ⊕ Unit) × xj_M)}  (hr8 : ∀ {x0 : Nat} {x2 : Int} {M : xj_M} {R : (Nat ⊕ Unit) × xj_M}, xin x2 → r8 x0 x2 M = some R → xW (d + 7) (none, d + 7, none) xr_32 (8, [(0, xR_ x0), (2, xI x2)], [], M) (xQtv R)) {x0 : Nat} {x2 : Int} {x3 : Int} {M : xj_M} {R : (Nat ⊕ Unit) × xj_M} (hx2 : xin x2) (hx3 : xin x3) (h : f32_71  r8 f x0 x2 x3 M = some R) : xW (d + 7) (none, d + 7, none) xr_32 (71, [(0, xR_ x0), (2, xI x2), (3, xI x3)], [], M) (xQtv R) := by
  unfold f32_71 at h
  refine xe_alr (ins := .aload_n 0) (len := 1) (i := 0) (by decide +kernel) rfl rfl rfl rfl rfl ?_
  obtain ⟨_, e134, h⟩ := xbnd h
  obtain ⟨M135, e133, h⟩ := xbnd h
  refine xs_cv (i := 73) (j := 37) (ar := []) (rest := []) (r2 := xr_37) (by decide +kernel) (by decide +kernel) (by decide +kernel) xr_37_e rfl (by decide) (by decide) e134 ?_
  refine xc_v (k37 (d := d + 6)   e133) rfl ?_
  refine xe_alr (ins := .aload_n 0) (len := 1) (i := 0) (by decide +kernel) rfl rfl rfl rfl rfl ?_
  obtain ⟨v137, e138, h⟩ := xbnd h
  refine xs_gr (i := 43) (c := 4) (k := 0) (by decide +kernel) (by decide) (by decide +kernel) e138 rfl ?_
  obtain ⟨v139, e140, h⟩ := xbnd h
  refine xs_gr (i := 80) (c := 8) (k := 4) (by decide +kernel) (by decide) (by decide +kernel) e140 rfl ?_
  refine xe_alr (ins := .aload_n 0) (len := 1) (i := 0) (by decide +kernel) rfl rfl rfl rfl rfl ?_
  obtain ⟨v141, e142, h⟩ := xbnd h
  refine xs_gi (i := 54) (c := 4) (k := 1) (by decide +kernel) (by decide) (by decide +kernel) e142 rfl ?_
  obtain ⟨v143, e144, h⟩ := xbnd h
  refine xs_iald rfl (by decide +kernel) (xq_gi_in e142) e144 rfl ?_
  refine xe_isr (ins := .istore 4) (len := 2) (i := 4) (by decide +kernel) rfl rfl rfl (by decide) (xk_k (show ¬ (0 : Nat) = 4 by decide) (Or.inl (show ¬ (0 + 1 : Nat) = 4 by decide)) (xk_k (show ¬ (2 : Nat) = 4 by decide) (Or.inl (show ¬ (2 + 1 : Nat) = 4 by decide)) (xk_k (show ¬ (3 : Nat) = 4 by decide) (Or.inr (xI_cat _)) xk_n))) rfl ?_
  refine xe_alr (ins := .aload_n 0) (len := 1) (i := 0) (by decide +kernel) rfl rfl rfl rfl rfl ?_
  refine xe_alr (ins := .aload_n 0) (len := 1) (i := 0) (by decide +kernel) rfl rfl rfl rfl rfl ?_
  obtain ⟨_, e146, h⟩ := xbnd h
  obtain ⟨R147, e145, h⟩ := xbnd h
  refine xs2_cv (kd := 0) (jj := 47) (by decide) (i := 99) (j := 47) (ar := []) (rest := [xR_ (x0)]) (r2 := xr_47) (by decide +kernel) (by decide +kernel) (by decide +kernel) xr_47_e rfl (by decide) (by simp only [List.map_cons, List.map_nil, List.sum_cons, List.sum_nil, xR_cat, xI_cat, xZ_cat]; decide) e146 ?_
  refine xct_l (k47 (d := d + 0)  e145) rfl (fun e1 g149 => ?_) (fun v148 g149 hi150 => ?_)
  · rw [xth_l g149] at h; cases h; exact xK_thr rfl ⟨rfl, rfl⟩
  · rw [xth_r g149] at h
    refine xe_ldn (ins := .iload 4) (len := 2) (by decide +kernel) rfl rfl rfl rfl ?_
    obtain ⟨_, e152, h⟩ := xbnd h
    obtain ⟨R153, e151, h⟩ := xbnd h
    refine xs2_cv (kd := 0) (jj := 48) (by decide) (i := 103) (j := 48) (ar := [xI (v143), xZ (v148)]) (rest := []) (r2 := xr_48) (by decide +kernel) (by decide +kernel) (by decide +kernel) xr_48_e rfl (by decide) (by decide) e152 ?_
    refine xct_i (k48 (d := d + 0) hi150 (xq_ai_in e144) e151) rfl (fun e1 g155 => ?_) (fun v154 g155 hi156 => ?_)
    · rw [xth_l g155] at h; cases h; exact xK_thr rfl ⟨rfl, rfl⟩
    · rw [xth_r g155] at h
      refine xe_isr (ins := .istore 5) (len := 2) (i := 5) (by decide +kernel) rfl rfl rfl (by decide) (xk_k (show ¬ (4 : Nat) = 5 by decide) (Or.inr (xI_cat _)) (xk_k (show ¬ (0 : Nat) = 5 by decide) (Or.inl (show ¬ (0 + 1 : Nat) = 5 by decide)) (xk_k (show ¬ (2 : Nat) = 5 by decide) (Or.inl (show ¬ (2 + 1 : Nat) = 5 by decide)) (xk_k (show ¬ (3 : Nat) = 5 by decide) (Or.inl (show ¬ (3 + 1 : Nat) = 5 by decide)) xk_n)))) rfl ?_
      refine xe_alr (ins := .aload_n 0) (len := 1) (i := 0) (by decide +kernel) rfl rfl rfl rfl rfl ?_
      refine xe_bipush (n := 40) (by decide +kernel) (by decide) rfl ?_
      obtain ⟨_, e158, h⟩ := xbnd h
      obtain ⟨R159, e157, h⟩ := xbnd h
      refine xs2_cv (kd := 0) (jj := 38) (by decide) (i := 76) (j := 38) (ar := [xI (40)]) (rest := []) (r2 := xr_38) (by decide +kernel) (by decide +kernel) (by decide +kernel) xr_38_e rfl (by decide) (by decide) e158 ?_
      refine xct_v (k38 (d := d + 0) (show xin (40) by decide) e157) rfl (fun e1 g161 => ?_) (fun g161 => ?_)
      · rw [xth_l g161] at h; cases h; exact xK_thr rfl ⟨rfl, rfl⟩
      · rw [xth_r g161] at h
        refine xe_iconst (n := 0) (by decide +kernel) rfl ?_
        refine xe_isr (ins := .istore 6) (len := 2) (i := 6) (by decide +kernel) rfl rfl rfl (by decide) (xk_k (show ¬ (5 : Nat) = 6 by decide) (Or.inr (xI_cat _)) (xk_k (show ¬ (4 : Nat) = 6 by decide) (Or.inl (show ¬ (4 + 1 : Nat) = 6 by decide)) (xk_k (show ¬ (0 : Nat) = 6 by decide) (Or.inl (show ¬ (0 + 1 : Nat) = 6 by decide)) (xk_k (show ¬ (2 : Nat) = 6 by decide) (Or.inl (show ¬ (2 + 1 : Nat) = 6 by decide)) (xk_k (show ¬ (3 : Nat) = 6 by decide) (Or.inl (show ¬ (3 + 1 : Nat) = 6 by decide)) xk_n))))) rfl ?_
        refine xW_lv rfl (l := [(0, xR_ (x0)), (2, xI (x2)), (3, xI (x3)), (4, xI (v143)), (5, xI (v154)), (6, xI (0))]) (xsb_of ⟨rfl, rfl, rfl, rfl, rfl, rfl, trivial⟩ (show [6, 5, 4, 0, 2, 3].Nodup by decide)) ?_
        exact k32_110  hr8 hx2 hx3 (xq_ai_in e144) hi156 (show xin (0) by decide) h
def f32_170   (f : Nat)  (M : xj_M) : Option ((Nat ⊕ Unit) × xj_M) := (some (.inr (), M))
theorem k32_170 {d f : Nat}      {M : xj_M} {R : (Nat ⊕ Unit) × xj_M}  (h : f32_170   f  M = some R) : xW (d + 7) (none, d + 7, none) xr_32 (170, [], [], M) (xQtv R) := by
  unfold f32_170 at h
  cases h
  exact xe_ret_v (by decide +kernel) rfl ⟨rfl, rfl⟩
def f32_8b  (r8 : Nat → Int → xj_M → Option ((Nat ⊕ Unit) × xj_M)) (f : Nat) (x0 : Nat) (x2 : Int) (M : xj_M) : Option ((Nat ⊕ Unit) × xj_M) := (if (1024) ≤ (x2) then f32_170   f  M else ((xq_gr 4 0 (x0) M).bind fun v164 => ((xq_gr 8 3 (v164) M).bind fun v166 => ((xq_gi 4 1 (x0) M).bind fun v168 => ((xq_ai 3 (v166) (v168) M).bind fun v170 => (if (v170) = 0 then f32_170   f  M else ((xq_gr 4 0 (x0) M).bind fun v173 => ((xq_gr 8 3 (v173) M).bind fun v175 => ((xq_gi 4 1 (x0) M).bind fun v177 => ((xq_ai 3 (v175) (v177) M).bind fun v179 => (if (v179) = (43) then f32_71  r8 f (x0) (x2) (v179) M else (if (v179) = (45) then f32_71  r8 f (x0) (x2) (v179) M else ((xq_gr 4 0 (x0) M).bind fun v183 => ((xq_gr 8 4 (v183) M).bind fun v185 => ((xq_gi 4 1 (x0) M).bind fun v187 => ((xq_ai 3 (v185) (v187) M).bind fun v189 => ((xq_is 4 (x0) M).bind fun _ => ((f36 f (x0) (v189) M).bind fun R193 => xth R193 (fun _ => f32_71  r8 f (x0) (x2) (v179) R193.2)))))))))))))))))))
theorem k32_8b {d f : Nat}  {r8 : Nat → Int → xj_M → Option ((Nat ⊕ Unit) × xj_M)}  (hr8 : ∀ {x0 : Nat} {x2 : Int} {M : xj_M} {R : (Nat ⊕ Unit) × xj_M}, xin x2 → r8 x0 x2 M = some R → xW (d + 7) (none, d + 7, none) xr_32 (8, [(0, xR_ x0), (2, xI x2)], [], M) (xQtv R)) {x0 : Nat} {x2 : Int} {M : xj_M} {R : (Nat ⊕ Unit) × xj_M} (hx2 : xin x2) (h : f32_8b  r8 f x0 x2 M = some R) : xW (d + 7) (none, d + 7, none) xr_32 (8, [(0, xR_ x0), (2, xI x2)], [], M) (xQtv R) := by
  unfold f32_8b at h
  refine xe_ldn (ins := .iload_n 2) (len := 1) (by decide +kernel) rfl rfl rfl rfl ?_
  refine xe_sipush (n := 1024) (by decide +kernel) (by decide) rfl ?_
  refine xe_icmpge (off := 158) (t := 170) (by decide +kernel) (by decide) rfl hx2 (show xin (1024) by decide) (fun c163 => ?_) (fun c163 => ?_)
  · rw [if_pos c163] at h
    refine xW_lv rfl (l := []) (xsb_of trivial (show [0, 2].Nodup by decide)) ?_
    exact k32_170    h
  · rw [if_neg c163] at h
    refine xe_alr (ins := .aload_n 0) (len := 1) (i := 0) (by decide +kernel) rfl rfl rfl rfl rfl ?_
    obtain ⟨v164, e165, h⟩ := xbnd h
    refine xs_gr (i := 43) (c := 4) (k := 0) (by decide +kernel) (by decide) (by decide +kernel) e165 rfl ?_
    obtain ⟨v166, e167, h⟩ := xbnd h
    refine xs_gr (i := 51) (c := 8) (k := 3) (by decide +kernel) (by decide) (by decide +kernel) e167 rfl ?_
    refine xe_alr (ins := .aload_n 0) (len := 1) (i := 0) (by decide +kernel) rfl rfl rfl rfl rfl ?_
    obtain ⟨v168, e169, h⟩ := xbnd h
    refine xs_gi (i := 54) (c := 4) (k := 1) (by decide +kernel) (by decide) (by decide +kernel) e169 rfl ?_
    obtain ⟨v170, e171, h⟩ := xbnd h
    refine xs_iald rfl (by decide +kernel) (xq_gi_in e169) e171 rfl ?_
    refine xe_ifeq (off := 143) (t := 170) (by decide +kernel) (by decide) rfl (xq_ai_in e171) (fun c172 => ?_) (fun c172 => ?_)
    · rw [if_pos c172] at h
      refine xW_lv rfl (l := []) (xsb_of trivial (show [0, 2].Nodup by decide)) ?_
      exact k32_170    h
    · rw [if_neg c172] at h
      refine xe_alr (ins := .aload_n 0) (len := 1) (i := 0) (by decide +kernel) rfl rfl rfl rfl rfl ?_
      obtain ⟨v173, e174, h⟩ := xbnd h
      refine xs_gr (i := 43) (c := 4) (k := 0) (by decide +kernel) (by decide) (by decide +kernel) e174 rfl ?_
      obtain ⟨v175, e176, h⟩ := xbnd h
      refine xs_gr (i := 51) (c := 8) (k := 3) (by decide +kernel) (by decide) (by decide +kernel) e176 rfl ?_
      refine xe_alr (ins := .aload_n 0) (len := 1) (i := 0) (by decide +kernel) rfl rfl rfl rfl rfl ?_
      obtain ⟨v177, e178, h⟩ := xbnd h
      refine xs_gi (i := 54) (c := 4) (k := 1) (by decide +kernel) (by decide) (by decide +kernel) e178 rfl ?_
      obtain ⟨v179, e180, h⟩ := xbnd h
      refine xs_iald rfl (by decide +kernel) (xq_gi_in e178) e180 rfl ?_
      refine xe_isr (ins := .istore_n 3) (len := 1) (i := 3) (by decide +kernel) rfl rfl rfl (by decide) (xk_k (show ¬ (0 : Nat) = 3 by decide) (Or.inl (show ¬ (0 + 1 : Nat) = 3 by decide)) (xk_k (show ¬ (2 : Nat) = 3 by decide) (Or.inr (xI_cat _)) xk_n)) rfl ?_
      refine xe_ldn (ins := .iload_n 3) (len := 1) (by decide +kernel) rfl rfl rfl rfl ?_
      refine xe_bipush (n := 43) (by decide +kernel) (by decide) rfl ?_
      refine xe_icmpeq (off := 25) (t := 71) (by decide +kernel) (by decide) rfl (xq_ai_in e180) (show xin (43) by decide) (fun c181 => ?_) (fun c181 => ?_)
      · rw [if_pos c181] at h
        refine xW_lv rfl (l := [(0, xR_ (x0)), (2, xI (x2)), (3, xI (v179))]) (xsb_of ⟨rfl, rfl, rfl, trivial⟩ (show [3, 0, 2].Nodup by decide)) ?_
        exact k32_71  hr8 hx2 (xq_ai_in e180) h
      · rw [if_neg c181] at h
        refine xe_ldn (ins := .iload_n 3) (len := 1) (by decide +kernel) rfl rfl rfl rfl ?_
        refine xe_bipush (n := 45) (by decide +kernel) (by decide) rfl ?_
        refine xe_icmpeq (off := 19) (t := 71) (by decide +kernel) (by decide) rfl (xq_ai_in e180) (show xin (45) by decide) (fun c182 => ?_) (fun c182 => ?_)
        · rw [if_pos c182] at h
          refine xW_lv rfl (l := [(0, xR_ (x0)), (2, xI (x2)), (3, xI (v179))]) (xsb_of ⟨rfl, rfl, rfl, trivial⟩ (show [3, 0, 2].Nodup by decide)) ?_
          exact k32_71  hr8 hx2 (xq_ai_in e180) h
        · rw [if_neg c182] at h
          refine xe_alr (ins := .aload_n 0) (len := 1) (i := 0) (by decide +kernel) rfl rfl rfl rfl rfl ?_
          refine xe_alr (ins := .aload_n 0) (len := 1) (i := 0) (by decide +kernel) rfl rfl rfl rfl rfl ?_
          obtain ⟨v183, e184, h⟩ := xbnd h
          refine xs_gr (i := 43) (c := 4) (k := 0) (by decide +kernel) (by decide) (by decide +kernel) e184 rfl ?_
          obtain ⟨v185, e186, h⟩ := xbnd h
          refine xs_gr (i := 80) (c := 8) (k := 4) (by decide +kernel) (by decide) (by decide +kernel) e186 rfl ?_
          refine xe_alr (ins := .aload_n 0) (len := 1) (i := 0) (by decide +kernel) rfl rfl rfl rfl rfl ?_
          obtain ⟨v187, e188, h⟩ := xbnd h
          refine xs_gi (i := 54) (c := 4) (k := 1) (by decide +kernel) (by decide) (by decide +kernel) e188 rfl ?_
          obtain ⟨v189, e190, h⟩ := xbnd h
          refine xs_iald rfl (by decide +kernel) (xq_gi_in e188) e190 rfl ?_
          obtain ⟨_, e192, h⟩ := xbnd h
          obtain ⟨R193, e191, h⟩ := xbnd h
          refine xs2_cv (kd := 0) (jj := 36) (by decide) (i := 83) (j := 36) (ar := [xI (v189)]) (rest := []) (r2 := xr_36) (by decide +kernel) (by decide +kernel) (by decide +kernel) xr_36_e rfl (by decide) (by decide) e192 ?_
          refine xct_v (k36 (d := d + 1) (xq_ai_in e190) e191) rfl (fun e1 g195 => ?_) (fun g195 => ?_)
          · rw [xth_l g195] at h; cases h; exact xK_thr rfl ⟨rfl, rfl⟩
          · rw [xth_r g195] at h
            refine xW_lv rfl (l := [(0, xR_ (x0)), (2, xI (x2)), (3, xI (v179))]) (xsb_of ⟨rfl, rfl, rfl, trivial⟩ (show [3, 0, 2].Nodup by decide)) ?_
            exact k32_71  hr8 hx2 (xq_ai_in e180) h
def f32_8   (f : Nat) : Nat → Nat → Int → xj_M → Option ((Nat ⊕ Unit) × xj_M)
  | 0, _, _, _ => none
  | n + 1, x0, x2, M => f32_8b   (f32_8   f n) f x0 x2 M
theorem k32_8 {d f : Nat}     : ∀ {n : Nat} {x0 : Nat} {x2 : Int} {M : xj_M} {R : (Nat ⊕ Unit) × xj_M}, xin x2 → f32_8   f n x0 x2 M = some R → xW (d + 7) (none, d + 7, none) xr_32 (8, [(0, xR_ x0), (2, xI x2)], [], M) (xQtv R) := by
  intro n
  induction n with
  | zero => intros; rename_i h; cases h
  | succ n ih => intros; rename_i h; exact k32_8b   ih (by assumption) h
def f32  (f : Nat) (a0 : Nat) (a1 : Nat) (M : xj_M) : Option ((Nat ⊕ Unit) × xj_M) := ((xq_is 4 (a0) M).bind fun _ => ((f34  f (a0) (a1) (0) M).bind fun M199 => f32_8   f f (a0) (0) M199))
theorem k32 {d f : Nat}   {a0 : Nat} {a1 : Nat} {M : xj_M} {R : (Nat ⊕ Unit) × xj_M}  (h : f32  f a0 a1 M = some R) : xT (d + 8) 32 [xR_ a0, xR_ a1] M (xQtv R) := by
  refine xT_m xr_32_e (X := (none, d + 7, none)) rfl (xa_1 (xR_cat _) (xa_1 (xR_cat _) xa_n)) (by decide) ?_
  unfold f32 at h
  refine xe_alr (ins := .aload_n 0) (len := 1) (i := 0) (by decide +kernel) rfl rfl rfl rfl rfl ?_
  refine xe_alr (ins := .aload_n 1) (len := 1) (i := 1) (by decide +kernel) rfl rfl rfl rfl rfl ?_
  refine xe_iconst (n := 0) (by decide +kernel) rfl ?_
  obtain ⟨_, e198, h⟩ := xbnd h
  obtain ⟨M199, e197, h⟩ := xbnd h
  refine xs_cv (i := 47) (j := 34) (ar := [xI (0), xR_ (a1)]) (rest := []) (r2 := xr_34) (by decide +kernel) (by decide +kernel) (by decide +kernel) xr_34_e rfl (by decide) (by decide) e198 ?_
  refine xc_v (k34 (d := d + 6)  (show xin (0) by decide) e197) rfl ?_
  refine xe_iconst (n := 0) (by decide +kernel) rfl ?_
  refine xe_isr (ins := .istore_n 2) (len := 1) (i := 2) (by decide +kernel) rfl rfl rfl (by decide) (xk_k (show ¬ (0 : Nat) = 2 by decide) (Or.inl (show ¬ (0 + 1 : Nat) = 2 by decide)) (xk_k (show ¬ (1 : Nat) = 2 by decide) (Or.inr (xR_cat _)) xk_n)) rfl ?_
  refine xW_lv rfl (l := [(0, xR_ (a0)), (2, xI (0))]) (xsb_of ⟨rfl, rfl, trivial⟩ (show [2, 0, 1].Nodup by decide)) ?_
  exact k32_8   (show xin (0) by decide) h
-- ChangeHouse$Reader.readInput
def xr_41 : xj_mR := (4, yX4_readInput, cX4_readInput, 5, (Option.none : Option Jvm.ClassFile.FieldType), 0, false, (4, 71), (1, 3))
set_option maxRecDepth 20000 in
theorem xr_41_e : xj_row 41 = some xr_41 := rfl
def f41_72   (f : Nat) (x0 : Nat) (x1 : Int) (x2 : Int) (x3 : Int) (x4 : Int) (M : xj_M) : Option ((Nat ⊕ Unit) × xj_M) := ((xq_is 4 (x0) M).bind fun _ => ((f38 f (x0) (46) M).bind fun R103 => xth R103 (fun _ => ((xq_is 4 (x0) R103.2).bind fun _ => ((f40  f (x0) (6) (x2) (x1) (x3) R103.2).bind fun M109 => ((xq_gr 4 3 (x0) M109).bind fun v111 => ((xq_gr 3 5 (v111) M109).bind fun v113 => ((xq_sb (v113) (x2) (1) M109).bind fun M115 => ((xq_gr 4 3 (x0) M115).bind fun v117 => ((xq_gr 3 4 (v117) M115).bind fun v119 => ((xq_si (v119) (x2) (x4) M115).bind fun M121 => ((xq_gr 4 3 (x0) M121).bind fun v123 => ((xq_is 3 (v123) M121).bind fun _ => ((f23  f (v123) (x2) (x3) M121).bind fun M127 => (some (.inr (), M127))))))))))))))))
theorem k41_72 {d f : Nat}     {x0 : Nat} {x1 : Int} {x2 : Int} {x3 : Int} {x4 : Int} {M : xj_M} {R : (Nat ⊕ Unit) × xj_M} (hx1 : xin x1) (hx2 : xin x2) (hx3 : xin x3) (hx4 : xin x4) (h : f41_72   f x0 x1 x2 x3 x4 M = some R) : xW (d + 7) (none, d + 7, none) xr_41 (72, [(0, xR_ x0), (1, xI x1), (2, xI x2), (3, xI x3), (4, xI x4)], [], M) (xQtv R) := by
  unfold f41_72 at h
  refine xe_alr (ins := .aload_n 0) (len := 1) (i := 0) (by decide +kernel) rfl rfl rfl rfl rfl ?_
  refine xe_bipush (n := 46) (by decide +kernel) (by decide) rfl ?_
  obtain ⟨_, e102, h⟩ := xbnd h
  obtain ⟨R103, e101, h⟩ := xbnd h
  refine xs2_cv (kd := 0) (jj := 38) (by decide) (i := 76) (j := 38) (ar := [xI (46)]) (rest := []) (r2 := xr_38) (by decide +kernel) (by decide +kernel) (by decide +kernel) xr_38_e rfl (by decide) (by decide) e102 ?_
  refine xct_v (k38 (d := d + 0) (show xin (46) by decide) e101) rfl (fun e1 g105 => ?_) (fun g105 => ?_)
  · rw [xth_l g105] at h; cases h; exact xK_thr rfl ⟨rfl, rfl⟩
  · rw [xth_r g105] at h
    refine xe_alr (ins := .aload_n 0) (len := 1) (i := 0) (by decide +kernel) rfl rfl rfl rfl rfl ?_
    refine xe_bipush (n := 6) (by decide +kernel) (by decide) rfl ?_
    refine xe_ldn (ins := .iload_n 2) (len := 1) (by decide +kernel) rfl rfl rfl rfl ?_
    refine xe_ldn (ins := .iload_n 1) (len := 1) (by decide +kernel) rfl rfl rfl rfl ?_
    refine xe_ldn (ins := .iload_n 3) (len := 1) (by decide +kernel) rfl rfl rfl rfl ?_
    obtain ⟨_, e108, h⟩ := xbnd h
    obtain ⟨M109, e107, h⟩ := xbnd h
    refine xs_cv (i := 114) (j := 40) (ar := [xI (x3), xI (x1), xI (x2), xI (6)]) (rest := []) (r2 := xr_40) (by decide +kernel) (by decide +kernel) (by decide +kernel) xr_40_e rfl (by decide) (by decide) e108 ?_
    refine xc_v (k40 (d := d + 6)  (show xin (6) by decide) hx2 hx1 hx3 e107) rfl ?_
    refine xe_alr (ins := .aload_n 0) (len := 1) (i := 0) (by decide +kernel) rfl rfl rfl rfl rfl ?_
    obtain ⟨v111, e112, h⟩ := xbnd h
    refine xs_gr (i := 147) (c := 4) (k := 3) (by decide +kernel) (by decide) (by decide +kernel) e112 rfl ?_
    obtain ⟨v113, e114, h⟩ := xbnd h
    refine xs_gr (i := 169) (c := 3) (k := 5) (by decide +kernel) (by decide) (by decide +kernel) e114 rfl ?_
    refine xe_ldn (ins := .iload_n 2) (len := 1) (by decide +kernel) rfl rfl rfl rfl ?_
    refine xe_iconst (n := 1) (by decide +kernel) rfl ?_
    obtain ⟨M115, e116, h⟩ := xbnd h
    refine xs_bast (by decide +kernel) hx2 e116 rfl ?_
    refine xe_alr (ins := .aload_n 0) (len := 1) (i := 0) (by decide +kernel) rfl rfl rfl rfl rfl ?_
    obtain ⟨v117, e118, h⟩ := xbnd h
    refine xs_gr (i := 147) (c := 4) (k := 3) (by decide +kernel) (by decide) (by decide +kernel) e118 rfl ?_
    obtain ⟨v119, e120, h⟩ := xbnd h
    refine xs_gr (i := 175) (c := 3) (k := 4) (by decide +kernel) (by decide) (by decide +kernel) e120 rfl ?_
    refine xe_ldn (ins := .iload_n 2) (len := 1) (by decide +kernel) rfl rfl rfl rfl ?_
    refine xe_ldn (ins := .iload 4) (len := 2) (by decide +kernel) rfl rfl rfl rfl ?_
    obtain ⟨M121, e122, h⟩ := xbnd h
    refine xs_iast (by decide +kernel) hx2 e122 rfl ?_
    refine xe_alr (ins := .aload_n 0) (len := 1) (i := 0) (by decide +kernel) rfl rfl rfl rfl rfl ?_
    obtain ⟨v123, e124, h⟩ := xbnd h
    refine xs_gr (i := 147) (c := 4) (k := 3) (by decide +kernel) (by decide) (by decide +kernel) e124 rfl ?_
    refine xe_ldn (ins := .iload_n 2) (len := 1) (by decide +kernel) rfl rfl rfl rfl ?_
    refine xe_ldn (ins := .iload_n 3) (len := 1) (by decide +kernel) rfl rfl rfl rfl ?_
    obtain ⟨_, e126, h⟩ := xbnd h
    obtain ⟨M127, e125, h⟩ := xbnd h
    refine xs_cv (i := 178) (j := 23) (ar := [xI (x3), xI (x2)]) (rest := []) (r2 := xr_23) (by decide +kernel) (by decide +kernel) (by decide +kernel) xr_23_e rfl (by decide) (by decide) e126 ?_
    refine xc_v (k23 (d := d + 6)  hx2 hx3 e125) rfl ?_
    cases h
    exact xe_ret_v (by decide +kernel) rfl ⟨rfl, rfl⟩
def f41  (f : Nat) (a0 : Nat) (M : xj_M) : Option ((Nat ⊕ Unit) × xj_M) := ((xq_is 4 (a0) M).bind fun _ => ((f37  f (a0) M).bind fun M131 => ((xq_gr 4 0 (a0) M131).bind fun v133 => ((xq_gr 8 4 (v133) M131).bind fun v135 => ((xq_gi 4 1 (a0) M131).bind fun v137 => ((xq_ai 3 (v135) (v137) M131).bind fun v139 => ((xq_is 4 (a0) M131).bind fun _ => ((f47 f (a0) M131).bind fun R143 => xth R143 (fun v144 => ((xq_is 4 (a0) R143.2).bind fun _ => ((f48 f (a0) (v144) (v139) R143.2).bind fun R149 => xth R149 (fun v150 => ((xq_is 4 (a0) R149.2).bind fun _ => ((f38 f (a0) (47) R149.2).bind fun R155 => xth R155 (fun _ => ((xq_is 4 (a0) R155.2).bind fun _ => ((f50 f (a0) (4) R155.2).bind fun R161 => xth R161 (fun v162 => ((xq_gr 4 0 (a0) R161.2).bind fun v165 => ((xq_gr 8 3 (v165) R161.2).bind fun v167 => ((xq_gi 4 1 (a0) R161.2).bind fun v169 => ((xq_ai 3 (v167) (v169) R161.2).bind fun v171 => (if ¬ (v171) = (8) then f41_72   f (a0) (v139) (v150) (v162) (0) R161.2 else ((xq_is 4 (a0) R161.2).bind fun _ => ((f37  f (a0) R161.2).bind fun M176 => ((xq_is 4 (a0) M176).bind fun _ => ((f50 f (a0) (xwr ((v162) - (1))) M176).bind fun R180 => xth R180 (fun v181 => f41_72   f (a0) (v139) (v150) (v162) (v181) R180.2))))))))))))))))))))))))))))
theorem k41 {d f : Nat}   {a0 : Nat} {M : xj_M} {R : (Nat ⊕ Unit) × xj_M}  (h : f41  f a0 M = some R) : xT (d + 8) 41 [xR_ a0] M (xQtv R) := by
  refine xT_m xr_41_e (X := (none, d + 7, none)) rfl (xa_1 (xR_cat _) xa_n) (by decide) ?_
  unfold f41 at h
  refine xe_alr (ins := .aload_n 0) (len := 1) (i := 0) (by decide +kernel) rfl rfl rfl rfl rfl ?_
  obtain ⟨_, e130, h⟩ := xbnd h
  obtain ⟨M131, e129, h⟩ := xbnd h
  refine xs_cv (i := 73) (j := 37) (ar := []) (rest := []) (r2 := xr_37) (by decide +kernel) (by decide +kernel) (by decide +kernel) xr_37_e rfl (by decide) (by decide) e130 ?_
  refine xc_v (k37 (d := d + 6)   e129) rfl ?_
  refine xe_alr (ins := .aload_n 0) (len := 1) (i := 0) (by decide +kernel) rfl rfl rfl rfl rfl ?_
  obtain ⟨v133, e134, h⟩ := xbnd h
  refine xs_gr (i := 43) (c := 4) (k := 0) (by decide +kernel) (by decide) (by decide +kernel) e134 rfl ?_
  obtain ⟨v135, e136, h⟩ := xbnd h
  refine xs_gr (i := 80) (c := 8) (k := 4) (by decide +kernel) (by decide) (by decide +kernel) e136 rfl ?_
  refine xe_alr (ins := .aload_n 0) (len := 1) (i := 0) (by decide +kernel) rfl rfl rfl rfl rfl ?_
  obtain ⟨v137, e138, h⟩ := xbnd h
  refine xs_gi (i := 54) (c := 4) (k := 1) (by decide +kernel) (by decide) (by decide +kernel) e138 rfl ?_
  obtain ⟨v139, e140, h⟩ := xbnd h
  refine xs_iald rfl (by decide +kernel) (xq_gi_in e138) e140 rfl ?_
  refine xe_isr (ins := .istore_n 1) (len := 1) (i := 1) (by decide +kernel) rfl rfl rfl (by decide) (xk_k (show ¬ (0 : Nat) = 1 by decide) (Or.inr (xR_cat _)) xk_n) rfl ?_
  refine xe_alr (ins := .aload_n 0) (len := 1) (i := 0) (by decide +kernel) rfl rfl rfl rfl rfl ?_
  refine xe_alr (ins := .aload_n 0) (len := 1) (i := 0) (by decide +kernel) rfl rfl rfl rfl rfl ?_
  obtain ⟨_, e142, h⟩ := xbnd h
  obtain ⟨R143, e141, h⟩ := xbnd h
  refine xs2_cv (kd := 0) (jj := 47) (by decide) (i := 99) (j := 47) (ar := []) (rest := [xR_ (a0)]) (r2 := xr_47) (by decide +kernel) (by decide +kernel) (by decide +kernel) xr_47_e rfl (by decide) (by simp only [List.map_cons, List.map_nil, List.sum_cons, List.sum_nil, xR_cat, xI_cat, xZ_cat]; decide) e142 ?_
  refine xct_l (k47 (d := d + 0)  e141) rfl (fun e1 g145 => ?_) (fun v144 g145 hi146 => ?_)
  · rw [xth_l g145] at h; cases h; exact xK_thr rfl ⟨rfl, rfl⟩
  · rw [xth_r g145] at h
    refine xe_ldn (ins := .iload_n 1) (len := 1) (by decide +kernel) rfl rfl rfl rfl ?_
    obtain ⟨_, e148, h⟩ := xbnd h
    obtain ⟨R149, e147, h⟩ := xbnd h
    refine xs2_cv (kd := 0) (jj := 48) (by decide) (i := 103) (j := 48) (ar := [xI (v139), xZ (v144)]) (rest := []) (r2 := xr_48) (by decide +kernel) (by decide +kernel) (by decide +kernel) xr_48_e rfl (by decide) (by decide) e148 ?_
    refine xct_i (k48 (d := d + 0) hi146 (xq_ai_in e140) e147) rfl (fun e1 g151 => ?_) (fun v150 g151 hi152 => ?_)
    · rw [xth_l g151] at h; cases h; exact xK_thr rfl ⟨rfl, rfl⟩
    · rw [xth_r g151] at h
      refine xe_isr (ins := .istore_n 2) (len := 1) (i := 2) (by decide +kernel) rfl rfl rfl (by decide) (xk_k (show ¬ (1 : Nat) = 2 by decide) (Or.inr (xI_cat _)) (xk_k (show ¬ (0 : Nat) = 2 by decide) (Or.inl (show ¬ (0 + 1 : Nat) = 2 by decide)) xk_n)) rfl ?_
      refine xe_alr (ins := .aload_n 0) (len := 1) (i := 0) (by decide +kernel) rfl rfl rfl rfl rfl ?_
      refine xe_bipush (n := 47) (by decide +kernel) (by decide) rfl ?_
      obtain ⟨_, e154, h⟩ := xbnd h
      obtain ⟨R155, e153, h⟩ := xbnd h
      refine xs2_cv (kd := 0) (jj := 38) (by decide) (i := 76) (j := 38) (ar := [xI (47)]) (rest := []) (r2 := xr_38) (by decide +kernel) (by decide +kernel) (by decide +kernel) xr_38_e rfl (by decide) (by decide) e154 ?_
      refine xct_v (k38 (d := d + 0) (show xin (47) by decide) e153) rfl (fun e1 g157 => ?_) (fun g157 => ?_)
      · rw [xth_l g157] at h; cases h; exact xK_thr rfl ⟨rfl, rfl⟩
      · rw [xth_r g157] at h
        refine xe_alr (ins := .aload_n 0) (len := 1) (i := 0) (by decide +kernel) rfl rfl rfl rfl rfl ?_
        refine xe_iconst (n := 4) (by decide +kernel) rfl ?_
        obtain ⟨_, e160, h⟩ := xbnd h
        obtain ⟨R161, e159, h⟩ := xbnd h
        refine xs2_cv (kd := 0) (jj := 50) (by decide) (i := 165) (j := 50) (ar := [xI (4)]) (rest := []) (r2 := xr_50) (by decide +kernel) (by decide +kernel) (by decide +kernel) xr_50_e rfl (by decide) (by decide) e160 ?_
        refine xct_i (k50 (d := d + 0) (show xin (4) by decide) e159) rfl (fun e1 g163 => ?_) (fun v162 g163 hi164 => ?_)
        · rw [xth_l g163] at h; cases h; exact xK_thr rfl ⟨rfl, rfl⟩
        · rw [xth_r g163] at h
          refine xe_isr (ins := .istore_n 3) (len := 1) (i := 3) (by decide +kernel) rfl rfl rfl (by decide) (xk_k (show ¬ (2 : Nat) = 3 by decide) (Or.inr (xI_cat _)) (xk_k (show ¬ (1 : Nat) = 3 by decide) (Or.inl (show ¬ (1 + 1 : Nat) = 3 by decide)) (xk_k (show ¬ (0 : Nat) = 3 by decide) (Or.inl (show ¬ (0 + 1 : Nat) = 3 by decide)) xk_n))) rfl ?_
          refine xe_iconst (n := 0) (by decide +kernel) rfl ?_
          refine xe_isr (ins := .istore 4) (len := 2) (i := 4) (by decide +kernel) rfl rfl rfl (by decide) (xk_k (show ¬ (3 : Nat) = 4 by decide) (Or.inr (xI_cat _)) (xk_k (show ¬ (2 : Nat) = 4 by decide) (Or.inl (show ¬ (2 + 1 : Nat) = 4 by decide)) (xk_k (show ¬ (1 : Nat) = 4 by decide) (Or.inl (show ¬ (1 + 1 : Nat) = 4 by decide)) (xk_k (show ¬ (0 : Nat) = 4 by decide) (Or.inl (show ¬ (0 + 1 : Nat) = 4 by decide)) xk_n)))) rfl ?_
          refine xe_alr (ins := .aload_n 0) (len := 1) (i := 0) (by decide +kernel) rfl rfl rfl rfl rfl ?_
          obtain ⟨v165, e166, h⟩ := xbnd h
          refine xs_gr (i := 43) (c := 4) (k := 0) (by decide +kernel) (by decide) (by decide +kernel) e166 rfl ?_
          obtain ⟨v167, e168, h⟩ := xbnd h
          refine xs_gr (i := 51) (c := 8) (k := 3) (by decide +kernel) (by decide) (by decide +kernel) e168 rfl ?_
          refine xe_alr (ins := .aload_n 0) (len := 1) (i := 0) (by decide +kernel) rfl rfl rfl rfl rfl ?_
          obtain ⟨v169, e170, h⟩ := xbnd h
          refine xs_gi (i := 54) (c := 4) (k := 1) (by decide +kernel) (by decide) (by decide +kernel) e170 rfl ?_
          obtain ⟨v171, e172, h⟩ := xbnd h
          refine xs_iald rfl (by decide +kernel) (xq_gi_in e170) e172 rfl ?_
          refine xe_bipush (n := 8) (by decide +kernel) (by decide) rfl ?_
          refine xe_icmpne (off := 16) (t := 72) (by decide +kernel) (by decide) rfl (xq_ai_in e172) (show xin (8) by decide) (fun c173 => ?_) (fun c173 => ?_)
          · rw [if_pos c173] at h
            refine xW_lv rfl (l := [(0, xR_ (a0)), (1, xI (v139)), (2, xI (v150)), (3, xI (v162)), (4, xI (0))]) (xsb_of ⟨rfl, rfl, rfl, rfl, rfl, trivial⟩ (show [4, 3, 2, 1, 0].Nodup by decide)) ?_
            exact k41_72   (xq_ai_in e140) hi152 hi164 (show xin (0) by decide) h
          · rw [if_neg c173] at h
            refine xe_alr (ins := .aload_n 0) (len := 1) (i := 0) (by decide +kernel) rfl rfl rfl rfl rfl ?_
            obtain ⟨_, e175, h⟩ := xbnd h
            obtain ⟨M176, e174, h⟩ := xbnd h
            refine xs_cv (i := 73) (j := 37) (ar := []) (rest := []) (r2 := xr_37) (by decide +kernel) (by decide +kernel) (by decide +kernel) xr_37_e rfl (by decide) (by decide) e175 ?_
            refine xc_v (k37 (d := d + 6)   e174) rfl ?_
            refine xe_alr (ins := .aload_n 0) (len := 1) (i := 0) (by decide +kernel) rfl rfl rfl rfl rfl ?_
            refine xe_ldn (ins := .iload_n 3) (len := 1) (by decide +kernel) rfl rfl rfl rfl ?_
            refine xe_iconst (n := 1) (by decide +kernel) rfl ?_
            refine xe_isub (by decide +kernel) rfl ?_
            obtain ⟨_, e179, h⟩ := xbnd h
            obtain ⟨R180, e178, h⟩ := xbnd h
            refine xs2_cv (kd := 0) (jj := 50) (by decide) (i := 165) (j := 50) (ar := [xI (xwr ((v162) - (1)))]) (rest := []) (r2 := xr_50) (by decide +kernel) (by decide +kernel) (by decide +kernel) xr_50_e rfl (by decide) (by decide) e179 ?_
            refine xct_i (k50 (d := d + 0) (xin_wr _) e178) rfl (fun e1 g182 => ?_) (fun v181 g182 hi183 => ?_)
            · rw [xth_l g182] at h; cases h; exact xK_thr rfl ⟨rfl, rfl⟩
            · rw [xth_r g182] at h
              refine xe_isr (ins := .istore 4) (len := 2) (i := 4) (by decide +kernel) rfl rfl rfl (by decide) (xk_d rfl (xk_k (show ¬ (3 : Nat) = 4 by decide) (Or.inr (xI_cat _)) (xk_k (show ¬ (2 : Nat) = 4 by decide) (Or.inl (show ¬ (2 + 1 : Nat) = 4 by decide)) (xk_k (show ¬ (1 : Nat) = 4 by decide) (Or.inl (show ¬ (1 + 1 : Nat) = 4 by decide)) (xk_k (show ¬ (0 : Nat) = 4 by decide) (Or.inl (show ¬ (0 + 1 : Nat) = 4 by decide)) xk_n))))) rfl ?_
              refine xW_lv rfl (l := [(0, xR_ (a0)), (1, xI (v139)), (2, xI (v150)), (3, xI (v162)), (4, xI (v181))]) (xsb_of ⟨rfl, rfl, rfl, rfl, rfl, trivial⟩ (show [4, 3, 2, 1, 0].Nodup by decide)) ?_
              exact k41_72   (xq_ai_in e140) hi152 hi164 hi183 h
-- ChangeHouse$Reader.readOutput
def xr_42 : xj_mR := (4, yX4_readOutput, cX4_readOutput, 3, (Option.none : Option Jvm.ClassFile.FieldType), 0, false, (4, 178), (1, 3))
set_option maxRecDepth 20000 in
theorem xr_42_e : xj_row 42 = some xr_42 := rfl
def f42  (f : Nat) (a0 : Nat) (M : xj_M) : Option ((Nat ⊕ Unit) × xj_M) := ((xq_is 4 (a0) M).bind fun _ => ((f37  f (a0) M).bind fun M103 => ((xq_gr 4 0 (a0) M103).bind fun v105 => ((xq_gr 8 4 (v105) M103).bind fun v107 => ((xq_gi 4 1 (a0) M103).bind fun v109 => ((xq_ai 3 (v107) (v109) M103).bind fun v111 => ((xq_is 4 (a0) M103).bind fun _ => ((f47 f (a0) M103).bind fun R115 => xth R115 (fun v116 => ((xq_is 4 (a0) R115.2).bind fun _ => ((f48 f (a0) (v116) (v111) R115.2).bind fun R121 => xth R121 (fun v122 => ((xq_is 4 (a0) R121.2).bind fun _ => ((f38 f (a0) (46) R121.2).bind fun R127 => xth R127 (fun _ => ((xq_is 4 (a0) R127.2).bind fun _ => ((f40  f (a0) (7) (v122) (v111) (0) R127.2).bind fun M133 => ((xq_gr 4 3 (a0) M133).bind fun v135 => ((xq_gr 3 6 (v135) M133).bind fun v137 => ((xq_sb (v137) (v122) (1) M133).bind fun M139 => (some (.inr (), M139))))))))))))))))))))))
theorem k42 {d f : Nat}   {a0 : Nat} {M : xj_M} {R : (Nat ⊕ Unit) × xj_M}  (h : f42  f a0 M = some R) : xT (d + 8) 42 [xR_ a0] M (xQtv R) := by
  refine xT_m xr_42_e (X := (none, d + 7, none)) rfl (xa_1 (xR_cat _) xa_n) (by decide) ?_
  unfold f42 at h
  refine xe_alr (ins := .aload_n 0) (len := 1) (i := 0) (by decide +kernel) rfl rfl rfl rfl rfl ?_
  obtain ⟨_, e102, h⟩ := xbnd h
  obtain ⟨M103, e101, h⟩ := xbnd h
  refine xs_cv (i := 73) (j := 37) (ar := []) (rest := []) (r2 := xr_37) (by decide +kernel) (by decide +kernel) (by decide +kernel) xr_37_e rfl (by decide) (by decide) e102 ?_
  refine xc_v (k37 (d := d + 6)   e101) rfl ?_
  refine xe_alr (ins := .aload_n 0) (len := 1) (i := 0) (by decide +kernel) rfl rfl rfl rfl rfl ?_
  obtain ⟨v105, e106, h⟩ := xbnd h
  refine xs_gr (i := 43) (c := 4) (k := 0) (by decide +kernel) (by decide) (by decide +kernel) e106 rfl ?_
  obtain ⟨v107, e108, h⟩ := xbnd h
  refine xs_gr (i := 80) (c := 8) (k := 4) (by decide +kernel) (by decide) (by decide +kernel) e108 rfl ?_
  refine xe_alr (ins := .aload_n 0) (len := 1) (i := 0) (by decide +kernel) rfl rfl rfl rfl rfl ?_
  obtain ⟨v109, e110, h⟩ := xbnd h
  refine xs_gi (i := 54) (c := 4) (k := 1) (by decide +kernel) (by decide) (by decide +kernel) e110 rfl ?_
  obtain ⟨v111, e112, h⟩ := xbnd h
  refine xs_iald rfl (by decide +kernel) (xq_gi_in e110) e112 rfl ?_
  refine xe_isr (ins := .istore_n 1) (len := 1) (i := 1) (by decide +kernel) rfl rfl rfl (by decide) (xk_k (show ¬ (0 : Nat) = 1 by decide) (Or.inr (xR_cat _)) xk_n) rfl ?_
  refine xe_alr (ins := .aload_n 0) (len := 1) (i := 0) (by decide +kernel) rfl rfl rfl rfl rfl ?_
  refine xe_alr (ins := .aload_n 0) (len := 1) (i := 0) (by decide +kernel) rfl rfl rfl rfl rfl ?_
  obtain ⟨_, e114, h⟩ := xbnd h
  obtain ⟨R115, e113, h⟩ := xbnd h
  refine xs2_cv (kd := 0) (jj := 47) (by decide) (i := 99) (j := 47) (ar := []) (rest := [xR_ (a0)]) (r2 := xr_47) (by decide +kernel) (by decide +kernel) (by decide +kernel) xr_47_e rfl (by decide) (by simp only [List.map_cons, List.map_nil, List.sum_cons, List.sum_nil, xR_cat, xI_cat, xZ_cat]; decide) e114 ?_
  refine xct_l (k47 (d := d + 0)  e113) rfl (fun e1 g117 => ?_) (fun v116 g117 hi118 => ?_)
  · rw [xth_l g117] at h; cases h; exact xK_thr rfl ⟨rfl, rfl⟩
  · rw [xth_r g117] at h
    refine xe_ldn (ins := .iload_n 1) (len := 1) (by decide +kernel) rfl rfl rfl rfl ?_
    obtain ⟨_, e120, h⟩ := xbnd h
    obtain ⟨R121, e119, h⟩ := xbnd h
    refine xs2_cv (kd := 0) (jj := 48) (by decide) (i := 103) (j := 48) (ar := [xI (v111), xZ (v116)]) (rest := []) (r2 := xr_48) (by decide +kernel) (by decide +kernel) (by decide +kernel) xr_48_e rfl (by decide) (by decide) e120 ?_
    refine xct_i (k48 (d := d + 0) hi118 (xq_ai_in e112) e119) rfl (fun e1 g123 => ?_) (fun v122 g123 hi124 => ?_)
    · rw [xth_l g123] at h; cases h; exact xK_thr rfl ⟨rfl, rfl⟩
    · rw [xth_r g123] at h
      refine xe_isr (ins := .istore_n 2) (len := 1) (i := 2) (by decide +kernel) rfl rfl rfl (by decide) (xk_k (show ¬ (1 : Nat) = 2 by decide) (Or.inr (xI_cat _)) (xk_k (show ¬ (0 : Nat) = 2 by decide) (Or.inl (show ¬ (0 + 1 : Nat) = 2 by decide)) xk_n)) rfl ?_
      refine xe_alr (ins := .aload_n 0) (len := 1) (i := 0) (by decide +kernel) rfl rfl rfl rfl rfl ?_
      refine xe_bipush (n := 46) (by decide +kernel) (by decide) rfl ?_
      obtain ⟨_, e126, h⟩ := xbnd h
      obtain ⟨R127, e125, h⟩ := xbnd h
      refine xs2_cv (kd := 0) (jj := 38) (by decide) (i := 76) (j := 38) (ar := [xI (46)]) (rest := []) (r2 := xr_38) (by decide +kernel) (by decide +kernel) (by decide +kernel) xr_38_e rfl (by decide) (by decide) e126 ?_
      refine xct_v (k38 (d := d + 0) (show xin (46) by decide) e125) rfl (fun e1 g129 => ?_) (fun g129 => ?_)
      · rw [xth_l g129] at h; cases h; exact xK_thr rfl ⟨rfl, rfl⟩
      · rw [xth_r g129] at h
        refine xe_alr (ins := .aload_n 0) (len := 1) (i := 0) (by decide +kernel) rfl rfl rfl rfl rfl ?_
        refine xe_bipush (n := 7) (by decide +kernel) (by decide) rfl ?_
        refine xe_ldn (ins := .iload_n 2) (len := 1) (by decide +kernel) rfl rfl rfl rfl ?_
        refine xe_ldn (ins := .iload_n 1) (len := 1) (by decide +kernel) rfl rfl rfl rfl ?_
        refine xe_iconst (n := 0) (by decide +kernel) rfl ?_
        obtain ⟨_, e132, h⟩ := xbnd h
        obtain ⟨M133, e131, h⟩ := xbnd h
        refine xs_cv (i := 114) (j := 40) (ar := [xI (0), xI (v111), xI (v122), xI (7)]) (rest := []) (r2 := xr_40) (by decide +kernel) (by decide +kernel) (by decide +kernel) xr_40_e rfl (by decide) (by decide) e132 ?_
        refine xc_v (k40 (d := d + 6)  (show xin (7) by decide) hi124 (xq_ai_in e112) (show xin (0) by decide) e131) rfl ?_
        refine xe_alr (ins := .aload_n 0) (len := 1) (i := 0) (by decide +kernel) rfl rfl rfl rfl rfl ?_
        obtain ⟨v135, e136, h⟩ := xbnd h
        refine xs_gr (i := 147) (c := 4) (k := 3) (by decide +kernel) (by decide) (by decide +kernel) e136 rfl ?_
        obtain ⟨v137, e138, h⟩ := xbnd h
        refine xs_gr (i := 182) (c := 3) (k := 6) (by decide +kernel) (by decide) (by decide +kernel) e138 rfl ?_
        refine xe_ldn (ins := .iload_n 2) (len := 1) (by decide +kernel) rfl rfl rfl rfl ?_
        refine xe_iconst (n := 1) (by decide +kernel) rfl ?_
        obtain ⟨M139, e140, h⟩ := xbnd h
        refine xs_bast (by decide +kernel) hi124 e140 rfl ?_
        cases h
        exact xe_ret_v (by decide +kernel) rfl ⟨rfl, rfl⟩
-- ChangeHouse$Reader.readAtom
def xr_46 : xj_mR := (4, yX4_readAtom, cX4_readAtom, 8, (Option.none : Option Jvm.ClassFile.FieldType), 1, false, (5, 130), (1, 3))
set_option maxRecDepth 20000 in
theorem xr_46_e : xj_row 46 = some xr_46 := rfl
def f46_229   (f : Nat)  (M : xj_M) : Option ((Nat ⊕ Unit) × xj_M) := (some (.inr (), M))
theorem k46_229 {d f : Nat}      {M : xj_M} {R : (Nat ⊕ Unit) × xj_M}  (h : f46_229   f  M = some R) : xW (d + 7) (none, d + 7, none) xr_46 (229, [], [], M) (xQtv R) := by
  unfold f46_229 at h
  cases h
  exact xe_ret_v (by decide +kernel) rfl ⟨rfl, rfl⟩
def f46_149   (f : Nat) (x0 : Nat) (x1 : Int) (x2 : Int) (x3 : Int) (x4 : Int) (x5 : Int) (M : xj_M) : Option ((Nat ⊕ Unit) × xj_M) := ((xq_is 4 (x0) M).bind fun _ => ((f38 f (x0) (41) M).bind fun R103 => xth R103 (fun _ => ((xq_gr 4 5 (x0) R103.2).bind fun v107 => ((xq_gr 6 9 (v107) R103.2).bind fun v109 => ((xq_si (v109) (x4) (x1) R103.2).bind fun M111 => ((xq_gr 4 5 (x0) M111).bind fun v113 => ((xq_gr 6 10 (v113) M111).bind fun v115 => ((xq_si (v115) (x4) (x3) M111).bind fun M117 => ((xq_gr 4 5 (x0) M117).bind fun v119 => ((xq_gr 6 11 (v119) M117).bind fun v121 => ((xq_si (v121) (x4) (x5) M117).bind fun M123 => ((xq_gr 4 5 (x0) M123).bind fun v125 => ((xq_gi 6 8 (v125) M123).bind fun v127 => ((xq_pi 6 8 (v125) (xwr ((v127) + (1))) M123).bind fun M129 => ((xq_is 4 (x0) M129).bind fun _ => ((f40  f (x0) (15) (x3) (x2) (x5) M129).bind fun M133 => ((xq_gi 4 4 (x0) M133).bind fun v135 => (if (v135) = 0 then f46_229   f  M133 else ((xq_gr 4 3 (x0) M133).bind fun v138 => ((xq_is 3 (v138) M133).bind fun _ => ((f23  f (v138) (x3) (x5) M133).bind fun M142 => f46_229   f  M142))))))))))))))))))))))
theorem k46_149 {d f : Nat}     {x0 : Nat} {x1 : Int} {x2 : Int} {x3 : Int} {x4 : Int} {x5 : Int} {M : xj_M} {R : (Nat ⊕ Unit) × xj_M} (hx1 : xin x1) (hx2 : xin x2) (hx3 : xin x3) (hx4 : xin x4) (hx5 : xin x5) (h : f46_149   f x0 x1 x2 x3 x4 x5 M = some R) : xW (d + 7) (none, d + 7, none) xr_46 (149, [(0, xR_ x0), (1, xI x1), (2, xI x2), (3, xI x3), (4, xI x4), (5, xI x5)], [], M) (xQtv R) := by
  unfold f46_149 at h
  refine xe_alr (ins := .aload_n 0) (len := 1) (i := 0) (by decide +kernel) rfl rfl rfl rfl rfl ?_
  refine xe_bipush (n := 41) (by decide +kernel) (by decide) rfl ?_
  obtain ⟨_, e102, h⟩ := xbnd h
  obtain ⟨R103, e101, h⟩ := xbnd h
  refine xs2_cv (kd := 0) (jj := 38) (by decide) (i := 76) (j := 38) (ar := [xI (41)]) (rest := []) (r2 := xr_38) (by decide +kernel) (by decide +kernel) (by decide +kernel) xr_38_e rfl (by decide) (by decide) e102 ?_
  refine xct_v (k38 (d := d + 0) (show xin (41) by decide) e101) rfl (fun e1 g105 => ?_) (fun g105 => ?_)
  · rw [xth_l g105] at h; cases h; exact xK_thr rfl ⟨rfl, rfl⟩
  · rw [xth_r g105] at h
    refine xe_alr (ins := .aload_n 0) (len := 1) (i := 0) (by decide +kernel) rfl rfl rfl rfl rfl ?_
    obtain ⟨v107, e108, h⟩ := xbnd h
    refine xs_gr (i := 86) (c := 4) (k := 5) (by decide +kernel) (by decide) (by decide +kernel) e108 rfl ?_
    obtain ⟨v109, e110, h⟩ := xbnd h
    refine xs_gr (i := 242) (c := 6) (k := 9) (by decide +kernel) (by decide) (by decide +kernel) e110 rfl ?_
    refine xe_ldn (ins := .iload 4) (len := 2) (by decide +kernel) rfl rfl rfl rfl ?_
    refine xe_ldn (ins := .iload_n 1) (len := 1) (by decide +kernel) rfl rfl rfl rfl ?_
    obtain ⟨M111, e112, h⟩ := xbnd h
    refine xs_iast (by decide +kernel) hx4 e112 rfl ?_
    refine xe_alr (ins := .aload_n 0) (len := 1) (i := 0) (by decide +kernel) rfl rfl rfl rfl rfl ?_
    obtain ⟨v113, e114, h⟩ := xbnd h
    refine xs_gr (i := 86) (c := 4) (k := 5) (by decide +kernel) (by decide) (by decide +kernel) e114 rfl ?_
    obtain ⟨v115, e116, h⟩ := xbnd h
    refine xs_gr (i := 249) (c := 6) (k := 10) (by decide +kernel) (by decide) (by decide +kernel) e116 rfl ?_
    refine xe_ldn (ins := .iload 4) (len := 2) (by decide +kernel) rfl rfl rfl rfl ?_
    refine xe_ldn (ins := .iload_n 3) (len := 1) (by decide +kernel) rfl rfl rfl rfl ?_
    obtain ⟨M117, e118, h⟩ := xbnd h
    refine xs_iast (by decide +kernel) hx4 e118 rfl ?_
    refine xe_alr (ins := .aload_n 0) (len := 1) (i := 0) (by decide +kernel) rfl rfl rfl rfl rfl ?_
    obtain ⟨v119, e120, h⟩ := xbnd h
    refine xs_gr (i := 86) (c := 4) (k := 5) (by decide +kernel) (by decide) (by decide +kernel) e120 rfl ?_
    obtain ⟨v121, e122, h⟩ := xbnd h
    refine xs_gr (i := 250) (c := 6) (k := 11) (by decide +kernel) (by decide) (by decide +kernel) e122 rfl ?_
    refine xe_ldn (ins := .iload 4) (len := 2) (by decide +kernel) rfl rfl rfl rfl ?_
    refine xe_ldn (ins := .iload 5) (len := 2) (by decide +kernel) rfl rfl rfl rfl ?_
    obtain ⟨M123, e124, h⟩ := xbnd h
    refine xs_iast (by decide +kernel) hx4 e124 rfl ?_
    refine xe_alr (ins := .aload_n 0) (len := 1) (i := 0) (by decide +kernel) rfl rfl rfl rfl rfl ?_
    obtain ⟨v125, e126, h⟩ := xbnd h
    refine xs_gr (i := 86) (c := 4) (k := 5) (by decide +kernel) (by decide) (by decide +kernel) e126 rfl ?_
    refine xe_dupr (by decide +kernel) rfl ?_
    obtain ⟨v127, e128, h⟩ := xbnd h
    refine xs_gi (i := 225) (c := 6) (k := 8) (by decide +kernel) (by decide) (by decide +kernel) e128 rfl ?_
    refine xe_iconst (n := 1) (by decide +kernel) rfl ?_
    refine xe_iadd (by decide +kernel) rfl ?_
    obtain ⟨M129, e130, h⟩ := xbnd h
    refine xs_p (i := 225) (c := 6) (k := 8) (by decide +kernel) (by decide +kernel) (by decide +kernel) e130 rfl ?_
    refine xe_alr (ins := .aload_n 0) (len := 1) (i := 0) (by decide +kernel) rfl rfl rfl rfl rfl ?_
    refine xe_bipush (n := 15) (by decide +kernel) (by decide) rfl ?_
    refine xe_ldn (ins := .iload_n 3) (len := 1) (by decide +kernel) rfl rfl rfl rfl ?_
    refine xe_ldn (ins := .iload_n 2) (len := 1) (by decide +kernel) rfl rfl rfl rfl ?_
    refine xe_ldn (ins := .iload 5) (len := 2) (by decide +kernel) rfl rfl rfl rfl ?_
    obtain ⟨_, e132, h⟩ := xbnd h
    obtain ⟨M133, e131, h⟩ := xbnd h
    refine xs_cv (i := 114) (j := 40) (ar := [xI (x5), xI (x2), xI (x3), xI (15)]) (rest := []) (r2 := xr_40) (by decide +kernel) (by decide +kernel) (by decide +kernel) xr_40_e rfl (by decide) (by decide) e132 ?_
    refine xc_v (k40 (d := d + 6)  (show xin (15) by decide) hx3 hx2 hx5 e131) rfl ?_
    refine xe_alr (ins := .aload_n 0) (len := 1) (i := 0) (by decide +kernel) rfl rfl rfl rfl rfl ?_
    obtain ⟨v135, e136, h⟩ := xbnd h
    refine xs_gi (i := 151) (c := 4) (k := 4) (by decide +kernel) (by decide) (by decide +kernel) e136 rfl ?_
    refine xe_ifeq (off := 13) (t := 229) (by decide +kernel) (by decide) rfl (xq_gi_in e136) (fun c137 => ?_) (fun c137 => ?_)
    · rw [if_pos c137] at h
      refine xW_lv rfl (l := []) (xsb_of trivial (show [0, 1, 2, 3, 4, 5].Nodup by decide)) ?_
      exact k46_229    h
    · rw [if_neg c137] at h
      refine xe_alr (ins := .aload_n 0) (len := 1) (i := 0) (by decide +kernel) rfl rfl rfl rfl rfl ?_
      obtain ⟨v138, e139, h⟩ := xbnd h
      refine xs_gr (i := 147) (c := 4) (k := 3) (by decide +kernel) (by decide) (by decide +kernel) e139 rfl ?_
      refine xe_ldn (ins := .iload_n 3) (len := 1) (by decide +kernel) rfl rfl rfl rfl ?_
      refine xe_ldn (ins := .iload 5) (len := 2) (by decide +kernel) rfl rfl rfl rfl ?_
      obtain ⟨_, e141, h⟩ := xbnd h
      obtain ⟨M142, e140, h⟩ := xbnd h
      refine xs_cv (i := 178) (j := 23) (ar := [xI (x5), xI (x3)]) (rest := []) (r2 := xr_23) (by decide +kernel) (by decide +kernel) (by decide +kernel) xr_23_e rfl (by decide) (by decide) e141 ?_
      refine xc_v (k23 (d := d + 6)  hx3 hx5 e140) rfl ?_
      refine xW_lv rfl (l := []) (xsb_of trivial (show [0, 1, 2, 3, 4, 5].Nodup by decide)) ?_
      exact k46_229    h
def f46_133  (r41 : Nat → Int → Int → Int → Int → Int → xj_M → Option ((Nat ⊕ Unit) × xj_M)) (f : Nat) (x0 : Nat) (x1 : Int) (x2 : Int) (x3 : Int) (x4 : Int) (x5 : Int) (M : xj_M) : Option ((Nat ⊕ Unit) × xj_M) := (if (4) ≤ (xwr ((x5) + (1))) then f46_149   f (x0) (x1) (x2) (x3) (x4) (xwr ((x5) + (1))) M else ((xq_is 4 (x0) M).bind fun _ => ((f39  f (x0) M).bind fun R147 => (if ¬ (R147.1) = 0 then r41 (x0) (x1) (x2) (x3) (x4) (xwr ((x5) + (1))) R147.2 else f46_149   f (x0) (x1) (x2) (x3) (x4) (xwr ((x5) + (1))) R147.2))))
theorem k46_133 {d f : Nat}  {r41 : Nat → Int → Int → Int → Int → Int → xj_M → Option ((Nat ⊕ Unit) × xj_M)}  (hr41 : ∀ {x0 : Nat} {x1 : Int} {x2 : Int} {x3 : Int} {x4 : Int} {x5 : Int} {M : xj_M} {R : (Nat ⊕ Unit) × xj_M}, xin x1 → xin x2 → xin x3 → xin x4 → xin x5 → r41 x0 x1 x2 x3 x4 x5 M = some R → xW (d + 7) (none, d + 7, none) xr_46 (41, [(0, xR_ x0), (1, xI x1), (2, xI x2), (3, xI x3), (4, xI x4), (5, xI x5)], [], M) (xQtv R)) {x0 : Nat} {x1 : Int} {x2 : Int} {x3 : Int} {x4 : Int} {x5 : Int} {M : xj_M} {R : (Nat ⊕ Unit) × xj_M} (hx1 : xin x1) (hx2 : xin x2) (hx3 : xin x3) (hx4 : xin x4) (hx5 : xin x5) (h : f46_133  r41 f x0 x1 x2 x3 x4 x5 M = some R) : xW (d + 7) (none, d + 7, none) xr_46 (133, [(0, xR_ x0), (1, xI x1), (2, xI x2), (3, xI x3), (4, xI x4), (5, xI x5)], [], M) (xQtv R) := by
  unfold f46_133 at h
  refine xe_iincr (i := 5) (n := 1) (by decide +kernel) (by decide) rfl (xk_k (show ¬ (0 : Nat) = 5 by decide) (Or.inl (show ¬ (0 + 1 : Nat) = 5 by decide)) (xk_k (show ¬ (1 : Nat) = 5 by decide) (Or.inl (show ¬ (1 + 1 : Nat) = 5 by decide)) (xk_k (show ¬ (2 : Nat) = 5 by decide) (Or.inl (show ¬ (2 + 1 : Nat) = 5 by decide)) (xk_k (show ¬ (3 : Nat) = 5 by decide) (Or.inl (show ¬ (3 + 1 : Nat) = 5 by decide)) (xk_k (show ¬ (4 : Nat) = 5 by decide) (Or.inr (xI_cat _)) (xk_d rfl xk_n)))))) rfl ?_
  refine xe_ldn (ins := .iload 5) (len := 2) (by decide +kernel) rfl rfl rfl rfl ?_
  refine xe_iconst (n := 4) (by decide +kernel) rfl ?_
  refine xe_icmpge (off := 10) (t := 149) (by decide +kernel) (by decide) rfl (xin_wr _) (show xin (4) by decide) (fun c144 => ?_) (fun c144 => ?_)
  · rw [if_pos c144] at h
    refine xW_lv rfl (l := [(0, xR_ (x0)), (1, xI (x1)), (2, xI (x2)), (3, xI (x3)), (4, xI (x4)), (5, xI (xwr ((x5) + (1))))]) (xsb_of ⟨rfl, rfl, rfl, rfl, rfl, rfl, trivial⟩ (show [5, 0, 1, 2, 3, 4].Nodup by decide)) ?_
    exact k46_149   hx1 hx2 hx3 hx4 (xin_wr _) h
  · rw [if_neg c144] at h
    refine xe_alr (ins := .aload_n 0) (len := 1) (i := 0) (by decide +kernel) rfl rfl rfl rfl rfl ?_
    obtain ⟨_, e146, h⟩ := xbnd h
    obtain ⟨R147, e145, h⟩ := xbnd h
    refine xs_cv (i := 110) (j := 39) (ar := []) (rest := []) (r2 := xr_39) (by decide +kernel) (by decide +kernel) (by decide +kernel) xr_39_e rfl (by decide) (by decide) e146 ?_
    refine xc_i (k39 (d := d + 5)   e145) rfl (fun hi148 => ?_)
    refine xe_ifne (off := -105) (t := 41) (by decide +kernel) (by decide) rfl hi148 (fun c149 => ?_) (fun c149 => ?_)
    · rw [if_pos c149] at h
      refine xW_lv rfl (l := [(0, xR_ (x0)), (1, xI (x1)), (2, xI (x2)), (3, xI (x3)), (4, xI (x4)), (5, xI (xwr ((x5) + (1))))]) (xsb_of ⟨rfl, rfl, rfl, rfl, rfl, rfl, trivial⟩ (show [5, 0, 1, 2, 3, 4].Nodup by decide)) ?_
      exact hr41 hx1 hx2 hx3 hx4 (xin_wr _) h
    · rw [if_neg c149] at h
      refine xW_lv rfl (l := [(0, xR_ (x0)), (1, xI (x1)), (2, xI (x2)), (3, xI (x3)), (4, xI (x4)), (5, xI (xwr ((x5) + (1))))]) (xsb_of ⟨rfl, rfl, rfl, rfl, rfl, rfl, trivial⟩ (show [5, 0, 1, 2, 3, 4].Nodup by decide)) ?_
      exact k46_149   hx1 hx2 hx3 hx4 (xin_wr _) h
def f46_132  (r41 : Nat → Int → Int → Int → Int → Int → xj_M → Option ((Nat ⊕ Unit) × xj_M)) (f : Nat) (x0 : Nat) (x1 : Int) (x2 : Int) (x3 : Int) (x4 : Int) (x5 : Int) (y0 : Int) (y1 : Int) (y2 : Nat) (M : xj_M) : Option ((Nat ⊕ Unit) × xj_M) := ((xq_sl (y2) (y1) (y0) M).bind fun M150 => f46_133  r41 f (x0) (x1) (x2) (x3) (x4) (x5) M150)
theorem k46_132 {d f : Nat}  {r41 : Nat → Int → Int → Int → Int → Int → xj_M → Option ((Nat ⊕ Unit) × xj_M)}  (hr41 : ∀ {x0 : Nat} {x1 : Int} {x2 : Int} {x3 : Int} {x4 : Int} {x5 : Int} {M : xj_M} {R : (Nat ⊕ Unit) × xj_M}, xin x1 → xin x2 → xin x3 → xin x4 → xin x5 → r41 x0 x1 x2 x3 x4 x5 M = some R → xW (d + 7) (none, d + 7, none) xr_46 (41, [(0, xR_ x0), (1, xI x1), (2, xI x2), (3, xI x3), (4, xI x4), (5, xI x5)], [], M) (xQtv R)) {x0 : Nat} {x1 : Int} {x2 : Int} {x3 : Int} {x4 : Int} {x5 : Int} {y0 : Int} {y1 : Int} {y2 : Nat} {M : xj_M} {R : (Nat ⊕ Unit) × xj_M} (hx1 : xin x1) (hx2 : xin x2) (hx3 : xin x3) (hx4 : xin x4) (hx5 : xin x5) (hy0 : xiN y0) (hy1 : xin y1) (h : f46_132  r41 f x0 x1 x2 x3 x4 x5 y0 y1 y2 M = some R) : xW (d + 7) (none, d + 7, none) xr_46 (132, [(0, xR_ x0), (1, xI x1), (2, xI x2), (3, xI x3), (4, xI x4), (5, xI x5)], [xZ y0, xI y1, xR_ y2], M) (xQtv R) := by
  unfold f46_132 at h
  obtain ⟨M150, e151, h⟩ := xbnd h
  refine xs_last (by decide +kernel) hy1 e151 rfl ?_
  refine xW_lv rfl (l := [(0, xR_ (x0)), (1, xI (x1)), (2, xI (x2)), (3, xI (x3)), (4, xI (x4)), (5, xI (x5))]) (xsb_of ⟨rfl, rfl, rfl, rfl, rfl, rfl, trivial⟩ (show [0, 1, 2, 3, 4, 5].Nodup by decide)) ?_
  exact k46_133  hr41 hx1 hx2 hx3 hx4 hx5 h
def f46_91  (r41 : Nat → Int → Int → Int → Int → Int → xj_M → Option ((Nat ⊕ Unit) × xj_M)) (f : Nat) (x0 : Nat) (x1 : Int) (x2 : Int) (x3 : Int) (x4 : Int) (x5 : Int) (x6 : Int) (x7 : Int) (y0 : Int) (y1 : Int) (y2 : Nat) (M : xj_M) : Option ((Nat ⊕ Unit) × xj_M) := ((xq_si (y2) (y1) (y0) M).bind fun M152 => (if ¬ (x7) = (3) then ((xq_gr 4 5 (x0) M152).bind fun v155 => ((xq_gr 6 13 (v155) M152).bind fun v157 => (if ¬ (x7) = (2) then ((xq_is 4 (x0) M152).bind fun _ => ((f51 f (x0) M152).bind fun R162 => xth R162 (fun v163 => f46_132  r41 f (x0) (x1) (x2) (x3) (x4) (x5) (v163) (x6) (v157) R162.2))) else ((xq_is 4 (x0) M152).bind fun _ => ((f49 f (x0) M152).bind fun R168 => xth R168 (fun v169 => f46_132  r41 f (x0) (x1) (x2) (x3) (x4) (x5) (v169) (x6) (v157) R168.2)))))) else ((xq_is 4 (x0) M152).bind fun _ => ((f37  f (x0) M152).bind fun M174 => f46_133  r41 f (x0) (x1) (x2) (x3) (x4) (x5) M174))))
theorem k46_91 {d f : Nat}  {r41 : Nat → Int → Int → Int → Int → Int → xj_M → Option ((Nat ⊕ Unit) × xj_M)}  (hr41 : ∀ {x0 : Nat} {x1 : Int} {x2 : Int} {x3 : Int} {x4 : Int} {x5 : Int} {M : xj_M} {R : (Nat ⊕ Unit) × xj_M}, xin x1 → xin x2 → xin x3 → xin x4 → xin x5 → r41 x0 x1 x2 x3 x4 x5 M = some R → xW (d + 7) (none, d + 7, none) xr_46 (41, [(0, xR_ x0), (1, xI x1), (2, xI x2), (3, xI x3), (4, xI x4), (5, xI x5)], [], M) (xQtv R)) {x0 : Nat} {x1 : Int} {x2 : Int} {x3 : Int} {x4 : Int} {x5 : Int} {x6 : Int} {x7 : Int} {y0 : Int} {y1 : Int} {y2 : Nat} {M : xj_M} {R : (Nat ⊕ Unit) × xj_M} (hx1 : xin x1) (hx2 : xin x2) (hx3 : xin x3) (hx4 : xin x4) (hx5 : xin x5) (hx6 : xin x6) (hx7 : xin x7) (hy0 : xin y0) (hy1 : xin y1) (h : f46_91  r41 f x0 x1 x2 x3 x4 x5 x6 x7 y0 y1 y2 M = some R) : xW (d + 7) (none, d + 7, none) xr_46 (91, [(0, xR_ x0), (1, xI x1), (2, xI x2), (3, xI x3), (4, xI x4), (5, xI x5), (6, xI x6), (7, xI x7)], [xI y0, xI y1, xR_ y2], M) (xQtv R) := by
  unfold f46_91 at h
  obtain ⟨M152, e153, h⟩ := xbnd h
  refine xs_iast (by decide +kernel) hy1 e153 rfl ?_
  refine xe_ldn (ins := .iload 7) (len := 2) (by decide +kernel) rfl rfl rfl rfl ?_
  refine xe_iconst (n := 3) (by decide +kernel) rfl ?_
  refine xe_icmpne (off := 10) (t := 105) (by decide +kernel) (by decide) rfl hx7 (show xin (3) by decide) (fun c154 => ?_) (fun c154 => ?_)
  · rw [if_pos c154] at h
    refine xe_alr (ins := .aload_n 0) (len := 1) (i := 0) (by decide +kernel) rfl rfl rfl rfl rfl ?_
    obtain ⟨v155, e156, h⟩ := xbnd h
    refine xs_gr (i := 86) (c := 4) (k := 5) (by decide +kernel) (by decide) (by decide +kernel) e156 rfl ?_
    obtain ⟨v157, e158, h⟩ := xbnd h
    refine xs_gr (i := 246) (c := 6) (k := 13) (by decide +kernel) (by decide) (by decide +kernel) e158 rfl ?_
    refine xe_ldn (ins := .iload 6) (len := 2) (by decide +kernel) rfl rfl rfl rfl ?_
    refine xe_ldn (ins := .iload 7) (len := 2) (by decide +kernel) rfl rfl rfl rfl ?_
    refine xe_iconst (n := 2) (by decide +kernel) rfl ?_
    refine xe_icmpne (off := 11) (t := 128) (by decide +kernel) (by decide) rfl hx7 (show xin (2) by decide) (fun c159 => ?_) (fun c159 => ?_)
    · rw [if_pos c159] at h
      refine xe_alr (ins := .aload_n 0) (len := 1) (i := 0) (by decide +kernel) rfl rfl rfl rfl rfl ?_
      obtain ⟨_, e161, h⟩ := xbnd h
      obtain ⟨R162, e160, h⟩ := xbnd h
      refine xs2_cv (kd := 0) (jj := 51) (by decide) (i := 107) (j := 51) (ar := []) (rest := [xI (x6), xR_ (v157)]) (r2 := xr_51) (by decide +kernel) (by decide +kernel) (by decide +kernel) xr_51_e rfl (by decide) (by simp only [List.map_cons, List.map_nil, List.sum_cons, List.sum_nil, xR_cat, xI_cat, xZ_cat]; decide) e161 ?_
      refine xct_l (k51 (d := d + 0)  e160) rfl (fun e1 g164 => ?_) (fun v163 g164 hi165 => ?_)
      · rw [xth_l g164] at h; cases h; exact xK_thr rfl ⟨rfl, rfl⟩
      · rw [xth_r g164] at h
        refine xW_lv rfl (l := [(0, xR_ (x0)), (1, xI (x1)), (2, xI (x2)), (3, xI (x3)), (4, xI (x4)), (5, xI (x5))]) (xsb_of ⟨rfl, rfl, rfl, rfl, rfl, rfl, trivial⟩ (show [0, 1, 2, 3, 4, 5, 6, 7].Nodup by decide)) ?_
        exact k46_132  hr41 hx1 hx2 hx3 hx4 hx5 hi165 hx6 h
    · rw [if_neg c159] at h
      refine xe_alr (ins := .aload_n 0) (len := 1) (i := 0) (by decide +kernel) rfl rfl rfl rfl rfl ?_
      obtain ⟨_, e167, h⟩ := xbnd h
      obtain ⟨R168, e166, h⟩ := xbnd h
      refine xs2_cv (kd := 0) (jj := 49) (by decide) (i := 219) (j := 49) (ar := []) (rest := [xI (x6), xR_ (v157)]) (r2 := xr_49) (by decide +kernel) (by decide +kernel) (by decide +kernel) xr_49_e rfl (by decide) (by simp only [List.map_cons, List.map_nil, List.sum_cons, List.sum_nil, xR_cat, xI_cat, xZ_cat]; decide) e167 ?_
      refine xct_i (k49 (d := d + 0)  e166) rfl (fun e1 g170 => ?_) (fun v169 g170 hi171 => ?_)
      · rw [xth_l g170] at h; cases h; exact xK_thr rfl ⟨rfl, rfl⟩
      · rw [xth_r g170] at h
        refine xe_i2l (by decide +kernel) rfl hi171 ?_
        refine xe_goto (off := 7) (nx := 132) (by decide +kernel) (by decide) ?_
        refine xW_lv rfl (l := [(0, xR_ (x0)), (1, xI (x1)), (2, xI (x2)), (3, xI (x3)), (4, xI (x4)), (5, xI (x5))]) (xsb_of ⟨rfl, rfl, rfl, rfl, rfl, rfl, trivial⟩ (show [0, 1, 2, 3, 4, 5, 6, 7].Nodup by decide)) ?_
        exact k46_132  hr41 hx1 hx2 hx3 hx4 hx5 (xin_N hi171) hx6 h
  · rw [if_neg c154] at h
    refine xe_alr (ins := .aload_n 0) (len := 1) (i := 0) (by decide +kernel) rfl rfl rfl rfl rfl ?_
    obtain ⟨_, e173, h⟩ := xbnd h
    obtain ⟨M174, e172, h⟩ := xbnd h
    refine xs_cv (i := 73) (j := 37) (ar := []) (rest := []) (r2 := xr_37) (by decide +kernel) (by decide +kernel) (by decide +kernel) xr_37_e rfl (by decide) (by decide) e173 ?_
    refine xc_v (k37 (d := d + 6)   e172) rfl ?_
    refine xe_goto (off := 31) (nx := 133) (by decide +kernel) (by decide) ?_
    refine xW_lv rfl (l := [(0, xR_ (x0)), (1, xI (x1)), (2, xI (x2)), (3, xI (x3)), (4, xI (x4)), (5, xI (x5))]) (xsb_of ⟨rfl, rfl, rfl, rfl, rfl, rfl, trivial⟩ (show [0, 1, 2, 3, 4, 5, 6, 7].Nodup by decide)) ?_
    exact k46_133  hr41 hx1 hx2 hx3 hx4 hx5 h
def f46_85  (r41 : Nat → Int → Int → Int → Int → Int → xj_M → Option ((Nat ⊕ Unit) × xj_M)) (f : Nat) (x0 : Nat) (x1 : Int) (x2 : Int) (x3 : Int) (x4 : Int) (x5 : Int) (x6 : Int) (x7 : Int) (y0 : Int) (y1 : Nat) (M : xj_M) : Option ((Nat ⊕ Unit) × xj_M) := f46_91  r41 f (x0) (x1) (x2) (x3) (x4) (x5) (x6) (x7) (x7) (y0) (y1) M
theorem k46_85 {d f : Nat}  {r41 : Nat → Int → Int → Int → Int → Int → xj_M → Option ((Nat ⊕ Unit) × xj_M)}  (hr41 : ∀ {x0 : Nat} {x1 : Int} {x2 : Int} {x3 : Int} {x4 : Int} {x5 : Int} {M : xj_M} {R : (Nat ⊕ Unit) × xj_M}, xin x1 → xin x2 → xin x3 → xin x4 → xin x5 → r41 x0 x1 x2 x3 x4 x5 M = some R → xW (d + 7) (none, d + 7, none) xr_46 (41, [(0, xR_ x0), (1, xI x1), (2, xI x2), (3, xI x3), (4, xI x4), (5, xI x5)], [], M) (xQtv R)) {x0 : Nat} {x1 : Int} {x2 : Int} {x3 : Int} {x4 : Int} {x5 : Int} {x6 : Int} {x7 : Int} {y0 : Int} {y1 : Nat} {M : xj_M} {R : (Nat ⊕ Unit) × xj_M} (hx1 : xin x1) (hx2 : xin x2) (hx3 : xin x3) (hx4 : xin x4) (hx5 : xin x5) (hx6 : xin x6) (hx7 : xin x7) (hy0 : xin y0) (h : f46_85  r41 f x0 x1 x2 x3 x4 x5 x6 x7 y0 y1 M = some R) : xW (d + 7) (none, d + 7, none) xr_46 (85, [(0, xR_ x0), (1, xI x1), (2, xI x2), (3, xI x3), (4, xI x4), (5, xI x5), (6, xI x6), (7, xI x7)], [xI y0, xR_ y1], M) (xQtv R) := by
  unfold f46_85 at h
  refine xe_ldn (ins := .iload 7) (len := 2) (by decide +kernel) rfl rfl rfl rfl ?_
  refine xe_goto (off := 4) (nx := 91) (by decide +kernel) (by decide) ?_
  refine xW_lv rfl (l := [(0, xR_ (x0)), (1, xI (x1)), (2, xI (x2)), (3, xI (x3)), (4, xI (x4)), (5, xI (x5)), (6, xI (x6)), (7, xI (x7))]) (xsb_of ⟨rfl, rfl, rfl, rfl, rfl, rfl, rfl, rfl, trivial⟩ (show [0, 1, 2, 3, 4, 5, 6, 7].Nodup by decide)) ?_
  exact k46_91  hr41 hx1 hx2 hx3 hx4 hx5 hx6 hx7 hx7 hy0 h
def f46_41b  (r41 : Nat → Int → Int → Int → Int → Int → xj_M → Option ((Nat ⊕ Unit) × xj_M)) (f : Nat) (x0 : Nat) (x1 : Int) (x2 : Int) (x3 : Int) (x4 : Int) (x5 : Int) (M : xj_M) : Option ((Nat ⊕ Unit) × xj_M) := ((xq_gr 4 0 (x0) M).bind fun v176 => ((xq_gr 8 3 (v176) M).bind fun v178 => ((xq_gi 4 1 (x0) M).bind fun v180 => ((xq_ai 3 (v178) (v180) M).bind fun v182 => ((xq_gr 4 5 (x0) M).bind fun v184 => ((xq_gr 6 12 (v184) M).bind fun v186 => (if (v182) = (2) then f46_85  r41 f (x0) (x1) (x2) (x3) (x4) (x5) (xwr ((xwr ((4) * (x4))) + (x5))) (v182) (xwr ((xwr ((4) * (x4))) + (x5))) (v186) M else (if ¬ (v182) = (3) then f46_91  r41 f (x0) (x1) (x2) (x3) (x4) (x5) (xwr ((xwr ((4) * (x4))) + (x5))) (v182) (4) (xwr ((xwr ((4) * (x4))) + (x5))) (v186) M else f46_85  r41 f (x0) (x1) (x2) (x3) (x4) (x5) (xwr ((xwr ((4) * (x4))) + (x5))) (v182) (xwr ((xwr ((4) * (x4))) + (x5))) (v186) M))))))))
theorem k46_41b {d f : Nat}  {r41 : Nat → Int → Int → Int → Int → Int → xj_M → Option ((Nat ⊕ Unit) × xj_M)}  (hr41 : ∀ {x0 : Nat} {x1 : Int} {x2 : Int} {x3 : Int} {x4 : Int} {x5 : Int} {M : xj_M} {R : (Nat ⊕ Unit) × xj_M}, xin x1 → xin x2 → xin x3 → xin x4 → xin x5 → r41 x0 x1 x2 x3 x4 x5 M = some R → xW (d + 7) (none, d + 7, none) xr_46 (41, [(0, xR_ x0), (1, xI x1), (2, xI x2), (3, xI x3), (4, xI x4), (5, xI x5)], [], M) (xQtv R)) {x0 : Nat} {x1 : Int} {x2 : Int} {x3 : Int} {x4 : Int} {x5 : Int} {M : xj_M} {R : (Nat ⊕ Unit) × xj_M} (hx1 : xin x1) (hx2 : xin x2) (hx3 : xin x3) (hx4 : xin x4) (hx5 : xin x5) (h : f46_41b  r41 f x0 x1 x2 x3 x4 x5 M = some R) : xW (d + 7) (none, d + 7, none) xr_46 (41, [(0, xR_ x0), (1, xI x1), (2, xI x2), (3, xI x3), (4, xI x4), (5, xI x5)], [], M) (xQtv R) := by
  unfold f46_41b at h
  refine xe_iconst (n := 4) (by decide +kernel) rfl ?_
  refine xe_ldn (ins := .iload 4) (len := 2) (by decide +kernel) rfl rfl rfl rfl ?_
  refine xe_imul (by decide +kernel) rfl ?_
  refine xe_ldn (ins := .iload 5) (len := 2) (by decide +kernel) rfl rfl rfl rfl ?_
  refine xe_iadd (by decide +kernel) rfl ?_
  refine xe_isr (ins := .istore 6) (len := 2) (i := 6) (by decide +kernel) rfl rfl rfl (by decide) (xk_k (show ¬ (0 : Nat) = 6 by decide) (Or.inl (show ¬ (0 + 1 : Nat) = 6 by decide)) (xk_k (show ¬ (1 : Nat) = 6 by decide) (Or.inl (show ¬ (1 + 1 : Nat) = 6 by decide)) (xk_k (show ¬ (2 : Nat) = 6 by decide) (Or.inl (show ¬ (2 + 1 : Nat) = 6 by decide)) (xk_k (show ¬ (3 : Nat) = 6 by decide) (Or.inl (show ¬ (3 + 1 : Nat) = 6 by decide)) (xk_k (show ¬ (4 : Nat) = 6 by decide) (Or.inl (show ¬ (4 + 1 : Nat) = 6 by decide)) (xk_k (show ¬ (5 : Nat) = 6 by decide) (Or.inr (xI_cat _)) xk_n)))))) rfl ?_
  refine xe_alr (ins := .aload_n 0) (len := 1) (i := 0) (by decide +kernel) rfl rfl rfl rfl rfl ?_
  obtain ⟨v176, e177, h⟩ := xbnd h
  refine xs_gr (i := 43) (c := 4) (k := 0) (by decide +kernel) (by decide) (by decide +kernel) e177 rfl ?_
  obtain ⟨v178, e179, h⟩ := xbnd h
  refine xs_gr (i := 51) (c := 8) (k := 3) (by decide +kernel) (by decide) (by decide +kernel) e179 rfl ?_
  refine xe_alr (ins := .aload_n 0) (len := 1) (i := 0) (by decide +kernel) rfl rfl rfl rfl rfl ?_
  obtain ⟨v180, e181, h⟩ := xbnd h
  refine xs_gi (i := 54) (c := 4) (k := 1) (by decide +kernel) (by decide) (by decide +kernel) e181 rfl ?_
  obtain ⟨v182, e183, h⟩ := xbnd h
  refine xs_iald rfl (by decide +kernel) (xq_gi_in e181) e183 rfl ?_
  refine xe_isr (ins := .istore 7) (len := 2) (i := 7) (by decide +kernel) rfl rfl rfl (by decide) (xk_k (show ¬ (6 : Nat) = 7 by decide) (Or.inr (xI_cat _)) (xk_k (show ¬ (0 : Nat) = 7 by decide) (Or.inl (show ¬ (0 + 1 : Nat) = 7 by decide)) (xk_k (show ¬ (1 : Nat) = 7 by decide) (Or.inl (show ¬ (1 + 1 : Nat) = 7 by decide)) (xk_k (show ¬ (2 : Nat) = 7 by decide) (Or.inl (show ¬ (2 + 1 : Nat) = 7 by decide)) (xk_k (show ¬ (3 : Nat) = 7 by decide) (Or.inl (show ¬ (3 + 1 : Nat) = 7 by decide)) (xk_k (show ¬ (4 : Nat) = 7 by decide) (Or.inl (show ¬ (4 + 1 : Nat) = 7 by decide)) (xk_k (show ¬ (5 : Nat) = 7 by decide) (Or.inl (show ¬ (5 + 1 : Nat) = 7 by decide)) xk_n))))))) rfl ?_
  refine xe_alr (ins := .aload_n 0) (len := 1) (i := 0) (by decide +kernel) rfl rfl rfl rfl rfl ?_
  obtain ⟨v184, e185, h⟩ := xbnd h
  refine xs_gr (i := 86) (c := 4) (k := 5) (by decide +kernel) (by decide) (by decide +kernel) e185 rfl ?_
  obtain ⟨v186, e187, h⟩ := xbnd h
  refine xs_gr (i := 243) (c := 6) (k := 12) (by decide +kernel) (by decide) (by decide +kernel) e187 rfl ?_
  refine xe_ldn (ins := .iload 6) (len := 2) (by decide +kernel) rfl rfl rfl rfl ?_
  refine xe_ldn (ins := .iload 7) (len := 2) (by decide +kernel) rfl rfl rfl rfl ?_
  refine xe_iconst (n := 2) (by decide +kernel) rfl ?_
  refine xe_icmpeq (off := 9) (t := 85) (by decide +kernel) (by decide) rfl (xq_ai_in e183) (show xin (2) by decide) (fun c188 => ?_) (fun c188 => ?_)
  · rw [if_pos c188] at h
    refine xW_lv rfl (l := [(0, xR_ (x0)), (1, xI (x1)), (2, xI (x2)), (3, xI (x3)), (4, xI (x4)), (5, xI (x5)), (6, xI (xwr ((xwr ((4) * (x4))) + (x5)))), (7, xI (v182))]) (xsb_of ⟨rfl, rfl, rfl, rfl, rfl, rfl, rfl, rfl, trivial⟩ (show [7, 6, 0, 1, 2, 3, 4, 5].Nodup by decide)) ?_
    exact k46_85  hr41 hx1 hx2 hx3 hx4 hx5 (xin_wr _) (xq_ai_in e183) (xin_wr _) h
  · rw [if_neg c188] at h
    refine xe_ldn (ins := .iload 7) (len := 2) (by decide +kernel) rfl rfl rfl rfl ?_
    refine xe_iconst (n := 3) (by decide +kernel) rfl ?_
    refine xe_icmpne (off := 8) (t := 90) (by decide +kernel) (by decide) rfl (xq_ai_in e183) (show xin (3) by decide) (fun c189 => ?_) (fun c189 => ?_)
    · rw [if_pos c189] at h
      refine xe_iconst (n := 4) (by decide +kernel) rfl ?_
      refine xW_lv rfl (l := [(0, xR_ (x0)), (1, xI (x1)), (2, xI (x2)), (3, xI (x3)), (4, xI (x4)), (5, xI (x5)), (6, xI (xwr ((xwr ((4) * (x4))) + (x5)))), (7, xI (v182))]) (xsb_of ⟨rfl, rfl, rfl, rfl, rfl, rfl, rfl, rfl, trivial⟩ (show [7, 6, 0, 1, 2, 3, 4, 5].Nodup by decide)) ?_
      exact k46_91  hr41 hx1 hx2 hx3 hx4 hx5 (xin_wr _) (xq_ai_in e183) (show xin (4) by decide) (xin_wr _) h
    · rw [if_neg c189] at h
      refine xW_lv rfl (l := [(0, xR_ (x0)), (1, xI (x1)), (2, xI (x2)), (3, xI (x3)), (4, xI (x4)), (5, xI (x5)), (6, xI (xwr ((xwr ((4) * (x4))) + (x5)))), (7, xI (v182))]) (xsb_of ⟨rfl, rfl, rfl, rfl, rfl, rfl, rfl, rfl, trivial⟩ (show [7, 6, 0, 1, 2, 3, 4, 5].Nodup by decide)) ?_
      exact k46_85  hr41 hx1 hx2 hx3 hx4 hx5 (xin_wr _) (xq_ai_in e183) (xin_wr _) h
def f46_41   (f : Nat) : Nat → Nat → Int → Int → Int → Int → Int → xj_M → Option ((Nat ⊕ Unit) × xj_M)
  | 0, _, _, _, _, _, _, _ => none
  | n + 1, x0, x1, x2, x3, x4, x5, M => f46_41b   (f46_41   f n) f x0 x1 x2 x3 x4 x5 M
theorem k46_41 {d f : Nat}     : ∀ {n : Nat} {x0 : Nat} {x1 : Int} {x2 : Int} {x3 : Int} {x4 : Int} {x5 : Int} {M : xj_M} {R : (Nat ⊕ Unit) × xj_M}, xin x1 → xin x2 → xin x3 → xin x4 → xin x5 → f46_41   f n x0 x1 x2 x3 x4 x5 M = some R → xW (d + 7) (none, d + 7, none) xr_46 (41, [(0, xR_ x0), (1, xI x1), (2, xI x2), (3, xI x3), (4, xI x4), (5, xI x5)], [], M) (xQtv R) := by
  intro n
  induction n with
  | zero => intros; rename_i h; cases h
  | succ n ih => intros; rename_i h; exact k46_41b   ih (by assumption) (by assumption) (by assumption) (by assumption) (by assumption) h
def f46  (f : Nat) (a0 : Nat) (a1 : Int) (M : xj_M) : Option ((Nat ⊕ Unit) × xj_M) := ((xq_gr 4 0 (a0) M).bind fun v190 => ((xq_gr 8 4 (v190) M).bind fun v192 => ((xq_gi 4 1 (a0) M).bind fun v194 => ((xq_ai 3 (v192) (v194) M).bind fun v196 => ((xq_is 4 (a0) M).bind fun _ => ((f47 f (a0) M).bind fun R200 => xth R200 (fun v201 => ((xq_is 4 (a0) R200.2).bind fun _ => ((f48 f (a0) (v201) (v196) R200.2).bind fun R206 => xth R206 (fun v207 => ((xq_is 4 (a0) R206.2).bind fun _ => ((f38 f (a0) (40) R206.2).bind fun R212 => xth R212 (fun _ => ((xq_gr 4 5 (a0) R212.2).bind fun v216 => ((xq_gi 6 8 (v216) R212.2).bind fun v218 => f46_41   f f (a0) (a1) (v196) (v207) (v218) (0) R212.2)))))))))))))))
theorem k46 {d f : Nat}   {a0 : Nat} {a1 : Int} {M : xj_M} {R : (Nat ⊕ Unit) × xj_M} (ha1 : xin a1) (h : f46  f a0 a1 M = some R) : xT (d + 8) 46 [xR_ a0, xI a1] M (xQtv R) := by
  refine xT_m xr_46_e (X := (none, d + 7, none)) rfl (xa_1 (xR_cat _) (xa_1 (xI_cat _) xa_n)) (by decide) ?_
  unfold f46 at h
  refine xe_alr (ins := .aload_n 0) (len := 1) (i := 0) (by decide +kernel) rfl rfl rfl rfl rfl ?_
  obtain ⟨v190, e191, h⟩ := xbnd h
  refine xs_gr (i := 43) (c := 4) (k := 0) (by decide +kernel) (by decide) (by decide +kernel) e191 rfl ?_
  obtain ⟨v192, e193, h⟩ := xbnd h
  refine xs_gr (i := 80) (c := 8) (k := 4) (by decide +kernel) (by decide) (by decide +kernel) e193 rfl ?_
  refine xe_alr (ins := .aload_n 0) (len := 1) (i := 0) (by decide +kernel) rfl rfl rfl rfl rfl ?_
  obtain ⟨v194, e195, h⟩ := xbnd h
  refine xs_gi (i := 54) (c := 4) (k := 1) (by decide +kernel) (by decide) (by decide +kernel) e195 rfl ?_
  obtain ⟨v196, e197, h⟩ := xbnd h
  refine xs_iald rfl (by decide +kernel) (xq_gi_in e195) e197 rfl ?_
  refine xe_isr (ins := .istore_n 2) (len := 1) (i := 2) (by decide +kernel) rfl rfl rfl (by decide) (xk_k (show ¬ (0 : Nat) = 2 by decide) (Or.inl (show ¬ (0 + 1 : Nat) = 2 by decide)) (xk_k (show ¬ (1 : Nat) = 2 by decide) (Or.inr (xI_cat _)) xk_n)) rfl ?_
  refine xe_alr (ins := .aload_n 0) (len := 1) (i := 0) (by decide +kernel) rfl rfl rfl rfl rfl ?_
  refine xe_alr (ins := .aload_n 0) (len := 1) (i := 0) (by decide +kernel) rfl rfl rfl rfl rfl ?_
  obtain ⟨_, e199, h⟩ := xbnd h
  obtain ⟨R200, e198, h⟩ := xbnd h
  refine xs2_cv (kd := 0) (jj := 47) (by decide) (i := 99) (j := 47) (ar := []) (rest := [xR_ (a0)]) (r2 := xr_47) (by decide +kernel) (by decide +kernel) (by decide +kernel) xr_47_e rfl (by decide) (by simp only [List.map_cons, List.map_nil, List.sum_cons, List.sum_nil, xR_cat, xI_cat, xZ_cat]; decide) e199 ?_
  refine xct_l (k47 (d := d + 0)  e198) rfl (fun e1 g202 => ?_) (fun v201 g202 hi203 => ?_)
  · rw [xth_l g202] at h; cases h; exact xK_thr rfl ⟨rfl, rfl⟩
  · rw [xth_r g202] at h
    refine xe_ldn (ins := .iload_n 2) (len := 1) (by decide +kernel) rfl rfl rfl rfl ?_
    obtain ⟨_, e205, h⟩ := xbnd h
    obtain ⟨R206, e204, h⟩ := xbnd h
    refine xs2_cv (kd := 0) (jj := 48) (by decide) (i := 103) (j := 48) (ar := [xI (v196), xZ (v201)]) (rest := []) (r2 := xr_48) (by decide +kernel) (by decide +kernel) (by decide +kernel) xr_48_e rfl (by decide) (by decide) e205 ?_
    refine xct_i (k48 (d := d + 0) hi203 (xq_ai_in e197) e204) rfl (fun e1 g208 => ?_) (fun v207 g208 hi209 => ?_)
    · rw [xth_l g208] at h; cases h; exact xK_thr rfl ⟨rfl, rfl⟩
    · rw [xth_r g208] at h
      refine xe_isr (ins := .istore_n 3) (len := 1) (i := 3) (by decide +kernel) rfl rfl rfl (by decide) (xk_k (show ¬ (2 : Nat) = 3 by decide) (Or.inr (xI_cat _)) (xk_k (show ¬ (0 : Nat) = 3 by decide) (Or.inl (show ¬ (0 + 1 : Nat) = 3 by decide)) (xk_k (show ¬ (1 : Nat) = 3 by decide) (Or.inl (show ¬ (1 + 1 : Nat) = 3 by decide)) xk_n))) rfl ?_
      refine xe_alr (ins := .aload_n 0) (len := 1) (i := 0) (by decide +kernel) rfl rfl rfl rfl rfl ?_
      refine xe_bipush (n := 40) (by decide +kernel) (by decide) rfl ?_
      obtain ⟨_, e211, h⟩ := xbnd h
      obtain ⟨R212, e210, h⟩ := xbnd h
      refine xs2_cv (kd := 0) (jj := 38) (by decide) (i := 76) (j := 38) (ar := [xI (40)]) (rest := []) (r2 := xr_38) (by decide +kernel) (by decide +kernel) (by decide +kernel) xr_38_e rfl (by decide) (by decide) e211 ?_
      refine xct_v (k38 (d := d + 0) (show xin (40) by decide) e210) rfl (fun e1 g214 => ?_) (fun g214 => ?_)
      · rw [xth_l g214] at h; cases h; exact xK_thr rfl ⟨rfl, rfl⟩
      · rw [xth_r g214] at h
        refine xe_alr (ins := .aload_n 0) (len := 1) (i := 0) (by decide +kernel) rfl rfl rfl rfl rfl ?_
        obtain ⟨v216, e217, h⟩ := xbnd h
        refine xs_gr (i := 86) (c := 4) (k := 5) (by decide +kernel) (by decide) (by decide +kernel) e217 rfl ?_
        obtain ⟨v218, e219, h⟩ := xbnd h
        refine xs_gi (i := 225) (c := 6) (k := 8) (by decide +kernel) (by decide) (by decide +kernel) e219 rfl ?_
        refine xe_isr (ins := .istore 4) (len := 2) (i := 4) (by decide +kernel) rfl rfl rfl (by decide) (xk_k (show ¬ (3 : Nat) = 4 by decide) (Or.inr (xI_cat _)) (xk_k (show ¬ (2 : Nat) = 4 by decide) (Or.inl (show ¬ (2 + 1 : Nat) = 4 by decide)) (xk_k (show ¬ (0 : Nat) = 4 by decide) (Or.inl (show ¬ (0 + 1 : Nat) = 4 by decide)) (xk_k (show ¬ (1 : Nat) = 4 by decide) (Or.inl (show ¬ (1 + 1 : Nat) = 4 by decide)) xk_n)))) rfl ?_
        refine xe_iconst (n := 0) (by decide +kernel) rfl ?_
        refine xe_isr (ins := .istore 5) (len := 2) (i := 5) (by decide +kernel) rfl rfl rfl (by decide) (xk_k (show ¬ (4 : Nat) = 5 by decide) (Or.inr (xI_cat _)) (xk_k (show ¬ (3 : Nat) = 5 by decide) (Or.inl (show ¬ (3 + 1 : Nat) = 5 by decide)) (xk_k (show ¬ (2 : Nat) = 5 by decide) (Or.inl (show ¬ (2 + 1 : Nat) = 5 by decide)) (xk_k (show ¬ (0 : Nat) = 5 by decide) (Or.inl (show ¬ (0 + 1 : Nat) = 5 by decide)) (xk_k (show ¬ (1 : Nat) = 5 by decide) (Or.inl (show ¬ (1 + 1 : Nat) = 5 by decide)) xk_n))))) rfl ?_
        refine xW_lv rfl (l := [(0, xR_ (a0)), (1, xI (a1)), (2, xI (v196)), (3, xI (v207)), (4, xI (v218)), (5, xI (0))]) (xsb_of ⟨rfl, rfl, rfl, rfl, rfl, rfl, trivial⟩ (show [5, 4, 3, 2, 0, 1].Nodup by decide)) ?_
        exact k46_41   ha1 (xq_ai_in e197) hi209 (xq_gi_in e219) (show xin (0) by decide) h
-- ChangeHouse$Reader.programFault
def xr_62 : xj_mR := (4, yX4_programFault, cX4_programFault, 2, (Option.some Jvm.ClassFile.FieldType.int), 0, false, (5, 192), (1, 3))
set_option maxRecDepth 20000 in
theorem xr_62_e : xj_row 62 = some xr_62 := rfl
def f62_130   (f : Nat) (y0 : Int) (M : xj_M) : Option (Int × xj_M) := (some (y0, M))
theorem k62_130 {d f : Nat}     {y0 : Int} {M : xj_M} {R : Int × xj_M} (hy0 : xin y0) (h : f62_130   f y0 M = some R) : xW (d + 4) (none, d + 4, none) xr_62 (130, [], [xI y0], M) (xQi R) := by
  unfold f62_130 at h
  cases h
  exact xe_ret_i (ty := .int) (by decide +kernel) rfl rfl ⟨rfl, rfl, hy0⟩
def f62_56b  (r56 : Nat → Int → xj_M → Option (Int × xj_M)) (f : Nat) (x0 : Nat) (x1 : Int) (M : xj_M) : Option (Int × xj_M) := ((xq_gr 4 3 (x0) M).bind fun v101 => ((xq_gi 3 8 (v101) M).bind fun v103 => (if (v103) ≤ (x1) then ((xq_gr 4 3 (x0) M).bind fun v106 => ((xq_is 3 (v106) M).bind fun _ => ((f24  f (v106) M).bind fun M110 => ((xq_gr 4 3 (x0) M110).bind fun v112 => ((xq_is 3 (v112) M110).bind fun _ => ((f28  f (v112) M110).bind fun R116 => ((xq_pi 4 2 (x0) (R116.1) R116.2).bind fun M118 => ((xq_gi 4 2 (x0) M118).bind fun v120 => (if (v120) = (-1) then f62_130   f (0) M118 else f62_130   f (5) M118))))))))) else ((xq_gr 4 3 (x0) M).bind fun v123 => ((xq_gr 3 9 (v123) M).bind fun v125 => ((xq_ar (v125) (x1) M).bind fun v127 => ((xq_is 6 (v127) M).bind fun _ => ((f95  f (v127) M).bind fun R131 => ((xq_pi 4 2 (x0) (R131.1) R131.2).bind fun M133 => ((xq_gi 4 2 (x0) M133).bind fun v135 => (if (v135) = (-1) then r56 (x0) (xwr ((x1) + (1))) M133 else (some (4, M133)))))))))))))
theorem k62_56b {d f : Nat}  {r56 : Nat → Int → xj_M → Option (Int × xj_M)}  (hr56 : ∀ {x0 : Nat} {x1 : Int} {M : xj_M} {R : Int × xj_M}, xin x1 → r56 x0 x1 M = some R → xW (d + 4) (none, d + 4, none) xr_62 (56, [(0, xR_ x0), (1, xI x1)], [], M) (xQi R)) {x0 : Nat} {x1 : Int} {M : xj_M} {R : Int × xj_M} (hx1 : xin x1) (h : f62_56b  r56 f x0 x1 M = some R) : xW (d + 4) (none, d + 4, none) xr_62 (56, [(0, xR_ x0), (1, xI x1)], [], M) (xQi R) := by
  unfold f62_56b at h
  refine xe_ldn (ins := .iload_n 1) (len := 1) (by decide +kernel) rfl rfl rfl rfl ?_
  refine xe_alr (ins := .aload_n 0) (len := 1) (i := 0) (by decide +kernel) rfl rfl rfl rfl rfl ?_
  obtain ⟨v101, e102, h⟩ := xbnd h
  refine xs_gr (i := 147) (c := 4) (k := 3) (by decide +kernel) (by decide) (by decide +kernel) e102 rfl ?_
  obtain ⟨v103, e104, h⟩ := xbnd h
  refine xs_gi (i := 185) (c := 3) (k := 8) (by decide +kernel) (by decide) (by decide +kernel) e104 rfl ?_
  refine xe_icmpge (off := 35) (t := 99) (by decide +kernel) (by decide) rfl hx1 (xq_gi_in e104) (fun c105 => ?_) (fun c105 => ?_)
  · rw [if_pos c105] at h
    refine xe_alr (ins := .aload_n 0) (len := 1) (i := 0) (by decide +kernel) rfl rfl rfl rfl rfl ?_
    obtain ⟨v106, e107, h⟩ := xbnd h
    refine xs_gr (i := 147) (c := 4) (k := 3) (by decide +kernel) (by decide) (by decide +kernel) e107 rfl ?_
    obtain ⟨_, e109, h⟩ := xbnd h
    obtain ⟨M110, e108, h⟩ := xbnd h
    refine xs_cv (i := 317) (j := 24) (ar := []) (rest := []) (r2 := xr_24) (by decide +kernel) (by decide +kernel) (by decide +kernel) xr_24_e rfl (by decide) (by decide) e109 ?_
    refine xc_v (k24 (d := d + 0)   e108) rfl ?_
    refine xe_alr (ins := .aload_n 0) (len := 1) (i := 0) (by decide +kernel) rfl rfl rfl rfl rfl ?_
    refine xe_alr (ins := .aload_n 0) (len := 1) (i := 0) (by decide +kernel) rfl rfl rfl rfl rfl ?_
    obtain ⟨v112, e113, h⟩ := xbnd h
    refine xs_gr (i := 147) (c := 4) (k := 3) (by decide +kernel) (by decide) (by decide +kernel) e113 rfl ?_
    obtain ⟨_, e115, h⟩ := xbnd h
    obtain ⟨R116, e114, h⟩ := xbnd h
    refine xs_cv (i := 320) (j := 28) (ar := []) (rest := [xR_ (x0)]) (r2 := xr_28) (by decide +kernel) (by decide +kernel) (by decide +kernel) xr_28_e rfl (by decide) (by simp only [List.map_cons, List.map_nil, List.sum_cons, List.sum_nil, xR_cat, xI_cat, xZ_cat]; decide) e115 ?_
    refine xc_i (k28 (d := d + 3)   e114) rfl (fun hi117 => ?_)
    obtain ⟨M118, e119, h⟩ := xbnd h
    refine xs_p (i := 159) (c := 4) (k := 2) (by decide +kernel) (by decide +kernel) (by decide +kernel) e119 rfl ?_
    refine xe_alr (ins := .aload_n 0) (len := 1) (i := 0) (by decide +kernel) rfl rfl rfl rfl rfl ?_
    obtain ⟨v120, e121, h⟩ := xbnd h
    refine xs_gi (i := 159) (c := 4) (k := 2) (by decide +kernel) (by decide) (by decide +kernel) e121 rfl ?_
    refine xe_iconst (n := -1) (by decide +kernel) rfl ?_
    refine xe_icmpeq (off := 7) (t := 129) (by decide +kernel) (by decide) rfl (xq_gi_in e121) (show xin (-1) by decide) (fun c122 => ?_) (fun c122 => ?_)
    · rw [if_pos c122] at h
      refine xe_iconst (n := 0) (by decide +kernel) rfl ?_
      refine xW_lv rfl (l := []) (xsb_of trivial (show [0, 1].Nodup by decide)) ?_
      exact k62_130   (show xin (0) by decide) h
    · rw [if_neg c122] at h
      refine xe_iconst (n := 5) (by decide +kernel) rfl ?_
      refine xe_goto (off := 4) (nx := 130) (by decide +kernel) (by decide) ?_
      refine xW_lv rfl (l := []) (xsb_of trivial (show [0, 1].Nodup by decide)) ?_
      exact k62_130   (show xin (5) by decide) h
  · rw [if_neg c105] at h
    refine xe_alr (ins := .aload_n 0) (len := 1) (i := 0) (by decide +kernel) rfl rfl rfl rfl rfl ?_
    refine xe_alr (ins := .aload_n 0) (len := 1) (i := 0) (by decide +kernel) rfl rfl rfl rfl rfl ?_
    obtain ⟨v123, e124, h⟩ := xbnd h
    refine xs_gr (i := 147) (c := 4) (k := 3) (by decide +kernel) (by decide) (by decide +kernel) e124 rfl ?_
    obtain ⟨v125, e126, h⟩ := xbnd h
    refine xs_gr (i := 203) (c := 3) (k := 9) (by decide +kernel) (by decide) (by decide +kernel) e126 rfl ?_
    refine xe_ldn (ins := .iload_n 1) (len := 1) (by decide +kernel) rfl rfl rfl rfl ?_
    obtain ⟨v127, e128, h⟩ := xbnd h
    refine xs_aald (by decide +kernel) hx1 e128 rfl ?_
    obtain ⟨_, e130, h⟩ := xbnd h
    obtain ⟨R131, e129, h⟩ := xbnd h
    refine xs_cv (i := 314) (j := 95) (ar := []) (rest := [xR_ (x0)]) (r2 := xr_95) (by decide +kernel) (by decide +kernel) (by decide +kernel) xr_95_e rfl (by decide) (by simp only [List.map_cons, List.map_nil, List.sum_cons, List.sum_nil, xR_cat, xI_cat, xZ_cat]; decide) e130 ?_
    refine xc_i (k95 (d := d + 0)   e129) rfl (fun hi132 => ?_)
    obtain ⟨M133, e134, h⟩ := xbnd h
    refine xs_p (i := 159) (c := 4) (k := 2) (by decide +kernel) (by decide +kernel) (by decide +kernel) e134 rfl ?_
    refine xe_alr (ins := .aload_n 0) (len := 1) (i := 0) (by decide +kernel) rfl rfl rfl rfl rfl ?_
    obtain ⟨v135, e136, h⟩ := xbnd h
    refine xs_gi (i := 159) (c := 4) (k := 2) (by decide +kernel) (by decide) (by decide +kernel) e136 rfl ?_
    refine xe_iconst (n := -1) (by decide +kernel) rfl ?_
    refine xe_icmpeq (off := 5) (t := 93) (by decide +kernel) (by decide) rfl (xq_gi_in e136) (show xin (-1) by decide) (fun c137 => ?_) (fun c137 => ?_)
    · rw [if_pos c137] at h
      refine xe_iincr (i := 1) (n := 1) (by decide +kernel) (by decide) rfl (xk_k (show ¬ (0 : Nat) = 1 by decide) (Or.inr (xR_cat _)) (xk_d rfl xk_n)) rfl ?_
      refine xe_goto (off := -40) (nx := 56) (by decide +kernel) (by decide) ?_
      refine xW_lv rfl (l := [(0, xR_ (x0)), (1, xI (xwr ((x1) + (1))))]) (xsb_of ⟨rfl, rfl, trivial⟩ (show [1, 0].Nodup by decide)) ?_
      exact hr56 (xin_wr _) h
    · rw [if_neg c137] at h
      refine xe_iconst (n := 4) (by decide +kernel) rfl ?_
      cases h
      exact xe_ret_i (ty := .int) (by decide +kernel) rfl rfl ⟨rfl, rfl, (show xin (4) by decide)⟩
def f62_56   (f : Nat) : Nat → Nat → Int → xj_M → Option (Int × xj_M)
  | 0, _, _, _ => none
  | n + 1, x0, x1, M => f62_56b   (f62_56   f n) f x0 x1 M
theorem k62_56 {d f : Nat}     : ∀ {n : Nat} {x0 : Nat} {x1 : Int} {M : xj_M} {R : Int × xj_M}, xin x1 → f62_56   f n x0 x1 M = some R → xW (d + 4) (none, d + 4, none) xr_62 (56, [(0, xR_ x0), (1, xI x1)], [], M) (xQi R) := by
  intro n
  induction n with
  | zero => intros; rename_i h; cases h
  | succ n ih => intros; rename_i h; exact k62_56b   ih (by assumption) h
def f62  (f : Nat) (a0 : Nat) (M : xj_M) : Option (Int × xj_M) := ((xq_is 4 (a0) M).bind fun _ => ((f65  f (a0) M).bind fun R140 => ((xq_pi 4 2 (a0) (R140.1) R140.2).bind fun M142 => ((xq_gi 4 2 (a0) M142).bind fun v144 => (if (v144) = (-1) then ((xq_is 4 (a0) M142).bind fun _ => ((f66  f (a0) M142).bind fun R149 => ((xq_pi 4 2 (a0) (R149.1) R149.2).bind fun M151 => ((xq_gi 4 2 (a0) M151).bind fun v153 => (if (v153) = (-1) then ((xq_is 4 (a0) M151).bind fun _ => ((f67  f (a0) M151).bind fun R158 => ((xq_pi 4 2 (a0) (R158.1) R158.2).bind fun M160 => ((xq_gi 4 2 (a0) M160).bind fun v162 => (if (v162) = (-1) then f62_56   f f (a0) (0) M160 else (some (3, M160))))))) else (some (2, M151))))))) else (some (1, M142)))))))
theorem yk62 {d f : Nat}   {a0 : Nat} {M : xj_M} {R : Int × xj_M}  (h : f62  f a0 M = some R) : xT (d + 5) 62 [xR_ a0] M (xQi R) := by
  refine xT_m xr_62_e (X := (none, d + 4, none)) rfl (xa_1 (xR_cat _) xa_n) (by decide) ?_
  unfold f62 at h
  refine xe_alr (ins := .aload_n 0) (len := 1) (i := 0) (by decide +kernel) rfl rfl rfl rfl rfl ?_
  refine xe_alr (ins := .aload_n 0) (len := 1) (i := 0) (by decide +kernel) rfl rfl rfl rfl rfl ?_
  obtain ⟨_, e139, h⟩ := xbnd h
  obtain ⟨R140, e138, h⟩ := xbnd h
  refine xs_cv (i := 305) (j := 65) (ar := []) (rest := [xR_ (a0)]) (r2 := xr_65) (by decide +kernel) (by decide +kernel) (by decide +kernel) xr_65_e rfl (by decide) (by simp only [List.map_cons, List.map_nil, List.sum_cons, List.sum_nil, xR_cat, xI_cat, xZ_cat]; decide) e139 ?_
  refine xc_i (k65 (d := d + 3)   e138) rfl (fun hi141 => ?_)
  obtain ⟨M142, e143, h⟩ := xbnd h
  refine xs_p (i := 159) (c := 4) (k := 2) (by decide +kernel) (by decide +kernel) (by decide +kernel) e143 rfl ?_
  refine xe_alr (ins := .aload_n 0) (len := 1) (i := 0) (by decide +kernel) rfl rfl rfl rfl rfl ?_
  obtain ⟨v144, e145, h⟩ := xbnd h
  refine xs_gi (i := 159) (c := 4) (k := 2) (by decide +kernel) (by decide) (by decide +kernel) e145 rfl ?_
  refine xe_iconst (n := -1) (by decide +kernel) rfl ?_
  refine xe_icmpeq (off := 5) (t := 18) (by decide +kernel) (by decide) rfl (xq_gi_in e145) (show xin (-1) by decide) (fun c146 => ?_) (fun c146 => ?_)
  · rw [if_pos c146] at h
    refine xe_alr (ins := .aload_n 0) (len := 1) (i := 0) (by decide +kernel) rfl rfl rfl rfl rfl ?_
    refine xe_alr (ins := .aload_n 0) (len := 1) (i := 0) (by decide +kernel) rfl rfl rfl rfl rfl ?_
    obtain ⟨_, e148, h⟩ := xbnd h
    obtain ⟨R149, e147, h⟩ := xbnd h
    refine xs_cv (i := 308) (j := 66) (ar := []) (rest := [xR_ (a0)]) (r2 := xr_66) (by decide +kernel) (by decide +kernel) (by decide +kernel) xr_66_e rfl (by decide) (by simp only [List.map_cons, List.map_nil, List.sum_cons, List.sum_nil, xR_cat, xI_cat, xZ_cat]; decide) e148 ?_
    refine xc_i (k66 (d := d + 3)   e147) rfl (fun hi150 => ?_)
    obtain ⟨M151, e152, h⟩ := xbnd h
    refine xs_p (i := 159) (c := 4) (k := 2) (by decide +kernel) (by decide +kernel) (by decide +kernel) e152 rfl ?_
    refine xe_alr (ins := .aload_n 0) (len := 1) (i := 0) (by decide +kernel) rfl rfl rfl rfl rfl ?_
    obtain ⟨v153, e154, h⟩ := xbnd h
    refine xs_gi (i := 159) (c := 4) (k := 2) (by decide +kernel) (by decide) (by decide +kernel) e154 rfl ?_
    refine xe_iconst (n := -1) (by decide +kernel) rfl ?_
    refine xe_icmpeq (off := 5) (t := 36) (by decide +kernel) (by decide) rfl (xq_gi_in e154) (show xin (-1) by decide) (fun c155 => ?_) (fun c155 => ?_)
    · rw [if_pos c155] at h
      refine xe_alr (ins := .aload_n 0) (len := 1) (i := 0) (by decide +kernel) rfl rfl rfl rfl rfl ?_
      refine xe_alr (ins := .aload_n 0) (len := 1) (i := 0) (by decide +kernel) rfl rfl rfl rfl rfl ?_
      obtain ⟨_, e157, h⟩ := xbnd h
      obtain ⟨R158, e156, h⟩ := xbnd h
      refine xs_cv (i := 311) (j := 67) (ar := []) (rest := [xR_ (a0)]) (r2 := xr_67) (by decide +kernel) (by decide +kernel) (by decide +kernel) xr_67_e rfl (by decide) (by simp only [List.map_cons, List.map_nil, List.sum_cons, List.sum_nil, xR_cat, xI_cat, xZ_cat]; decide) e157 ?_
      refine xc_i (k67 (d := d + 3)   e156) rfl (fun hi159 => ?_)
      obtain ⟨M160, e161, h⟩ := xbnd h
      refine xs_p (i := 159) (c := 4) (k := 2) (by decide +kernel) (by decide +kernel) (by decide +kernel) e161 rfl ?_
      refine xe_alr (ins := .aload_n 0) (len := 1) (i := 0) (by decide +kernel) rfl rfl rfl rfl rfl ?_
      obtain ⟨v162, e163, h⟩ := xbnd h
      refine xs_gi (i := 159) (c := 4) (k := 2) (by decide +kernel) (by decide) (by decide +kernel) e163 rfl ?_
      refine xe_iconst (n := -1) (by decide +kernel) rfl ?_
      refine xe_icmpeq (off := 5) (t := 54) (by decide +kernel) (by decide) rfl (xq_gi_in e163) (show xin (-1) by decide) (fun c164 => ?_) (fun c164 => ?_)
      · rw [if_pos c164] at h
        refine xe_iconst (n := 0) (by decide +kernel) rfl ?_
        refine xe_isr (ins := .istore_n 1) (len := 1) (i := 1) (by decide +kernel) rfl rfl rfl (by decide) (xk_k (show ¬ (0 : Nat) = 1 by decide) (Or.inr (xR_cat _)) xk_n) rfl ?_
        refine xW_lv rfl (l := [(0, xR_ (a0)), (1, xI (0))]) (xsb_of ⟨rfl, rfl, trivial⟩ (show [1, 0].Nodup by decide)) ?_
        exact k62_56   (show xin (0) by decide) h
      · rw [if_neg c164] at h
        refine xe_iconst (n := 3) (by decide +kernel) rfl ?_
        cases h
        exact xe_ret_i (ty := .int) (by decide +kernel) rfl rfl ⟨rfl, rfl, (show xin (3) by decide)⟩
    · rw [if_neg c155] at h
      refine xe_iconst (n := 2) (by decide +kernel) rfl ?_
      cases h
      exact xe_ret_i (ty := .int) (by decide +kernel) rfl rfl ⟨rfl, rfl, (show xin (2) by decide)⟩
  · rw [if_neg c146] at h
    refine xe_iconst (n := 1) (by decide +kernel) rfl ?_
    cases h
    exact xe_ret_i (ty := .int) (by decide +kernel) rfl rfl ⟨rfl, rfl, (show xin (1) by decide)⟩
-- ChangeHouse$Rule.finish
def xr_88 : xj_mR := (6, yX6_finish, cX6_finish, 4, (Option.none : Option Jvm.ClassFile.FieldType), 3, false, (5, 138), (1, 26))
set_option maxRecDepth 20000 in
theorem xr_88_e : xj_row 88 = some xr_88 := rfl
def f88  (f : Nat) (a0 : Nat) (a1 : Nat) (a2 : Nat) (a3 : Int) (M : xj_M) : Option (xj_M) := ((f383  f (a1) (a3) M).bind fun R102 => ((xq_pr 6 16 (a0) (R102.1) R102.2).bind fun M104 => ((f384  f (a2) (a3) M104).bind fun R107 => ((xq_pr 6 17 (a0) (R107.1) R107.2).bind fun M109 => ((xq_is 6 (a0) M109).bind fun _ => ((f96  f (a0) M109).bind fun M113 => (some M113)))))))
theorem k88 {d f : Nat}   {a0 : Nat} {a1 : Nat} {a2 : Nat} {a3 : Int} {M : xj_M} {R : xj_M} (ha3 : xin a3) (h : f88  f a0 a1 a2 a3 M = some R) : xT (d + 5) 88 [xR_ a0, xR_ a1, xR_ a2, xI a3] M (xQv R) := by
  refine xT_m xr_88_e (X := (none, d + 4, none)) rfl (xa_1 (xR_cat _) (xa_1 (xR_cat _) (xa_1 (xR_cat _) (xa_1 (xI_cat _) xa_n)))) (by decide) ?_
  unfold f88 at h
  refine xe_alr (ins := .aload_n 0) (len := 1) (i := 0) (by decide +kernel) rfl rfl rfl rfl rfl ?_
  refine xe_alr (ins := .aload_n 1) (len := 1) (i := 1) (by decide +kernel) rfl rfl rfl rfl rfl ?_
  refine xe_ldn (ins := .iload_n 3) (len := 1) (by decide +kernel) rfl rfl rfl rfl ?_
  obtain ⟨R102, e101, h⟩ := xbnd h
  refine xs_cs (kd := 2) (by decide) (i := 50) (j := 383) (ar := [xI (a3), xR_ (a1)]) (rest := [xR_ (a0)]) (r2 := xr_383) (by decide +kernel) (by decide +kernel) (by decide +kernel) xr_383_e rfl (by simp only [List.map_cons, List.map_nil, List.sum_cons, List.sum_nil, xR_cat, xI_cat, xZ_cat]; decide) ?_
  refine xc_r (k383 (d := d + 3)  ha3 e101) rfl ?_
  obtain ⟨M104, e105, h⟩ := xbnd h
  refine xs_p (i := 56) (c := 6) (k := 16) (by decide +kernel) (by decide +kernel) (by decide +kernel) e105 rfl ?_
  refine xe_alr (ins := .aload_n 0) (len := 1) (i := 0) (by decide +kernel) rfl rfl rfl rfl rfl ?_
  refine xe_alr (ins := .aload_n 2) (len := 1) (i := 2) (by decide +kernel) rfl rfl rfl rfl rfl ?_
  refine xe_ldn (ins := .iload_n 3) (len := 1) (by decide +kernel) rfl rfl rfl rfl ?_
  obtain ⟨R107, e106, h⟩ := xbnd h
  refine xs_cs (kd := 2) (by decide) (i := 59) (j := 384) (ar := [xI (a3), xR_ (a2)]) (rest := [xR_ (a0)]) (r2 := xr_384) (by decide +kernel) (by decide +kernel) (by decide +kernel) xr_384_e rfl (by simp only [List.map_cons, List.map_nil, List.sum_cons, List.sum_nil, xR_cat, xI_cat, xZ_cat]; decide) ?_
  refine xc_r (k384 (d := d + 3)  ha3 e106) rfl ?_
  obtain ⟨M109, e110, h⟩ := xbnd h
  refine xs_p (i := 62) (c := 6) (k := 17) (by decide +kernel) (by decide +kernel) (by decide +kernel) e110 rfl ?_
  refine xe_alr (ins := .aload_n 0) (len := 1) (i := 0) (by decide +kernel) rfl rfl rfl rfl rfl ?_
  obtain ⟨_, e112, h⟩ := xbnd h
  obtain ⟨M113, e111, h⟩ := xbnd h
  refine xs_cv (i := 65) (j := 96) (ar := []) (rest := []) (r2 := xr_96) (by decide +kernel) (by decide +kernel) (by decide +kernel) xr_96_e rfl (by decide) (by decide) e112 ?_
  refine xc_v (k96 (d := d + 0)   e111) rfl ?_
  cases h
  exact xe_ret_v (by decide +kernel) rfl ⟨rfl, rfl⟩
-- ChangeHouse$Sheet.operand
def xr_106 : xj_mR := (7, yX7_operand, cX7_operand, 7, (Option.some Jvm.ClassFile.FieldType.long), 3, false, (7, 90), (1, 7))
set_option maxRecDepth 20000 in
theorem xr_106_e : xj_row 106 = some xr_106 := rfl
def f106_36   (f : Nat) (y0 : Int) (M : xj_M) : Option (Int × xj_M) := (some (y0, M))
theorem k106_36 {d f : Nat}     {y0 : Int} {M : xj_M} {R : Int × xj_M} (hy0 : xiN y0) (h : f106_36   f y0 M = some R) : xW (d + 2) (none, d + 2, none) xr_106 (36, [], [xZ y0], M) (xQl R) := by
  unfold f106_36 at h
  cases h
  exact xe_ret_l (by decide +kernel) rfl ⟨rfl, rfl, hy0⟩
def f106_58   (f : Nat) (x3 : Int) (y0 : Int) (y1 : Nat) (M : xj_M) : Option (Int × xj_M) := ((xq_is 7 (y1) M).bind fun _ => ((f107  f (y1) (y0) (xrem (xwr (x3)) (72)) (xdiv (xwr (x3)) (72)) M).bind fun R105 => (some (R105.1, R105.2))))
theorem k106_58 {d f : Nat}     {x3 : Int} {y0 : Int} {y1 : Nat} {M : xj_M} {R : Int × xj_M} (hx3 : xiN x3) (hy0 : xin y0) (h : f106_58   f x3 y0 y1 M = some R) : xW (d + 2) (none, d + 2, none) xr_106 (58, [(3, xZ x3)], [xI y0, xR_ y1], M) (xQl R) := by
  unfold f106_58 at h
  refine xe_ldn (ins := .lload_n 3) (len := 1) (by decide +kernel) rfl rfl rfl rfl ?_
  refine xe_l2i (by decide +kernel) rfl ?_
  refine xe_bipush (n := 72) (by decide +kernel) (by decide) rfl ?_
  refine xe_irem (by decide +kernel) rfl (show xin (72) by decide) (by decide) ?_
  refine xe_ldn (ins := .lload_n 3) (len := 1) (by decide +kernel) rfl rfl rfl rfl ?_
  refine xe_l2i (by decide +kernel) rfl ?_
  refine xe_bipush (n := 72) (by decide +kernel) (by decide) rfl ?_
  refine xe_idiv (by decide +kernel) rfl (show xin (72) by decide) (by decide) ?_
  obtain ⟨_, e104, h⟩ := xbnd h
  obtain ⟨R105, e103, h⟩ := xbnd h
  refine xs_cv (i := 137) (j := 107) (ar := [xI (xdiv (xwr (x3)) (72)), xI (xrem (xwr (x3)) (72)), xI (y0)]) (rest := []) (r2 := xr_107) (by decide +kernel) (by decide +kernel) (by decide +kernel) xr_107_e rfl (by decide) (by decide) e104 ?_
  refine xc_l (k107 (d := d + 0)  hy0 (xin_of _) (xin_of _) e103) rfl (fun hi106 => ?_)
  cases h
  exact xe_ret_l (by decide +kernel) rfl ⟨rfl, rfl, hi106⟩
def f106_47   (f : Nat) (x0 : Nat) (x1 : Int) (x3 : Int) (M : xj_M) : Option (Int × xj_M) := (if ¬ (x1) = (3) then f106_58   f (x3) (0) (x0) M else f106_58   f (x3) (1) (x0) M)
theorem k106_47 {d f : Nat}     {x0 : Nat} {x1 : Int} {x3 : Int} {M : xj_M} {R : Int × xj_M} (hx1 : xin x1) (hx3 : xiN x3) (h : f106_47   f x0 x1 x3 M = some R) : xW (d + 2) (none, d + 2, none) xr_106 (47, [(0, xR_ x0), (1, xI x1), (3, xZ x3)], [], M) (xQl R) := by
  unfold f106_47 at h
  refine xe_alr (ins := .aload_n 0) (len := 1) (i := 0) (by decide +kernel) rfl rfl rfl rfl rfl ?_
  refine xe_ldn (ins := .iload_n 1) (len := 1) (by decide +kernel) rfl rfl rfl rfl ?_
  refine xe_iconst (n := 3) (by decide +kernel) rfl ?_
  refine xe_icmpne (off := 7) (t := 57) (by decide +kernel) (by decide) rfl hx1 (show xin (3) by decide) (fun c107 => ?_) (fun c107 => ?_)
  · rw [if_pos c107] at h
    refine xe_iconst (n := 0) (by decide +kernel) rfl ?_
    refine xW_lv rfl (l := [(3, xZ (x3))]) (xsb_of ⟨rfl, trivial⟩ (show [0, 1, 3].Nodup by decide)) ?_
    exact k106_58   hx3 (show xin (0) by decide) h
  · rw [if_neg c107] at h
    refine xe_iconst (n := 1) (by decide +kernel) rfl ?_
    refine xe_goto (off := 4) (nx := 58) (by decide +kernel) (by decide) ?_
    refine xW_lv rfl (l := [(3, xZ (x3))]) (xsb_of ⟨rfl, trivial⟩ (show [0, 1, 3].Nodup by decide)) ?_
    exact k106_58   hx3 (show xin (1) by decide) h
def f106  (f : Nat) (a0 : Nat) (a1 : Int) (a2 : Int) (a3 : Int) (M : xj_M) : Option (Int × xj_M) := (if ¬ (a1) = (1) then (if ¬ (a1) = (2) then (if (a1) = (3) then f106_47   f (a0) (a1) (a3) M else (if ¬ (a1) = (4) then ((xq_is 7 (a0) M).bind fun _ => ((f109  f (a0) (a1) (xwr ((a2) - (1))) (a3) M).bind fun R114 => (some (R114.1, R114.2)))) else f106_47   f (a0) (a1) (a3) M)) else ((xq_gr 7 1 (a0) M).bind fun v116 => ((xq_al (v116) (xwr (a3)) M).bind fun v118 => (if ¬ (v118) = (9000000000000000000) then f106_36   f (v118) M else f106_36   f (0) M)))) else (some (a3, M)))
theorem k106 {d f : Nat}   {a0 : Nat} {a1 : Int} {a2 : Int} {a3 : Int} {M : xj_M} {R : Int × xj_M} (ha1 : xin a1) (ha2 : xin a2) (ha3 : xiN a3) (h : f106  f a0 a1 a2 a3 M = some R) : xT (d + 3) 106 [xR_ a0, xI a1, xI a2, xZ a3] M (xQl R) := by
  refine xT_m xr_106_e (X := (none, d + 2, none)) rfl (xa_1 (xR_cat _) (xa_1 (xI_cat _) (xa_1 (xI_cat _) (xa_2 (xZ_cat _) xa_n)))) (by decide) ?_
  unfold f106 at h
  refine xe_ldn (ins := .iload_n 1) (len := 1) (by decide +kernel) rfl rfl rfl rfl ?_
  refine xe_iconst (n := 1) (by decide +kernel) rfl ?_
  refine xe_icmpne (off := 5) (t := 7) (by decide +kernel) (by decide) rfl ha1 (show xin (1) by decide) (fun c108 => ?_) (fun c108 => ?_)
  · rw [if_pos c108] at h
    refine xe_ldn (ins := .iload_n 1) (len := 1) (by decide +kernel) rfl rfl rfl rfl ?_
    refine xe_iconst (n := 2) (by decide +kernel) rfl ?_
    refine xe_icmpne (off := 28) (t := 37) (by decide +kernel) (by decide) rfl ha1 (show xin (2) by decide) (fun c109 => ?_) (fun c109 => ?_)
    · rw [if_pos c109] at h
      refine xe_ldn (ins := .iload_n 1) (len := 1) (by decide +kernel) rfl rfl rfl rfl ?_
      refine xe_iconst (n := 3) (by decide +kernel) rfl ?_
      refine xe_icmpeq (off := 8) (t := 47) (by decide +kernel) (by decide) rfl ha1 (show xin (3) by decide) (fun c110 => ?_) (fun c110 => ?_)
      · rw [if_pos c110] at h
        refine xW_lv rfl (l := [(0, xR_ (a0)), (1, xI (a1)), (3, xZ (a3))]) (xsb_of ⟨rfl, rfl, rfl, trivial⟩ (show [0, 1, 2, 3].Nodup by decide)) ?_
        exact k106_47   ha1 ha3 h
      · rw [if_neg c110] at h
        refine xe_ldn (ins := .iload_n 1) (len := 1) (by decide +kernel) rfl rfl rfl rfl ?_
        refine xe_iconst (n := 4) (by decide +kernel) rfl ?_
        refine xe_icmpne (off := 28) (t := 72) (by decide +kernel) (by decide) rfl ha1 (show xin (4) by decide) (fun c111 => ?_) (fun c111 => ?_)
        · rw [if_pos c111] at h
          refine xe_alr (ins := .aload_n 0) (len := 1) (i := 0) (by decide +kernel) rfl rfl rfl rfl rfl ?_
          refine xe_ldn (ins := .iload_n 1) (len := 1) (by decide +kernel) rfl rfl rfl rfl ?_
          refine xe_ldn (ins := .iload_n 2) (len := 1) (by decide +kernel) rfl rfl rfl rfl ?_
          refine xe_iconst (n := 1) (by decide +kernel) rfl ?_
          refine xe_isub (by decide +kernel) rfl ?_
          refine xe_ldn (ins := .lload_n 3) (len := 1) (by decide +kernel) rfl rfl rfl rfl ?_
          obtain ⟨_, e113, h⟩ := xbnd h
          obtain ⟨R114, e112, h⟩ := xbnd h
          refine xs_cv (i := 141) (j := 109) (ar := [xZ (a3), xI (xwr ((a2) - (1))), xI (a1)]) (rest := []) (r2 := xr_109) (by decide +kernel) (by decide +kernel) (by decide +kernel) xr_109_e rfl (by decide) (by decide) e113 ?_
          refine xc_l (k109 (d := d + 0)  ha1 (xin_wr _) ha3 e112) rfl (fun hi115 => ?_)
          cases h
          exact xe_ret_l (by decide +kernel) rfl ⟨rfl, rfl, hi115⟩
        · rw [if_neg c111] at h
          refine xW_lv rfl (l := [(0, xR_ (a0)), (1, xI (a1)), (3, xZ (a3))]) (xsb_of ⟨rfl, rfl, rfl, trivial⟩ (show [0, 1, 2, 3].Nodup by decide)) ?_
          exact k106_47   ha1 ha3 h
    · rw [if_neg c109] at h
      refine xe_alr (ins := .aload_n 0) (len := 1) (i := 0) (by decide +kernel) rfl rfl rfl rfl rfl ?_
      obtain ⟨v116, e117, h⟩ := xbnd h
      refine xs_gr (i := 55) (c := 7) (k := 1) (by decide +kernel) (by decide) (by decide +kernel) e117 rfl ?_
      refine xe_ldn (ins := .lload_n 3) (len := 1) (by decide +kernel) rfl rfl rfl rfl ?_
      refine xe_l2i (by decide +kernel) rfl ?_
      obtain ⟨v118, e119, h⟩ := xbnd h
      refine xs_lald (by decide +kernel) (xin_wr _) e119 rfl ?_
      refine xe_lsr (ins := .lstore 5) (len := 2) (i := 5) (by decide +kernel) rfl rfl rfl (by decide) (xk2_k (show ¬ (0 : Nat) = 5 by decide) (show ¬ (0 : Nat) = 5 + 1 by decide) (Or.inl (show ¬ (0 + 1 : Nat) = 5 by decide)) (xk2_k (show ¬ (1 : Nat) = 5 by decide) (show ¬ (1 : Nat) = 5 + 1 by decide) (Or.inl (show ¬ (1 + 1 : Nat) = 5 by decide)) (xk2_k (show ¬ (2 : Nat) = 5 by decide) (show ¬ (2 : Nat) = 5 + 1 by decide) (Or.inl (show ¬ (2 + 1 : Nat) = 5 by decide)) (xk2_k (show ¬ (3 : Nat) = 5 by decide) (show ¬ (3 : Nat) = 5 + 1 by decide) (Or.inl (show ¬ (3 + 1 : Nat) = 5 by decide)) xk2_n)))) rfl ?_
      refine xe_ldn (ins := .lload 5) (len := 2) (by decide +kernel) rfl rfl rfl rfl ?_
      refine xe_ldc2 (i := 85) (n := 9000000000000000000) (by decide +kernel) (by decide +kernel) rfl ?_
      refine xe_lcmp (by decide +kernel) rfl (xq_al_in e119) (show xiN (9000000000000000000) by decide) ?_
      refine xe_ifne (off := 7) (t := 34) (by decide +kernel) (by decide) rfl (xin_cmp8 _ _) (fun c120 => ?_) (fun c120 => ?_)
      · have c120 := xcmp8_ne.mp c120; rw [if_pos c120] at h
        refine xe_ldn (ins := .lload 5) (len := 2) (by decide +kernel) rfl rfl rfl rfl ?_
        refine xW_lv rfl (l := []) (xsb_of trivial (show [5, 0, 1, 2, 3].Nodup by decide)) ?_
        exact k106_36   (xq_al_in e119) h
      · have c120 := (not_congr xcmp8_ne).mp c120; rw [if_neg c120] at h
        refine xe_lconst (n := 0) (z := 0) (by decide +kernel) rfl rfl ?_
        refine xe_goto (off := 5) (nx := 36) (by decide +kernel) (by decide) ?_
        refine xW_lv rfl (l := []) (xsb_of trivial (show [5, 0, 1, 2, 3].Nodup by decide)) ?_
        exact k106_36   (show xiN (0) by decide) h
  · rw [if_neg c108] at h
    refine xe_ldn (ins := .lload_n 3) (len := 1) (by decide +kernel) rfl rfl rfl rfl ?_
    cases h
    exact xe_ret_l (by decide +kernel) rfl ⟨rfl, rfl, ha3⟩
-- ChangeHouse$Tape.spells
def xr_116 : xj_mR := (8, yX8_spells, cX8_spells, 5, (Option.some Jvm.ClassFile.FieldType.boolean), 3, false, (3, 154), (1, 2))
set_option maxRecDepth 20000 in
theorem xr_116_e : xj_row 116 = some xr_116 := rfl
def f116_15b  (r15 : Nat → Int → Nat → Int → xj_M → Option (Int × xj_M)) (f : Nat) (x0 : Nat) (x1 : Int) (x3 : Nat) (x4 : Int) (M : xj_M) : Option (Int × xj_M) := ((xq_st (x3)).bind fun _ => ((f385  f (x3) M).bind fun R103 => (if (R103.1) ≤ (x4) then (some (1, R103.2)) else ((xq_gr 8 0 (x0) R103.2).bind fun v106 => ((xq_ai 2 (v106) (xwr ((x1) + (x4))) R103.2).bind fun v108 => ((xq_st (x3)).bind fun _ => ((f386  f (x3) (x4) R103.2).bind fun R112 => (if (v108) = (R112.1) then r15 (x0) (x1) (x3) (xwr ((x4) + (1))) R112.2 else (some (0, R112.2))))))))))
theorem k116_15b {d f : Nat}  {r15 : Nat → Int → Nat → Int → xj_M → Option (Int × xj_M)}  (hr15 : ∀ {x0 : Nat} {x1 : Int} {x3 : Nat} {x4 : Int} {M : xj_M} {R : Int × xj_M}, xin x1 → xin x4 → r15 x0 x1 x3 x4 M = some R → xW (d + 4) (none, d + 4, none) xr_116 (15, [(0, xR_ x0), (1, xI x1), (3, xR_ x3), (4, xI x4)], [], M) (xQi R)) {x0 : Nat} {x1 : Int} {x3 : Nat} {x4 : Int} {M : xj_M} {R : Int × xj_M} (hx1 : xin x1) (hx4 : xin x4) (h : f116_15b  r15 f x0 x1 x3 x4 M = some R) : xW (d + 4) (none, d + 4, none) xr_116 (15, [(0, xR_ x0), (1, xI x1), (3, xR_ x3), (4, xI x4)], [], M) (xQi R) := by
  unfold f116_15b at h
  refine xe_ldn (ins := .iload 4) (len := 2) (by decide +kernel) rfl rfl rfl rfl ?_
  refine xe_alr (ins := .aload_n 3) (len := 1) (i := 3) (by decide +kernel) rfl rfl rfl rfl rfl ?_
  obtain ⟨_, e102, h⟩ := xbnd h
  obtain ⟨R103, e101, h⟩ := xbnd h
  refine xs_cw (i := 99) (j := 385) (ar := []) (rest := [xI (x4)]) (r2 := xr_385) (by decide +kernel) (by decide +kernel) (by decide +kernel) xr_385_e rfl (by simp only [List.map_cons, List.map_nil, List.sum_cons, List.sum_nil, xR_cat, xI_cat, xZ_cat]; decide) e102 ?_
  refine xc_i (k385 (d := d + 2)   e101) rfl (fun hi104 => ?_)
  refine xe_icmpge (off := 29) (t := 50) (by decide +kernel) (by decide) rfl hx4 hi104 (fun c105 => ?_) (fun c105 => ?_)
  · rw [if_pos c105] at h
    refine xe_iconst (n := 1) (by decide +kernel) rfl ?_
    cases h
    exact xe_ret_i (ty := .boolean) (by decide +kernel) rfl (by decide) ⟨rfl, rfl, (show xin (1) by decide)⟩
  · rw [if_neg c105] at h
    refine xe_alr (ins := .aload_n 0) (len := 1) (i := 0) (by decide +kernel) rfl rfl rfl rfl rfl ?_
    obtain ⟨v106, e107, h⟩ := xbnd h
    refine xs_gr (i := 9) (c := 8) (k := 0) (by decide +kernel) (by decide) (by decide +kernel) e107 rfl ?_
    refine xe_ldn (ins := .iload_n 1) (len := 1) (by decide +kernel) rfl rfl rfl rfl ?_
    refine xe_ldn (ins := .iload 4) (len := 2) (by decide +kernel) rfl rfl rfl rfl ?_
    refine xe_iadd (by decide +kernel) rfl ?_
    obtain ⟨v108, e109, h⟩ := xbnd h
    refine xs_cald (by decide +kernel) (xin_wr _) e109 rfl ?_
    refine xe_alr (ins := .aload_n 3) (len := 1) (i := 3) (by decide +kernel) rfl rfl rfl rfl rfl ?_
    refine xe_ldn (ins := .iload 4) (len := 2) (by decide +kernel) rfl rfl rfl rfl ?_
    obtain ⟨_, e111, h⟩ := xbnd h
    obtain ⟨R112, e110, h⟩ := xbnd h
    refine xs_cw (i := 105) (j := 386) (ar := [xI (x4)]) (rest := [xI (v108)]) (r2 := xr_386) (by decide +kernel) (by decide +kernel) (by decide +kernel) xr_386_e rfl (by simp only [List.map_cons, List.map_nil, List.sum_cons, List.sum_nil, xR_cat, xI_cat, xZ_cat]; decide) e111 ?_
    refine xc_i (k386 (d := d + 0)  hx4 e110) rfl (fun hi113 => ?_)
    refine xe_icmpeq (off := 5) (t := 44) (by decide +kernel) (by decide) rfl (xq_ai_in e109) hi113 (fun c114 => ?_) (fun c114 => ?_)
    · rw [if_pos c114] at h
      refine xe_iincr (i := 4) (n := 1) (by decide +kernel) (by decide) rfl (xk_k (show ¬ (0 : Nat) = 4 by decide) (Or.inl (show ¬ (0 + 1 : Nat) = 4 by decide)) (xk_k (show ¬ (1 : Nat) = 4 by decide) (Or.inl (show ¬ (1 + 1 : Nat) = 4 by decide)) (xk_k (show ¬ (3 : Nat) = 4 by decide) (Or.inr (xR_cat _)) (xk_d rfl xk_n)))) rfl ?_
      refine xe_goto (off := -32) (nx := 15) (by decide +kernel) (by decide) ?_
      refine xW_lv rfl (l := [(0, xR_ (x0)), (1, xI (x1)), (3, xR_ (x3)), (4, xI (xwr ((x4) + (1))))]) (xsb_of ⟨rfl, rfl, rfl, rfl, trivial⟩ (show [4, 0, 1, 3].Nodup by decide)) ?_
      exact hr15 hx1 (xin_wr _) h
    · rw [if_neg c114] at h
      refine xe_iconst (n := 0) (by decide +kernel) rfl ?_
      cases h
      exact xe_ret_i (ty := .boolean) (by decide +kernel) rfl (by decide) ⟨rfl, rfl, (show xin (0) by decide)⟩
def f116_15   (f : Nat) : Nat → Nat → Int → Nat → Int → xj_M → Option (Int × xj_M)
  | 0, _, _, _, _, _ => none
  | n + 1, x0, x1, x3, x4, M => f116_15b   (f116_15   f n) f x0 x1 x3 x4 M
theorem k116_15 {d f : Nat}     : ∀ {n : Nat} {x0 : Nat} {x1 : Int} {x3 : Nat} {x4 : Int} {M : xj_M} {R : Int × xj_M}, xin x1 → xin x4 → f116_15   f n x0 x1 x3 x4 M = some R → xW (d + 4) (none, d + 4, none) xr_116 (15, [(0, xR_ x0), (1, xI x1), (3, xR_ x3), (4, xI x4)], [], M) (xQi R) := by
  intro n
  induction n with
  | zero => intros; rename_i h; cases h
  | succ n ih => intros; rename_i h; exact k116_15b   ih (by assumption) (by assumption) h
def f116  (f : Nat) (a0 : Nat) (a1 : Int) (a2 : Int) (a3 : Nat) (M : xj_M) : Option (Int × xj_M) := ((xq_st (a3)).bind fun _ => ((f385  f (a3) M).bind fun R117 => (if (xwr ((a2) - (a1))) = (R117.1) then f116_15   f f (a0) (a1) (a3) (0) R117.2 else (some (0, R117.2)))))
theorem k116 {d f : Nat}   {a0 : Nat} {a1 : Int} {a2 : Int} {a3 : Nat} {M : xj_M} {R : Int × xj_M} (ha1 : xin a1) (ha2 : xin a2) (h : f116  f a0 a1 a2 a3 M = some R) : xT (d + 5) 116 [xR_ a0, xI a1, xI a2, xR_ a3] M (xQi R) := by
  refine xT_m xr_116_e (X := (none, d + 4, none)) rfl (xa_1 (xR_cat _) (xa_1 (xI_cat _) (xa_1 (xI_cat _) (xa_1 (xR_cat _) xa_n)))) (by decide) ?_
  unfold f116 at h
  refine xe_ldn (ins := .iload_n 2) (len := 1) (by decide +kernel) rfl rfl rfl rfl ?_
  refine xe_ldn (ins := .iload_n 1) (len := 1) (by decide +kernel) rfl rfl rfl rfl ?_
  refine xe_isub (by decide +kernel) rfl ?_
  refine xe_alr (ins := .aload_n 3) (len := 1) (i := 3) (by decide +kernel) rfl rfl rfl rfl rfl ?_
  obtain ⟨_, e116, h⟩ := xbnd h
  obtain ⟨R117, e115, h⟩ := xbnd h
  refine xs_cw (i := 99) (j := 385) (ar := []) (rest := [xI (xwr ((a2) - (a1)))]) (r2 := xr_385) (by decide +kernel) (by decide +kernel) (by decide +kernel) xr_385_e rfl (by simp only [List.map_cons, List.map_nil, List.sum_cons, List.sum_nil, xR_cat, xI_cat, xZ_cat]; decide) e116 ?_
  refine xc_i (k385 (d := d + 2)   e115) rfl (fun hi118 => ?_)
  refine xe_icmpeq (off := 5) (t := 12) (by decide +kernel) (by decide) rfl (xin_wr _) hi118 (fun c119 => ?_) (fun c119 => ?_)
  · rw [if_pos c119] at h
    refine xe_iconst (n := 0) (by decide +kernel) rfl ?_
    refine xe_isr (ins := .istore 4) (len := 2) (i := 4) (by decide +kernel) rfl rfl rfl (by decide) (xk_k (show ¬ (0 : Nat) = 4 by decide) (Or.inl (show ¬ (0 + 1 : Nat) = 4 by decide)) (xk_k (show ¬ (1 : Nat) = 4 by decide) (Or.inl (show ¬ (1 + 1 : Nat) = 4 by decide)) (xk_k (show ¬ (2 : Nat) = 4 by decide) (Or.inl (show ¬ (2 + 1 : Nat) = 4 by decide)) (xk_k (show ¬ (3 : Nat) = 4 by decide) (Or.inr (xR_cat _)) xk_n)))) rfl ?_
    refine xW_lv rfl (l := [(0, xR_ (a0)), (1, xI (a1)), (3, xR_ (a3)), (4, xI (0))]) (xsb_of ⟨rfl, rfl, rfl, rfl, trivial⟩ (show [4, 0, 1, 2, 3].Nodup by decide)) ?_
    exact k116_15   ha1 (show xin (0) by decide) h
  · rw [if_neg c119] at h
    refine xe_iconst (n := 0) (by decide +kernel) rfl ?_
    cases h
    exact xe_ret_i (ty := .boolean) (by decide +kernel) rfl (by decide) ⟨rfl, rfl, (show xin (0) by decide)⟩
-- ChangeHouse$Tape.isIf
def xr_125 : xj_mR := (8, yX8_isIf, cX8_isIf, 2, (Option.some Jvm.ClassFile.FieldType.boolean), 1, false, (5, 68), (1, 2))
set_option maxRecDepth 20000 in
theorem xr_125_e : xj_row 125 = some xr_125 := rfl
def f125_36   (f : Nat) (y0 : Int) (M : xj_M) : Option (Int × xj_M) := (if (y0) = 0 ∨ (y0) = 1 then some (y0, M) else none)
theorem k125_36 {d f : Nat}     {y0 : Int} {M : xj_M} {R : Int × xj_M} (hy0 : xin y0) (h : f125_36   f y0 M = some R) : xW (d + 5) (none, d + 5, none) xr_125 (36, [], [xI y0], M) (xQi R) := by
  unfold f125_36 at h
  by_cases c101 : (y0) = 0 ∨ (y0) = 1
  · rw [if_pos c101] at h; cases h; exact xe_ret_i (ty := .boolean) (by decide +kernel) rfl (xbool c101) ⟨rfl, rfl, hy0⟩
  · rw [if_neg c101] at h; cases h
def f125_35   (f : Nat)  (M : xj_M) : Option (Int × xj_M) := f125_36   f (0) M
theorem k125_35 {d f : Nat}      {M : xj_M} {R : Int × xj_M}  (h : f125_35   f  M = some R) : xW (d + 5) (none, d + 5, none) xr_125 (35, [], [], M) (xQi R) := by
  unfold f125_35 at h
  refine xe_iconst (n := 0) (by decide +kernel) rfl ?_
  refine xW_lv rfl (l := []) (xsb_of trivial (show [].Nodup by decide)) ?_
  exact k125_36   (show xin (0) by decide) h
def f125  (f : Nat) (a0 : Nat) (a1 : Int) (M : xj_M) : Option (Int × xj_M) := ((xq_gr 8 3 (a0) M).bind fun v102 => ((xq_ai 3 (v102) (a1) M).bind fun v104 => (if ¬ (v104) = (1) then f125_35   f  M else ((xq_gr 8 4 (a0) M).bind fun v107 => ((xq_ai 3 (v107) (a1) M).bind fun v109 => ((xq_gr 8 5 (a0) M).bind fun v111 => ((xq_ai 3 (v111) (a1) M).bind fun v113 => ((xq_is 8 (a0) M).bind fun _ => ((f116  f (a0) (v109) (v113) (10) M).bind fun R117 => (if (R117.1) = 0 then f125_35   f  R117.2 else f125_36   f (1) R117.2))))))))))
theorem k125 {d f : Nat}   {a0 : Nat} {a1 : Int} {M : xj_M} {R : Int × xj_M} (ha1 : xin a1) (h : f125  f a0 a1 M = some R) : xT (d + 6) 125 [xR_ a0, xI a1] M (xQi R) := by
  refine xT_m xr_125_e (X := (none, d + 5, none)) rfl (xa_1 (xR_cat _) (xa_1 (xI_cat _) xa_n)) (by decide) ?_
  unfold f125 at h
  refine xe_alr (ins := .aload_n 0) (len := 1) (i := 0) (by decide +kernel) rfl rfl rfl rfl rfl ?_
  obtain ⟨v102, e103, h⟩ := xbnd h
  refine xs_gr (i := 15) (c := 8) (k := 3) (by decide +kernel) (by decide) (by decide +kernel) e103 rfl ?_
  refine xe_ldn (ins := .iload_n 1) (len := 1) (by decide +kernel) rfl rfl rfl rfl ?_
  obtain ⟨v104, e105, h⟩ := xbnd h
  refine xs_iald rfl (by decide +kernel) ha1 e105 rfl ?_
  refine xe_iconst (n := 1) (by decide +kernel) rfl ?_
  refine xe_icmpne (off := 28) (t := 35) (by decide +kernel) (by decide) rfl (xq_ai_in e105) (show xin (1) by decide) (fun c106 => ?_) (fun c106 => ?_)
  · rw [if_pos c106] at h
    refine xW_lv rfl (l := []) (xsb_of trivial (show [0, 1].Nodup by decide)) ?_
    exact k125_35    h
  · rw [if_neg c106] at h
    refine xe_alr (ins := .aload_n 0) (len := 1) (i := 0) (by decide +kernel) rfl rfl rfl rfl rfl ?_
    refine xe_alr (ins := .aload_n 0) (len := 1) (i := 0) (by decide +kernel) rfl rfl rfl rfl rfl ?_
    obtain ⟨v107, e108, h⟩ := xbnd h
    refine xs_gr (i := 19) (c := 8) (k := 4) (by decide +kernel) (by decide) (by decide +kernel) e108 rfl ?_
    refine xe_ldn (ins := .iload_n 1) (len := 1) (by decide +kernel) rfl rfl rfl rfl ?_
    obtain ⟨v109, e110, h⟩ := xbnd h
    refine xs_iald rfl (by decide +kernel) ha1 e110 rfl ?_
    refine xe_alr (ins := .aload_n 0) (len := 1) (i := 0) (by decide +kernel) rfl rfl rfl rfl rfl ?_
    obtain ⟨v111, e112, h⟩ := xbnd h
    refine xs_gr (i := 22) (c := 8) (k := 5) (by decide +kernel) (by decide) (by decide +kernel) e112 rfl ?_
    refine xe_ldn (ins := .iload_n 1) (len := 1) (by decide +kernel) rfl rfl rfl rfl ?_
    obtain ⟨v113, e114, h⟩ := xbnd h
    refine xs_iald rfl (by decide +kernel) ha1 e114 rfl ?_
    refine xe_ldcs (x := 10) (by decide) (ins := .ldc 131) (len := 2) (by decide +kernel) rfl rfl rfl rfl rfl rfl rfl ?_
    obtain ⟨_, e116, h⟩ := xbnd h
    obtain ⟨R117, e115, h⟩ := xbnd h
    refine xs_cv (i := 81) (j := 116) (ar := [xR_ (10), xI (v113), xI (v109)]) (rest := []) (r2 := xr_116) (by decide +kernel) (by decide +kernel) (by decide +kernel) xr_116_e rfl (by decide) (by decide) e116 ?_
    refine xc_i (k116 (d := d + 0)  (xq_ai_in e110) (xq_ai_in e114) e115) rfl (fun hi118 => ?_)
    refine xe_ifeq (off := 7) (t := 35) (by decide +kernel) (by decide) rfl hi118 (fun c119 => ?_) (fun c119 => ?_)
    · rw [if_pos c119] at h
      refine xW_lv rfl (l := []) (xsb_of trivial (show [0, 1].Nodup by decide)) ?_
      exact k125_35    h
    · rw [if_neg c119] at h
      refine xe_iconst (n := 1) (by decide +kernel) rfl ?_
      refine xe_goto (off := 4) (nx := 36) (by decide +kernel) (by decide) ?_
      refine xW_lv rfl (l := []) (xsb_of trivial (show [0, 1].Nodup by decide)) ?_
      exact k125_36   (show xin (1) by decide) h
-- ChangeHouse$Ways.compares
def xr_139 : xj_mR := (9, yX9_compares, cX9_compares, 9, (Option.some Jvm.ClassFile.FieldType.boolean), 1, false, (6, 209), (1, 4))
set_option maxRecDepth 20000 in
theorem xr_139_e : xj_row 139 = some xr_139 := rfl
def f139_110   (f : Nat) (y0 : Int) (M : xj_M) : Option (Int × xj_M) := (if (y0) = 0 ∨ (y0) = 1 then some (y0, M) else none)
theorem k139_110 {d f : Nat}     {y0 : Int} {M : xj_M} {R : Int × xj_M} (hy0 : xin y0) (h : f139_110   f y0 M = some R) : xW (d + 2) (none, d + 2, none) xr_139 (110, [], [xI y0], M) (xQi R) := by
  unfold f139_110 at h
  by_cases c101 : (y0) = 0 ∨ (y0) = 1
  · rw [if_pos c101] at h; cases h; exact xe_ret_i (ty := .boolean) (by decide +kernel) rfl (xbool c101) ⟨rfl, rfl, hy0⟩
  · rw [if_neg c101] at h; cases h
def f139_143   (f : Nat)  (M : xj_M) : Option (Int × xj_M) := (some (0, M))
theorem k139_143 {d f : Nat}      {M : xj_M} {R : Int × xj_M}  (h : f139_143   f  M = some R) : xW (d + 2) (none, d + 2, none) xr_139 (143, [], [], M) (xQi R) := by
  unfold f139_143 at h
  refine xe_iconst (n := 0) (by decide +kernel) rfl ?_
  cases h
  exact xe_ret_i (ty := .boolean) (by decide +kernel) rfl (by decide) ⟨rfl, rfl, (show xin (0) by decide)⟩
def f139_275   (f : Nat) (y0 : Int) (M : xj_M) : Option (Int × xj_M) := (if (y0) = 0 ∨ (y0) = 1 then some (y0, M) else none)
theorem k139_275 {d f : Nat}     {y0 : Int} {M : xj_M} {R : Int × xj_M} (hy0 : xin y0) (h : f139_275   f y0 M = some R) : xW (d + 2) (none, d + 2, none) xr_139 (275, [], [xI y0], M) (xQi R) := by
  unfold f139_275 at h
  by_cases c102 : (y0) = 0 ∨ (y0) = 1
  · rw [if_pos c102] at h; cases h; exact xe_ret_i (ty := .boolean) (by decide +kernel) rfl (xbool c102) ⟨rfl, rfl, hy0⟩
  · rw [if_neg c102] at h; cases h
def f139_111   (f : Nat) (x0 : Nat) (x2 : Int) (x3 : Int) (x4 : Int) (M : xj_M) : Option (Int × xj_M) := ((xq_is 9 (x0) M).bind fun _ => ((f141  f (x0) (x2) M).bind fun R105 => ((xq_is 9 (x0) R105.2).bind fun _ => ((f141  f (x0) (x3) R105.2).bind fun R109 => (if (R105.1) < (-1000000000000) then f139_143   f  R109.2 else (if (-1000000000000) ≤ (R109.1) then (if ¬ (x4) = (61) then (if ¬ (x4) = (257) then (if ¬ (x4) = (60) then (if ¬ (x4) = (258) then (if ¬ (x4) = (62) then (if (R105.1) < (R109.1) then f139_275   f (0) R109.2 else f139_275   f (1) R109.2) else (if (R105.1) ≤ (R109.1) then f139_275   f (0) R109.2 else f139_275   f (1) R109.2)) else (if (R109.1) < (R105.1) then f139_275   f (0) R109.2 else f139_275   f (1) R109.2)) else (if (R109.1) ≤ (R105.1) then f139_275   f (0) R109.2 else f139_275   f (1) R109.2)) else (if (R105.1) = (R109.1) then f139_275   f (0) R109.2 else f139_275   f (1) R109.2)) else (if ¬ (R105.1) = (R109.1) then f139_275   f (0) R109.2 else f139_275   f (1) R109.2)) else f139_143   f  R109.2))))))
theorem k139_111 {d f : Nat}     {x0 : Nat} {x2 : Int} {x3 : Int} {x4 : Int} {M : xj_M} {R : Int × xj_M} (hx2 : xin x2) (hx3 : xin x3) (hx4 : xin x4) (h : f139_111   f x0 x2 x3 x4 M = some R) : xW (d + 2) (none, d + 2, none) xr_139 (111, [(0, xR_ x0), (2, xI x2), (3, xI x3), (4, xI x4)], [], M) (xQi R) := by
  unfold f139_111 at h
  refine xe_alr (ins := .aload_n 0) (len := 1) (i := 0) (by decide +kernel) rfl rfl rfl rfl rfl ?_
  refine xe_ldn (ins := .iload_n 2) (len := 1) (by decide +kernel) rfl rfl rfl rfl ?_
  obtain ⟨_, e104, h⟩ := xbnd h
  obtain ⟨R105, e103, h⟩ := xbnd h
  refine xs_cv (i := 135) (j := 141) (ar := [xI (x2)]) (rest := []) (r2 := xr_141) (by decide +kernel) (by decide +kernel) (by decide +kernel) xr_141_e rfl (by decide) (by decide) e104 ?_
  refine xc_l (k141 (d := d + 0)  hx2 e103) rfl (fun hi106 => ?_)
  refine xe_lsr (ins := .lstore 5) (len := 2) (i := 5) (by decide +kernel) rfl rfl rfl (by decide) (xk2_k (show ¬ (0 : Nat) = 5 by decide) (show ¬ (0 : Nat) = 5 + 1 by decide) (Or.inl (show ¬ (0 + 1 : Nat) = 5 by decide)) (xk2_k (show ¬ (2 : Nat) = 5 by decide) (show ¬ (2 : Nat) = 5 + 1 by decide) (Or.inl (show ¬ (2 + 1 : Nat) = 5 by decide)) (xk2_k (show ¬ (3 : Nat) = 5 by decide) (show ¬ (3 : Nat) = 5 + 1 by decide) (Or.inl (show ¬ (3 + 1 : Nat) = 5 by decide)) (xk2_k (show ¬ (4 : Nat) = 5 by decide) (show ¬ (4 : Nat) = 5 + 1 by decide) (Or.inr (xI_cat _)) xk2_n)))) rfl ?_
  refine xe_alr (ins := .aload_n 0) (len := 1) (i := 0) (by decide +kernel) rfl rfl rfl rfl rfl ?_
  refine xe_ldn (ins := .iload_n 3) (len := 1) (by decide +kernel) rfl rfl rfl rfl ?_
  obtain ⟨_, e108, h⟩ := xbnd h
  obtain ⟨R109, e107, h⟩ := xbnd h
  refine xs_cv (i := 135) (j := 141) (ar := [xI (x3)]) (rest := []) (r2 := xr_141) (by decide +kernel) (by decide +kernel) (by decide +kernel) xr_141_e rfl (by decide) (by decide) e108 ?_
  refine xc_l (k141 (d := d + 0)  hx3 e107) rfl (fun hi110 => ?_)
  refine xe_lsr (ins := .lstore 7) (len := 2) (i := 7) (by decide +kernel) rfl rfl rfl (by decide) (xk2_k (show ¬ (5 : Nat) = 7 by decide) (show ¬ (5 : Nat) = 7 + 1 by decide) (Or.inl (show ¬ (5 + 1 : Nat) = 7 by decide)) (xk2_k (show ¬ (0 : Nat) = 7 by decide) (show ¬ (0 : Nat) = 7 + 1 by decide) (Or.inl (show ¬ (0 + 1 : Nat) = 7 by decide)) (xk2_k (show ¬ (2 : Nat) = 7 by decide) (show ¬ (2 : Nat) = 7 + 1 by decide) (Or.inl (show ¬ (2 + 1 : Nat) = 7 by decide)) (xk2_k (show ¬ (3 : Nat) = 7 by decide) (show ¬ (3 : Nat) = 7 + 1 by decide) (Or.inl (show ¬ (3 + 1 : Nat) = 7 by decide)) (xk2_k (show ¬ (4 : Nat) = 7 by decide) (show ¬ (4 : Nat) = 7 + 1 by decide) (Or.inl (show ¬ (4 + 1 : Nat) = 7 by decide)) xk2_n))))) rfl ?_
  refine xe_ldn (ins := .lload 5) (len := 2) (by decide +kernel) rfl rfl rfl rfl ?_
  refine xe_ldc2 (i := 139) (n := -1000000000000) (by decide +kernel) (by decide +kernel) rfl ?_
  refine xe_lcmp (by decide +kernel) rfl hi106 (show xiN (-1000000000000) by decide) ?_
  refine xe_iflt (off := 12) (t := 143) (by decide +kernel) (by decide) rfl (xin_cmp8 _ _) (fun c111 => ?_) (fun c111 => ?_)
  · have c111 := xcmp8_lt.mp c111; rw [if_pos c111] at h
    refine xW_lv rfl (l := []) (xsb_of trivial (show [7, 5, 0, 2, 3, 4].Nodup by decide)) ?_
    exact k139_143    h
  · have c111 := (not_congr xcmp8_lt).mp c111; rw [if_neg c111] at h
    refine xe_ldn (ins := .lload 7) (len := 2) (by decide +kernel) rfl rfl rfl rfl ?_
    refine xe_ldc2 (i := 139) (n := -1000000000000) (by decide +kernel) (by decide +kernel) rfl ?_
    refine xe_lcmp (by decide +kernel) rfl hi110 (show xiN (-1000000000000) by decide) ?_
    refine xe_ifge (off := 5) (t := 145) (by decide +kernel) (by decide) rfl (xin_cmp8 _ _) (fun c112 => ?_) (fun c112 => ?_)
    · have c112 := xcmp8_ge.mp c112; rw [if_pos c112] at h
      refine xe_ldn (ins := .iload 4) (len := 2) (by decide +kernel) rfl rfl rfl rfl ?_
      refine xe_bipush (n := 61) (by decide +kernel) (by decide) rfl ?_
      refine xe_icmpne (off := 19) (t := 168) (by decide +kernel) (by decide) rfl hx4 (show xin (61) by decide) (fun c113 => ?_) (fun c113 => ?_)
      · rw [if_pos c113] at h
        refine xe_ldn (ins := .iload 4) (len := 2) (by decide +kernel) rfl rfl rfl rfl ?_
        refine xe_sipush (n := 257) (by decide +kernel) (by decide) rfl ?_
        refine xe_icmpne (off := 19) (t := 192) (by decide +kernel) (by decide) rfl hx4 (show xin (257) by decide) (fun c114 => ?_) (fun c114 => ?_)
        · rw [if_pos c114] at h
          refine xe_ldn (ins := .iload 4) (len := 2) (by decide +kernel) rfl rfl rfl rfl ?_
          refine xe_bipush (n := 60) (by decide +kernel) (by decide) rfl ?_
          refine xe_icmpne (off := 19) (t := 215) (by decide +kernel) (by decide) rfl hx4 (show xin (60) by decide) (fun c115 => ?_) (fun c115 => ?_)
          · rw [if_pos c115] at h
            refine xe_ldn (ins := .iload 4) (len := 2) (by decide +kernel) rfl rfl rfl rfl ?_
            refine xe_sipush (n := 258) (by decide +kernel) (by decide) rfl ?_
            refine xe_icmpne (off := 19) (t := 239) (by decide +kernel) (by decide) rfl hx4 (show xin (258) by decide) (fun c116 => ?_) (fun c116 => ?_)
            · rw [if_pos c116] at h
              refine xe_ldn (ins := .iload 4) (len := 2) (by decide +kernel) rfl rfl rfl rfl ?_
              refine xe_bipush (n := 62) (by decide +kernel) (by decide) rfl ?_
              refine xe_icmpne (off := 19) (t := 262) (by decide +kernel) (by decide) rfl hx4 (show xin (62) by decide) (fun c117 => ?_) (fun c117 => ?_)
              · rw [if_pos c117] at h
                refine xe_ldn (ins := .lload 5) (len := 2) (by decide +kernel) rfl rfl rfl rfl ?_
                refine xe_ldn (ins := .lload 7) (len := 2) (by decide +kernel) rfl rfl rfl rfl ?_
                refine xe_lcmp (by decide +kernel) rfl hi106 hi110 ?_
                refine xe_iflt (off := 7) (t := 274) (by decide +kernel) (by decide) rfl (xin_cmp8 _ _) (fun c118 => ?_) (fun c118 => ?_)
                · have c118 := xcmp8_lt.mp c118; rw [if_pos c118] at h
                  refine xe_iconst (n := 0) (by decide +kernel) rfl ?_
                  refine xW_lv rfl (l := []) (xsb_of trivial (show [7, 5, 0, 2, 3, 4].Nodup by decide)) ?_
                  exact k139_275   (show xin (0) by decide) h
                · have c118 := (not_congr xcmp8_lt).mp c118; rw [if_neg c118] at h
                  refine xe_iconst (n := 1) (by decide +kernel) rfl ?_
                  refine xe_goto (off := 4) (nx := 275) (by decide +kernel) (by decide) ?_
                  refine xW_lv rfl (l := []) (xsb_of trivial (show [7, 5, 0, 2, 3, 4].Nodup by decide)) ?_
                  exact k139_275   (show xin (1) by decide) h
              · rw [if_neg c117] at h
                refine xe_ldn (ins := .lload 5) (len := 2) (by decide +kernel) rfl rfl rfl rfl ?_
                refine xe_ldn (ins := .lload 7) (len := 2) (by decide +kernel) rfl rfl rfl rfl ?_
                refine xe_lcmp (by decide +kernel) rfl hi106 hi110 ?_
                refine xe_ifle (off := 7) (t := 258) (by decide +kernel) (by decide) rfl (xin_cmp8 _ _) (fun c119 => ?_) (fun c119 => ?_)
                · have c119 := xcmp8_le.mp c119; rw [if_pos c119] at h
                  refine xe_iconst (n := 0) (by decide +kernel) rfl ?_
                  refine xe_goto (off := 16) (nx := 275) (by decide +kernel) (by decide) ?_
                  refine xW_lv rfl (l := []) (xsb_of trivial (show [7, 5, 0, 2, 3, 4].Nodup by decide)) ?_
                  exact k139_275   (show xin (0) by decide) h
                · have c119 := (not_congr xcmp8_le).mp c119; rw [if_neg c119] at h
                  refine xe_iconst (n := 1) (by decide +kernel) rfl ?_
                  refine xe_goto (off := 20) (nx := 275) (by decide +kernel) (by decide) ?_
                  refine xW_lv rfl (l := []) (xsb_of trivial (show [7, 5, 0, 2, 3, 4].Nodup by decide)) ?_
                  exact k139_275   (show xin (1) by decide) h
            · rw [if_neg c116] at h
              refine xe_ldn (ins := .lload 5) (len := 2) (by decide +kernel) rfl rfl rfl rfl ?_
              refine xe_ldn (ins := .lload 7) (len := 2) (by decide +kernel) rfl rfl rfl rfl ?_
              refine xe_lcmp (by decide +kernel) rfl hi106 hi110 ?_
              refine xe_ifgt (off := 7) (t := 235) (by decide +kernel) (by decide) rfl (xin_cmp8 _ _) (fun c120 => ?_) (fun c120 => ?_)
              · have c120 := xcmp8_gt.mp c120; rw [if_pos c120] at h
                refine xe_iconst (n := 0) (by decide +kernel) rfl ?_
                refine xe_goto (off := 39) (nx := 275) (by decide +kernel) (by decide) ?_
                refine xW_lv rfl (l := []) (xsb_of trivial (show [7, 5, 0, 2, 3, 4].Nodup by decide)) ?_
                exact k139_275   (show xin (0) by decide) h
              · have c120 := (not_congr xcmp8_gt).mp c120; rw [if_neg c120] at h
                refine xe_iconst (n := 1) (by decide +kernel) rfl ?_
                refine xe_goto (off := 43) (nx := 275) (by decide +kernel) (by decide) ?_
                refine xW_lv rfl (l := []) (xsb_of trivial (show [7, 5, 0, 2, 3, 4].Nodup by decide)) ?_
                exact k139_275   (show xin (1) by decide) h
          · rw [if_neg c115] at h
            refine xe_ldn (ins := .lload 5) (len := 2) (by decide +kernel) rfl rfl rfl rfl ?_
            refine xe_ldn (ins := .lload 7) (len := 2) (by decide +kernel) rfl rfl rfl rfl ?_
            refine xe_lcmp (by decide +kernel) rfl hi106 hi110 ?_
            refine xe_ifge (off := 7) (t := 211) (by decide +kernel) (by decide) rfl (xin_cmp8 _ _) (fun c121 => ?_) (fun c121 => ?_)
            · have c121 := xcmp8_ge.mp c121; rw [if_pos c121] at h
              refine xe_iconst (n := 0) (by decide +kernel) rfl ?_
              refine xe_goto (off := 63) (nx := 275) (by decide +kernel) (by decide) ?_
              refine xW_lv rfl (l := []) (xsb_of trivial (show [7, 5, 0, 2, 3, 4].Nodup by decide)) ?_
              exact k139_275   (show xin (0) by decide) h
            · have c121 := (not_congr xcmp8_ge).mp c121; rw [if_neg c121] at h
              refine xe_iconst (n := 1) (by decide +kernel) rfl ?_
              refine xe_goto (off := 67) (nx := 275) (by decide +kernel) (by decide) ?_
              refine xW_lv rfl (l := []) (xsb_of trivial (show [7, 5, 0, 2, 3, 4].Nodup by decide)) ?_
              exact k139_275   (show xin (1) by decide) h
        · rw [if_neg c114] at h
          refine xe_ldn (ins := .lload 5) (len := 2) (by decide +kernel) rfl rfl rfl rfl ?_
          refine xe_ldn (ins := .lload 7) (len := 2) (by decide +kernel) rfl rfl rfl rfl ?_
          refine xe_lcmp (by decide +kernel) rfl hi106 hi110 ?_
          refine xe_ifeq (off := 7) (t := 188) (by decide +kernel) (by decide) rfl (xin_cmp8 _ _) (fun c122 => ?_) (fun c122 => ?_)
          · have c122 := xcmp8_eq.mp c122; rw [if_pos c122] at h
            refine xe_iconst (n := 0) (by decide +kernel) rfl ?_
            refine xe_goto (off := 86) (nx := 275) (by decide +kernel) (by decide) ?_
            refine xW_lv rfl (l := []) (xsb_of trivial (show [7, 5, 0, 2, 3, 4].Nodup by decide)) ?_
            exact k139_275   (show xin (0) by decide) h
          · have c122 := (not_congr xcmp8_eq).mp c122; rw [if_neg c122] at h
            refine xe_iconst (n := 1) (by decide +kernel) rfl ?_
            refine xe_goto (off := 90) (nx := 275) (by decide +kernel) (by decide) ?_
            refine xW_lv rfl (l := []) (xsb_of trivial (show [7, 5, 0, 2, 3, 4].Nodup by decide)) ?_
            exact k139_275   (show xin (1) by decide) h
      · rw [if_neg c113] at h
        refine xe_ldn (ins := .lload 5) (len := 2) (by decide +kernel) rfl rfl rfl rfl ?_
        refine xe_ldn (ins := .lload 7) (len := 2) (by decide +kernel) rfl rfl rfl rfl ?_
        refine xe_lcmp (by decide +kernel) rfl hi106 hi110 ?_
        refine xe_ifne (off := 7) (t := 164) (by decide +kernel) (by decide) rfl (xin_cmp8 _ _) (fun c123 => ?_) (fun c123 => ?_)
        · have c123 := xcmp8_ne.mp c123; rw [if_pos c123] at h
          refine xe_iconst (n := 0) (by decide +kernel) rfl ?_
          refine xe_goto (off := 110) (nx := 275) (by decide +kernel) (by decide) ?_
          refine xW_lv rfl (l := []) (xsb_of trivial (show [7, 5, 0, 2, 3, 4].Nodup by decide)) ?_
          exact k139_275   (show xin (0) by decide) h
        · have c123 := (not_congr xcmp8_ne).mp c123; rw [if_neg c123] at h
          refine xe_iconst (n := 1) (by decide +kernel) rfl ?_
          refine xe_goto (off := 114) (nx := 275) (by decide +kernel) (by decide) ?_
          refine xW_lv rfl (l := []) (xsb_of trivial (show [7, 5, 0, 2, 3, 4].Nodup by decide)) ?_
          exact k139_275   (show xin (1) by decide) h
    · have c112 := (not_congr xcmp8_ge).mp c112; rw [if_neg c112] at h
      refine xW_lv rfl (l := []) (xsb_of trivial (show [7, 5, 0, 2, 3, 4].Nodup by decide)) ?_
      exact k139_143    h
def f139_54   (f : Nat) (x0 : Nat) (x2 : Int) (x3 : Int) (x4 : Int) (x5 : Int) (x6 : Int) (M : xj_M) : Option (Int × xj_M) := (if (x5) = (-1) then f139_111   f (x0) (x2) (x3) (x4) M else ((xq_gr 9 0 (x0) M).bind fun v125 => ((xq_is 9 (x0) M).bind fun _ => ((f141  f (x0) (x6) M).bind fun R129 => ((xq_sl (v125) (x5) (R129.1) R129.2).bind fun M131 => ((xq_gr 9 8 (x0) M131).bind fun v133 => ((xq_gi 9 6 (x0) M131).bind fun v135 => ((xq_ai 3 (v133) (xwr ((v135) + (1))) M131).bind fun v137 => ((xq_si (v133) (xwr ((v135) + (1))) (xor_ (v137) (xshl (1) (x5))) M131).bind fun M139 => ((xq_gr 9 0 (x0) M139).bind fun v141 => ((xq_al (v141) (x5) M139).bind fun v143 => (if (v143) < (-1000000000000) then f139_110   f (0) M139 else f139_110   f (1) M139))))))))))))
theorem k139_54 {d f : Nat}     {x0 : Nat} {x2 : Int} {x3 : Int} {x4 : Int} {x5 : Int} {x6 : Int} {M : xj_M} {R : Int × xj_M} (hx2 : xin x2) (hx3 : xin x3) (hx4 : xin x4) (hx5 : xin x5) (hx6 : xin x6) (h : f139_54   f x0 x2 x3 x4 x5 x6 M = some R) : xW (d + 2) (none, d + 2, none) xr_139 (54, [(0, xR_ x0), (2, xI x2), (3, xI x3), (4, xI x4), (5, xI x5), (6, xI x6)], [], M) (xQi R) := by
  unfold f139_54 at h
  refine xe_ldn (ins := .iload 5) (len := 2) (by decide +kernel) rfl rfl rfl rfl ?_
  refine xe_iconst (n := -1) (by decide +kernel) rfl ?_
  refine xe_icmpeq (off := 54) (t := 111) (by decide +kernel) (by decide) rfl hx5 (show xin (-1) by decide) (fun c124 => ?_) (fun c124 => ?_)
  · rw [if_pos c124] at h
    refine xW_lv rfl (l := [(0, xR_ (x0)), (2, xI (x2)), (3, xI (x3)), (4, xI (x4))]) (xsb_of ⟨rfl, rfl, rfl, rfl, trivial⟩ (show [0, 2, 3, 4, 5, 6].Nodup by decide)) ?_
    exact k139_111   hx2 hx3 hx4 h
  · rw [if_neg c124] at h
    refine xe_alr (ins := .aload_n 0) (len := 1) (i := 0) (by decide +kernel) rfl rfl rfl rfl rfl ?_
    obtain ⟨v125, e126, h⟩ := xbnd h
    refine xs_gr (i := 9) (c := 9) (k := 0) (by decide +kernel) (by decide) (by decide +kernel) e126 rfl ?_
    refine xe_ldn (ins := .iload 5) (len := 2) (by decide +kernel) rfl rfl rfl rfl ?_
    refine xe_alr (ins := .aload_n 0) (len := 1) (i := 0) (by decide +kernel) rfl rfl rfl rfl rfl ?_
    refine xe_ldn (ins := .iload 6) (len := 2) (by decide +kernel) rfl rfl rfl rfl ?_
    obtain ⟨_, e128, h⟩ := xbnd h
    obtain ⟨R129, e127, h⟩ := xbnd h
    refine xs_cv (i := 135) (j := 141) (ar := [xI (x6)]) (rest := [xI (x5), xR_ (v125)]) (r2 := xr_141) (by decide +kernel) (by decide +kernel) (by decide +kernel) xr_141_e rfl (by decide) (by simp only [List.map_cons, List.map_nil, List.sum_cons, List.sum_nil, xR_cat, xI_cat, xZ_cat]; decide) e128 ?_
    refine xc_l (k141 (d := d + 0)  hx6 e127) rfl (fun hi130 => ?_)
    obtain ⟨M131, e132, h⟩ := xbnd h
    refine xs_last (by decide +kernel) hx5 e132 rfl ?_
    refine xe_alr (ins := .aload_n 0) (len := 1) (i := 0) (by decide +kernel) rfl rfl rfl rfl rfl ?_
    obtain ⟨v133, e134, h⟩ := xbnd h
    refine xs_gr (i := 22) (c := 9) (k := 8) (by decide +kernel) (by decide) (by decide +kernel) e134 rfl ?_
    refine xe_alr (ins := .aload_n 0) (len := 1) (i := 0) (by decide +kernel) rfl rfl rfl rfl rfl ?_
    obtain ⟨v135, e136, h⟩ := xbnd h
    refine xs_gi (i := 52) (c := 9) (k := 6) (by decide +kernel) (by decide) (by decide +kernel) e136 rfl ?_
    refine xe_iconst (n := 1) (by decide +kernel) rfl ?_
    refine xe_iadd (by decide +kernel) rfl ?_
    refine xe_dup2r (xI_cat _) (xR_cat _) (by decide +kernel) rfl ?_
    obtain ⟨v137, e138, h⟩ := xbnd h
    refine xs_iald rfl (by decide +kernel) (xin_wr _) e138 rfl ?_
    refine xe_iconst (n := 1) (by decide +kernel) rfl ?_
    refine xe_ldn (ins := .iload 5) (len := 2) (by decide +kernel) rfl rfl rfl rfl ?_
    refine xe_ishl (by decide +kernel) rfl ?_
    refine xe_ior (by decide +kernel) rfl ?_
    obtain ⟨M139, e140, h⟩ := xbnd h
    refine xs_iast (by decide +kernel) (xin_wr _) e140 rfl ?_
    refine xe_alr (ins := .aload_n 0) (len := 1) (i := 0) (by decide +kernel) rfl rfl rfl rfl rfl ?_
    obtain ⟨v141, e142, h⟩ := xbnd h
    refine xs_gr (i := 9) (c := 9) (k := 0) (by decide +kernel) (by decide) (by decide +kernel) e142 rfl ?_
    refine xe_ldn (ins := .iload 5) (len := 2) (by decide +kernel) rfl rfl rfl rfl ?_
    obtain ⟨v143, e144, h⟩ := xbnd h
    refine xs_lald (by decide +kernel) hx5 e144 rfl ?_
    refine xe_ldc2 (i := 139) (n := -1000000000000) (by decide +kernel) (by decide +kernel) rfl ?_
    refine xe_lcmp (by decide +kernel) rfl (xq_al_in e144) (show xiN (-1000000000000) by decide) ?_
    refine xe_iflt (off := 7) (t := 109) (by decide +kernel) (by decide) rfl (xin_cmp8 _ _) (fun c145 => ?_) (fun c145 => ?_)
    · have c145 := xcmp8_lt.mp c145; rw [if_pos c145] at h
      refine xe_iconst (n := 0) (by decide +kernel) rfl ?_
      refine xW_lv rfl (l := []) (xsb_of trivial (show [0, 2, 3, 4, 5, 6].Nodup by decide)) ?_
      exact k139_110   (show xin (0) by decide) h
    · have c145 := (not_congr xcmp8_lt).mp c145; rw [if_neg c145] at h
      refine xe_iconst (n := 1) (by decide +kernel) rfl ?_
      refine xe_goto (off := 4) (nx := 110) (by decide +kernel) (by decide) ?_
      refine xW_lv rfl (l := []) (xsb_of trivial (show [0, 2, 3, 4, 5, 6].Nodup by decide)) ?_
      exact k139_110   (show xin (1) by decide) h
def f139  (f : Nat) (a0 : Nat) (a1 : Int) (M : xj_M) : Option (Int × xj_M) := ((xq_gr 9 3 (a0) M).bind fun v146 => ((xq_gr 6 9 (v146) M).bind fun v148 => ((xq_ai 3 (v148) (a1) M).bind fun v150 => (if ¬ (v150) = (61) then f139_111   f (a0) (xwr ((4) + (xwr ((2) * (a1))))) (xwr ((xwr ((4) + (xwr ((2) * (a1))))) + (1))) (v150) M else ((xq_is 9 (a0) M).bind fun _ => ((f140  f (a0) (xwr ((4) + (xwr ((2) * (a1))))) M).bind fun R155 => (if ¬ (R155.1) = (-1) then f139_54   f (a0) (xwr ((4) + (xwr ((2) * (a1))))) (xwr ((xwr ((4) + (xwr ((2) * (a1))))) + (1))) (v150) (R155.1) (xwr ((xwr ((4) + (xwr ((2) * (a1))))) + (1))) R155.2 else ((xq_is 9 (a0) R155.2).bind fun _ => ((f140  f (a0) (xwr ((xwr ((4) + (xwr ((2) * (a1))))) + (1))) R155.2).bind fun R160 => f139_54   f (a0) (xwr ((4) + (xwr ((2) * (a1))))) (xwr ((xwr ((4) + (xwr ((2) * (a1))))) + (1))) (v150) (R160.1) (xwr ((4) + (xwr ((2) * (a1))))) R160.2)))))))))
theorem k139 {d f : Nat}   {a0 : Nat} {a1 : Int} {M : xj_M} {R : Int × xj_M} (ha1 : xin a1) (h : f139  f a0 a1 M = some R) : xT (d + 3) 139 [xR_ a0, xI a1] M (xQi R) := by
  refine xT_m xr_139_e (X := (none, d + 2, none)) rfl (xa_1 (xR_cat _) (xa_1 (xI_cat _) xa_n)) (by decide) ?_
  unfold f139 at h
  refine xe_iconst (n := 4) (by decide +kernel) rfl ?_
  refine xe_iconst (n := 2) (by decide +kernel) rfl ?_
  refine xe_ldn (ins := .iload_n 1) (len := 1) (by decide +kernel) rfl rfl rfl rfl ?_
  refine xe_imul (by decide +kernel) rfl ?_
  refine xe_iadd (by decide +kernel) rfl ?_
  refine xe_isr (ins := .istore_n 2) (len := 1) (i := 2) (by decide +kernel) rfl rfl rfl (by decide) (xk_k (show ¬ (0 : Nat) = 2 by decide) (Or.inl (show ¬ (0 + 1 : Nat) = 2 by decide)) (xk_k (show ¬ (1 : Nat) = 2 by decide) (Or.inr (xI_cat _)) xk_n)) rfl ?_
  refine xe_ldn (ins := .iload_n 2) (len := 1) (by decide +kernel) rfl rfl rfl rfl ?_
  refine xe_iconst (n := 1) (by decide +kernel) rfl ?_
  refine xe_iadd (by decide +kernel) rfl ?_
  refine xe_isr (ins := .istore_n 3) (len := 1) (i := 3) (by decide +kernel) rfl rfl rfl (by decide) (xk_k (show ¬ (2 : Nat) = 3 by decide) (Or.inr (xI_cat _)) (xk_k (show ¬ (0 : Nat) = 3 by decide) (Or.inl (show ¬ (0 + 1 : Nat) = 3 by decide)) (xk_k (show ¬ (1 : Nat) = 3 by decide) (Or.inl (show ¬ (1 + 1 : Nat) = 3 by decide)) xk_n))) rfl ?_
  refine xe_alr (ins := .aload_n 0) (len := 1) (i := 0) (by decide +kernel) rfl rfl rfl rfl rfl ?_
  obtain ⟨v146, e147, h⟩ := xbnd h
  refine xs_gr (i := 40) (c := 9) (k := 3) (by decide +kernel) (by decide) (by decide +kernel) e147 rfl ?_
  obtain ⟨v148, e149, h⟩ := xbnd h
  refine xs_gr (i := 74) (c := 6) (k := 9) (by decide +kernel) (by decide) (by decide +kernel) e149 rfl ?_
  refine xe_ldn (ins := .iload_n 1) (len := 1) (by decide +kernel) rfl rfl rfl rfl ?_
  obtain ⟨v150, e151, h⟩ := xbnd h
  refine xs_iald rfl (by decide +kernel) ha1 e151 rfl ?_
  refine xe_isr (ins := .istore 4) (len := 2) (i := 4) (by decide +kernel) rfl rfl rfl (by decide) (xk_k (show ¬ (3 : Nat) = 4 by decide) (Or.inr (xI_cat _)) (xk_k (show ¬ (2 : Nat) = 4 by decide) (Or.inl (show ¬ (2 + 1 : Nat) = 4 by decide)) (xk_k (show ¬ (0 : Nat) = 4 by decide) (Or.inl (show ¬ (0 + 1 : Nat) = 4 by decide)) (xk_k (show ¬ (1 : Nat) = 4 by decide) (Or.inl (show ¬ (1 + 1 : Nat) = 4 by decide)) xk_n)))) rfl ?_
  refine xe_ldn (ins := .iload 4) (len := 2) (by decide +kernel) rfl rfl rfl rfl ?_
  refine xe_bipush (n := 61) (by decide +kernel) (by decide) rfl ?_
  refine xe_icmpne (off := 86) (t := 111) (by decide +kernel) (by decide) rfl (xq_ai_in e151) (show xin (61) by decide) (fun c152 => ?_) (fun c152 => ?_)
  · rw [if_pos c152] at h
    refine xW_lv rfl (l := [(0, xR_ (a0)), (2, xI (xwr ((4) + (xwr ((2) * (a1)))))), (3, xI (xwr ((xwr ((4) + (xwr ((2) * (a1))))) + (1)))), (4, xI (v150))]) (xsb_of ⟨rfl, rfl, rfl, rfl, trivial⟩ (show [4, 3, 2, 0, 1].Nodup by decide)) ?_
    exact k139_111   (xin_wr _) (xin_wr _) (xq_ai_in e151) h
  · rw [if_neg c152] at h
    refine xe_alr (ins := .aload_n 0) (len := 1) (i := 0) (by decide +kernel) rfl rfl rfl rfl rfl ?_
    refine xe_ldn (ins := .iload_n 2) (len := 1) (by decide +kernel) rfl rfl rfl rfl ?_
    obtain ⟨_, e154, h⟩ := xbnd h
    obtain ⟨R155, e153, h⟩ := xbnd h
    refine xs_cv (i := 131) (j := 140) (ar := [xI (xwr ((4) + (xwr ((2) * (a1)))))]) (rest := []) (r2 := xr_140) (by decide +kernel) (by decide +kernel) (by decide +kernel) xr_140_e rfl (by decide) (by decide) e154 ?_
    refine xc_i (k140 (d := d + 0)  (xin_wr _) e153) rfl (fun hi156 => ?_)
    refine xe_isr (ins := .istore 5) (len := 2) (i := 5) (by decide +kernel) rfl rfl rfl (by decide) (xk_k (show ¬ (4 : Nat) = 5 by decide) (Or.inr (xI_cat _)) (xk_k (show ¬ (3 : Nat) = 5 by decide) (Or.inl (show ¬ (3 + 1 : Nat) = 5 by decide)) (xk_k (show ¬ (2 : Nat) = 5 by decide) (Or.inl (show ¬ (2 + 1 : Nat) = 5 by decide)) (xk_k (show ¬ (0 : Nat) = 5 by decide) (Or.inl (show ¬ (0 + 1 : Nat) = 5 by decide)) (xk_k (show ¬ (1 : Nat) = 5 by decide) (Or.inl (show ¬ (1 + 1 : Nat) = 5 by decide)) xk_n))))) rfl ?_
    refine xe_ldn (ins := .iload_n 3) (len := 1) (by decide +kernel) rfl rfl rfl rfl ?_
    refine xe_isr (ins := .istore 6) (len := 2) (i := 6) (by decide +kernel) rfl rfl rfl (by decide) (xk_k (show ¬ (5 : Nat) = 6 by decide) (Or.inr (xI_cat _)) (xk_k (show ¬ (4 : Nat) = 6 by decide) (Or.inl (show ¬ (4 + 1 : Nat) = 6 by decide)) (xk_k (show ¬ (3 : Nat) = 6 by decide) (Or.inl (show ¬ (3 + 1 : Nat) = 6 by decide)) (xk_k (show ¬ (2 : Nat) = 6 by decide) (Or.inl (show ¬ (2 + 1 : Nat) = 6 by decide)) (xk_k (show ¬ (0 : Nat) = 6 by decide) (Or.inl (show ¬ (0 + 1 : Nat) = 6 by decide)) (xk_k (show ¬ (1 : Nat) = 6 by decide) (Or.inl (show ¬ (1 + 1 : Nat) = 6 by decide)) xk_n)))))) rfl ?_
    refine xe_ldn (ins := .iload 5) (len := 2) (by decide +kernel) rfl rfl rfl rfl ?_
    refine xe_iconst (n := -1) (by decide +kernel) rfl ?_
    refine xe_icmpne (off := 13) (t := 54) (by decide +kernel) (by decide) rfl hi156 (show xin (-1) by decide) (fun c157 => ?_) (fun c157 => ?_)
    · rw [if_pos c157] at h
      refine xW_lv rfl (l := [(0, xR_ (a0)), (2, xI (xwr ((4) + (xwr ((2) * (a1)))))), (3, xI (xwr ((xwr ((4) + (xwr ((2) * (a1))))) + (1)))), (4, xI (v150)), (5, xI (R155.1)), (6, xI (xwr ((xwr ((4) + (xwr ((2) * (a1))))) + (1))))]) (xsb_of ⟨rfl, rfl, rfl, rfl, rfl, rfl, trivial⟩ (show [6, 5, 4, 3, 2, 0, 1].Nodup by decide)) ?_
      exact k139_54   (xin_wr _) (xin_wr _) (xq_ai_in e151) hi156 (xin_wr _) h
    · rw [if_neg c157] at h
      refine xe_alr (ins := .aload_n 0) (len := 1) (i := 0) (by decide +kernel) rfl rfl rfl rfl rfl ?_
      refine xe_ldn (ins := .iload_n 3) (len := 1) (by decide +kernel) rfl rfl rfl rfl ?_
      obtain ⟨_, e159, h⟩ := xbnd h
      obtain ⟨R160, e158, h⟩ := xbnd h
      refine xs_cv (i := 131) (j := 140) (ar := [xI (xwr ((xwr ((4) + (xwr ((2) * (a1))))) + (1)))]) (rest := []) (r2 := xr_140) (by decide +kernel) (by decide +kernel) (by decide +kernel) xr_140_e rfl (by decide) (by decide) e159 ?_
      refine xc_i (k140 (d := d + 0)  (xin_wr _) e158) rfl (fun hi161 => ?_)
      refine xe_isr (ins := .istore 5) (len := 2) (i := 5) (by decide +kernel) rfl rfl rfl (by decide) (xk_k (show ¬ (6 : Nat) = 5 by decide) (Or.inl (show ¬ (6 + 1 : Nat) = 5 by decide)) (xk_d rfl (xk_k (show ¬ (4 : Nat) = 5 by decide) (Or.inr (xI_cat _)) (xk_k (show ¬ (3 : Nat) = 5 by decide) (Or.inl (show ¬ (3 + 1 : Nat) = 5 by decide)) (xk_k (show ¬ (2 : Nat) = 5 by decide) (Or.inl (show ¬ (2 + 1 : Nat) = 5 by decide)) (xk_k (show ¬ (0 : Nat) = 5 by decide) (Or.inl (show ¬ (0 + 1 : Nat) = 5 by decide)) (xk_k (show ¬ (1 : Nat) = 5 by decide) (Or.inl (show ¬ (1 + 1 : Nat) = 5 by decide)) xk_n))))))) rfl ?_
      refine xe_ldn (ins := .iload_n 2) (len := 1) (by decide +kernel) rfl rfl rfl rfl ?_
      refine xe_isr (ins := .istore 6) (len := 2) (i := 6) (by decide +kernel) rfl rfl rfl (by decide) (xk_k (show ¬ (5 : Nat) = 6 by decide) (Or.inr (xI_cat _)) (xk_d rfl (xk_k (show ¬ (4 : Nat) = 6 by decide) (Or.inl (show ¬ (4 + 1 : Nat) = 6 by decide)) (xk_k (show ¬ (3 : Nat) = 6 by decide) (Or.inl (show ¬ (3 + 1 : Nat) = 6 by decide)) (xk_k (show ¬ (2 : Nat) = 6 by decide) (Or.inl (show ¬ (2 + 1 : Nat) = 6 by decide)) (xk_k (show ¬ (0 : Nat) = 6 by decide) (Or.inl (show ¬ (0 + 1 : Nat) = 6 by decide)) (xk_k (show ¬ (1 : Nat) = 6 by decide) (Or.inl (show ¬ (1 + 1 : Nat) = 6 by decide)) xk_n))))))) rfl ?_
      refine xW_lv rfl (l := [(0, xR_ (a0)), (2, xI (xwr ((4) + (xwr ((2) * (a1)))))), (3, xI (xwr ((xwr ((4) + (xwr ((2) * (a1))))) + (1)))), (4, xI (v150)), (5, xI (R160.1)), (6, xI (xwr ((4) + (xwr ((2) * (a1))))))]) (xsb_of ⟨rfl, rfl, rfl, rfl, rfl, rfl, trivial⟩ (show [6, 5, 4, 3, 2, 0, 1].Nodup by decide)) ?_
      exact k139_54   (xin_wr _) (xin_wr _) (xq_ai_in e151) hi161 (xin_wr _) h
-- ChangeHouse.merge
def xr_189 : xj_mR := (11, yX11_merge, cX11_merge, 10, (Option.some Jvm.ClassFile.FieldType.int), 1, false, (7, 201), (1, 1))
set_option maxRecDepth 20000 in
theorem xr_189_e : xj_row 189 = some xr_189 := rfl
def f189_59   (f : Nat)  (M : xj_M) : Option (Int × xj_M) := (some (-1, M))
theorem k189_59 {d f : Nat}      {M : xj_M} {R : Int × xj_M}  (h : f189_59   f  M = some R) : xW (d + 5) (none, d + 5, none) xr_189 (59, [], [], M) (xQi R) := by
  unfold f189_59 at h
  refine xe_iconst (n := -1) (by decide +kernel) rfl ?_
  cases h
  exact xe_ret_i (ty := .int) (by decide +kernel) rfl rfl ⟨rfl, rfl, (show xin (-1) by decide)⟩
def f189_128   (f : Nat)  (M : xj_M) : Option (Int × xj_M) := (some (-2, M))
theorem k189_128 {d f : Nat}      {M : xj_M} {R : Int × xj_M}  (h : f189_128   f  M = some R) : xW (d + 5) (none, d + 5, none) xr_189 (128, [], [], M) (xQi R) := by
  unfold f189_128 at h
  refine xe_bipush (n := -2) (by decide +kernel) (by decide) rfl ?_
  cases h
  exact xe_ret_i (ty := .int) (by decide +kernel) rfl rfl ⟨rfl, rfl, (show xin (-2) by decide)⟩
def f189_191  (r152 : Nat → Nat → Nat → Int → Int → xj_M → Option (Int × xj_M)) (f : Nat) (x2 : Nat) (x3 : Nat) (x5 : Nat) (x8 : Int) (y0 : Int) (y1 : Int) (M : xj_M) : Option (Int × xj_M) := r152 (x2) (x3) (x5) (xwr ((y1) + (y0))) (xwr ((x8) + (1))) M
theorem k189_191 {d f : Nat}  {r152 : Nat → Nat → Nat → Int → Int → xj_M → Option (Int × xj_M)}  (hr152 : ∀ {x2 : Nat} {x3 : Nat} {x5 : Nat} {x7 : Int} {x8 : Int} {M : xj_M} {R : Int × xj_M}, xin x7 → xin x8 → r152 x2 x3 x5 x7 x8 M = some R → xW (d + 5) (none, d + 5, none) xr_189 (152, [(2, xR_ x2), (3, xR_ x3), (5, xR_ x5), (7, xI x7), (8, xI x8)], [], M) (xQi R)) {x2 : Nat} {x3 : Nat} {x5 : Nat} {x8 : Int} {y0 : Int} {y1 : Int} {M : xj_M} {R : Int × xj_M} (hx8 : xin x8) (hy0 : xin y0) (hy1 : xin y1) (h : f189_191  r152 f x2 x3 x5 x8 y0 y1 M = some R) : xW (d + 5) (none, d + 5, none) xr_189 (191, [(2, xR_ x2), (3, xR_ x3), (5, xR_ x5), (8, xI x8)], [xI y0, xI y1], M) (xQi R) := by
  unfold f189_191 at h
  refine xe_iadd (by decide +kernel) rfl ?_
  refine xe_isr (ins := .istore 7) (len := 2) (i := 7) (by decide +kernel) rfl rfl rfl (by decide) (xk_k (show ¬ (2 : Nat) = 7 by decide) (Or.inl (show ¬ (2 + 1 : Nat) = 7 by decide)) (xk_k (show ¬ (3 : Nat) = 7 by decide) (Or.inl (show ¬ (3 + 1 : Nat) = 7 by decide)) (xk_k (show ¬ (5 : Nat) = 7 by decide) (Or.inl (show ¬ (5 + 1 : Nat) = 7 by decide)) (xk_k (show ¬ (8 : Nat) = 7 by decide) (Or.inl (show ¬ (8 + 1 : Nat) = 7 by decide)) xk_n)))) rfl ?_
  refine xe_iincr (i := 8) (n := 1) (by decide +kernel) (by decide) rfl (xk_k (show ¬ (7 : Nat) = 8 by decide) (Or.inr (xI_cat _)) (xk_k (show ¬ (2 : Nat) = 8 by decide) (Or.inl (show ¬ (2 + 1 : Nat) = 8 by decide)) (xk_k (show ¬ (3 : Nat) = 8 by decide) (Or.inl (show ¬ (3 + 1 : Nat) = 8 by decide)) (xk_k (show ¬ (5 : Nat) = 8 by decide) (Or.inl (show ¬ (5 + 1 : Nat) = 8 by decide)) (xk_d rfl xk_n))))) rfl ?_
  refine xe_goto (off := -45) (nx := 152) (by decide +kernel) (by decide) ?_
  refine xW_lv rfl (l := [(2, xR_ (x2)), (3, xR_ (x3)), (5, xR_ (x5)), (7, xI (xwr ((y1) + (y0)))), (8, xI (xwr ((x8) + (1))))]) (xsb_of ⟨rfl, rfl, rfl, rfl, rfl, trivial⟩ (show [8, 7, 2, 3, 5].Nodup by decide)) ?_
  exact hr152 (xin_wr _) (xin_wr _) h
def f189_315  (r219 : Nat → Nat → Nat → Int → Int → xj_M → Option (Int × xj_M)) (f : Nat) (x2 : Nat) (x3 : Nat) (x5 : Nat) (x7 : Int) (x8 : Int) (M : xj_M) : Option (Int × xj_M) := r219 (x2) (x3) (x5) (x7) (xwr ((x8) + (1))) M
theorem k189_315 {d f : Nat}  {r219 : Nat → Nat → Nat → Int → Int → xj_M → Option (Int × xj_M)}  (hr219 : ∀ {x2 : Nat} {x3 : Nat} {x5 : Nat} {x7 : Int} {x8 : Int} {M : xj_M} {R : Int × xj_M}, xin x7 → xin x8 → r219 x2 x3 x5 x7 x8 M = some R → xW (d + 5) (none, d + 5, none) xr_189 (219, [(2, xR_ x2), (3, xR_ x3), (5, xR_ x5), (7, xI x7), (8, xI x8)], [], M) (xQi R)) {x2 : Nat} {x3 : Nat} {x5 : Nat} {x7 : Int} {x8 : Int} {M : xj_M} {R : Int × xj_M} (hx7 : xin x7) (hx8 : xin x8) (h : f189_315  r219 f x2 x3 x5 x7 x8 M = some R) : xW (d + 5) (none, d + 5, none) xr_189 (315, [(2, xR_ x2), (3, xR_ x3), (5, xR_ x5), (7, xI x7), (8, xI x8)], [], M) (xQi R) := by
  unfold f189_315 at h
  refine xe_iincr (i := 8) (n := 1) (by decide +kernel) (by decide) rfl (xk_k (show ¬ (2 : Nat) = 8 by decide) (Or.inl (show ¬ (2 + 1 : Nat) = 8 by decide)) (xk_k (show ¬ (3 : Nat) = 8 by decide) (Or.inl (show ¬ (3 + 1 : Nat) = 8 by decide)) (xk_k (show ¬ (5 : Nat) = 8 by decide) (Or.inl (show ¬ (5 + 1 : Nat) = 8 by decide)) (xk_k (show ¬ (7 : Nat) = 8 by decide) (Or.inr (xI_cat _)) (xk_d rfl xk_n))))) rfl ?_
  refine xe_goto (off := -99) (nx := 219) (by decide +kernel) (by decide) ?_
  refine xW_lv rfl (l := [(2, xR_ (x2)), (3, xR_ (x3)), (5, xR_ (x5)), (7, xI (x7)), (8, xI (xwr ((x8) + (1))))]) (xsb_of ⟨rfl, rfl, rfl, rfl, rfl, trivial⟩ (show [8, 2, 3, 5, 7].Nodup by decide)) ?_
  exact hr219 hx7 (xin_wr _) h
def f189_269  (r219 : Nat → Nat → Nat → Int → Int → xj_M → Option (Int × xj_M)) (f : Nat) (x2 : Nat) (x3 : Nat) (x5 : Nat) (x7 : Int) (x8 : Int) (y0 : Int) (M : xj_M) : Option (Int × xj_M) := ((xq_gr 2 1 (x3) M).bind fun v101 => ((xq_ar (v101) (x8) M).bind fun v103 => ((xq_gr 2 1 (x5) M).bind fun v105 => ((xq_ar (v105) (x8) M).bind fun v107 => ((xq_is 1 (x2) M).bind fun _ => ((f9  f (x2) (y0) (0) (v103) (v107) M).bind fun M111 => ((xq_gr 2 1 (x5) M111).bind fun v113 => ((xq_ar (v113) (x8) M111).bind fun v115 => ((xq_gr 2 1 (x3) M111).bind fun v117 => ((xq_ar (v117) (x8) M111).bind fun v119 => ((xq_is 1 (x2) M111).bind fun _ => ((f9  f (x2) (y0) (1) (v115) (v119) M111).bind fun M123 => f189_315  r219 f (x2) (x3) (x5) (x7) (x8) M123))))))))))))
theorem k189_269 {d f : Nat}  {r219 : Nat → Nat → Nat → Int → Int → xj_M → Option (Int × xj_M)}  (hr219 : ∀ {x2 : Nat} {x3 : Nat} {x5 : Nat} {x7 : Int} {x8 : Int} {M : xj_M} {R : Int × xj_M}, xin x7 → xin x8 → r219 x2 x3 x5 x7 x8 M = some R → xW (d + 5) (none, d + 5, none) xr_189 (219, [(2, xR_ x2), (3, xR_ x3), (5, xR_ x5), (7, xI x7), (8, xI x8)], [], M) (xQi R)) {x2 : Nat} {x3 : Nat} {x5 : Nat} {x7 : Int} {x8 : Int} {y0 : Int} {M : xj_M} {R : Int × xj_M} (hx7 : xin x7) (hx8 : xin x8) (hy0 : xin y0) (h : f189_269  r219 f x2 x3 x5 x7 x8 y0 M = some R) : xW (d + 5) (none, d + 5, none) xr_189 (269, [(2, xR_ x2), (3, xR_ x3), (5, xR_ x5), (7, xI x7), (8, xI x8)], [xI y0], M) (xQi R) := by
  unfold f189_269 at h
  refine xe_isr (ins := .istore 9) (len := 2) (i := 9) (by decide +kernel) rfl rfl rfl (by decide) (xk_k (show ¬ (2 : Nat) = 9 by decide) (Or.inl (show ¬ (2 + 1 : Nat) = 9 by decide)) (xk_k (show ¬ (3 : Nat) = 9 by decide) (Or.inl (show ¬ (3 + 1 : Nat) = 9 by decide)) (xk_k (show ¬ (5 : Nat) = 9 by decide) (Or.inl (show ¬ (5 + 1 : Nat) = 9 by decide)) (xk_k (show ¬ (7 : Nat) = 9 by decide) (Or.inl (show ¬ (7 + 1 : Nat) = 9 by decide)) (xk_k (show ¬ (8 : Nat) = 9 by decide) (Or.inr (xI_cat _)) xk_n))))) rfl ?_
  refine xe_alr (ins := .aload_n 2) (len := 1) (i := 2) (by decide +kernel) rfl rfl rfl rfl rfl ?_
  refine xe_ldn (ins := .iload 9) (len := 2) (by decide +kernel) rfl rfl rfl rfl ?_
  refine xe_iconst (n := 0) (by decide +kernel) rfl ?_
  refine xe_alr (ins := .aload_n 3) (len := 1) (i := 3) (by decide +kernel) rfl rfl rfl rfl rfl ?_
  obtain ⟨v101, e102, h⟩ := xbnd h
  refine xs_gr (i := 279) (c := 2) (k := 1) (by decide +kernel) (by decide) (by decide +kernel) e102 rfl ?_
  refine xe_ldn (ins := .iload 8) (len := 2) (by decide +kernel) rfl rfl rfl rfl ?_
  obtain ⟨v103, e104, h⟩ := xbnd h
  refine xs_aald (by decide +kernel) hx8 e104 rfl ?_
  refine xe_alr (ins := .aload 5) (len := 2) (i := 5) (by decide +kernel) rfl rfl rfl rfl rfl ?_
  obtain ⟨v105, e106, h⟩ := xbnd h
  refine xs_gr (i := 279) (c := 2) (k := 1) (by decide +kernel) (by decide) (by decide +kernel) e106 rfl ?_
  refine xe_ldn (ins := .iload 8) (len := 2) (by decide +kernel) rfl rfl rfl rfl ?_
  obtain ⟨v107, e108, h⟩ := xbnd h
  refine xs_aald (by decide +kernel) hx8 e108 rfl ?_
  obtain ⟨_, e110, h⟩ := xbnd h
  obtain ⟨M111, e109, h⟩ := xbnd h
  refine xs_cv (i := 403) (j := 9) (ar := [xR_ (v107), xR_ (v103), xI (0), xI (y0)]) (rest := []) (r2 := xr_9) (by decide +kernel) (by decide +kernel) (by decide +kernel) xr_9_e rfl (by decide) (by decide) e110 ?_
  refine xc_v (k9 (d := d + 1)  hy0 (show xin (0) by decide) e109) rfl ?_
  refine xe_alr (ins := .aload_n 2) (len := 1) (i := 2) (by decide +kernel) rfl rfl rfl rfl rfl ?_
  refine xe_ldn (ins := .iload 9) (len := 2) (by decide +kernel) rfl rfl rfl rfl ?_
  refine xe_iconst (n := 1) (by decide +kernel) rfl ?_
  refine xe_alr (ins := .aload 5) (len := 2) (i := 5) (by decide +kernel) rfl rfl rfl rfl rfl ?_
  obtain ⟨v113, e114, h⟩ := xbnd h
  refine xs_gr (i := 279) (c := 2) (k := 1) (by decide +kernel) (by decide) (by decide +kernel) e114 rfl ?_
  refine xe_ldn (ins := .iload 8) (len := 2) (by decide +kernel) rfl rfl rfl rfl ?_
  obtain ⟨v115, e116, h⟩ := xbnd h
  refine xs_aald (by decide +kernel) hx8 e116 rfl ?_
  refine xe_alr (ins := .aload_n 3) (len := 1) (i := 3) (by decide +kernel) rfl rfl rfl rfl rfl ?_
  obtain ⟨v117, e118, h⟩ := xbnd h
  refine xs_gr (i := 279) (c := 2) (k := 1) (by decide +kernel) (by decide) (by decide +kernel) e118 rfl ?_
  refine xe_ldn (ins := .iload 8) (len := 2) (by decide +kernel) rfl rfl rfl rfl ?_
  obtain ⟨v119, e120, h⟩ := xbnd h
  refine xs_aald (by decide +kernel) hx8 e120 rfl ?_
  obtain ⟨_, e122, h⟩ := xbnd h
  obtain ⟨M123, e121, h⟩ := xbnd h
  refine xs_cv (i := 403) (j := 9) (ar := [xR_ (v119), xR_ (v115), xI (1), xI (y0)]) (rest := []) (r2 := xr_9) (by decide +kernel) (by decide +kernel) (by decide +kernel) xr_9_e rfl (by decide) (by decide) e122 ?_
  refine xc_v (k9 (d := d + 1)  hy0 (show xin (1) by decide) e121) rfl ?_
  refine xW_lv rfl (l := [(2, xR_ (x2)), (3, xR_ (x3)), (5, xR_ (x5)), (7, xI (x7)), (8, xI (x8))]) (xsb_of ⟨rfl, rfl, rfl, rfl, rfl, trivial⟩ (show [9, 2, 3, 5, 7, 8].Nodup by decide)) ?_
  exact k189_315  hr219 hx7 hx8 h
def f189_219b  (r219 : Nat → Nat → Nat → Int → Int → xj_M → Option (Int × xj_M)) (f : Nat) (x2 : Nat) (x3 : Nat) (x5 : Nat) (x7 : Int) (x8 : Int) (M : xj_M) : Option (Int × xj_M) := ((xq_gr 2 0 (x3) M).bind fun v125 => ((xq_gi 3 1 (v125) M).bind fun v127 => (if (v127) ≤ (x8) then (some (x7, M)) else ((xq_gr 2 0 (x3) M).bind fun v130 => ((xq_gr 3 5 (v130) M).bind fun v132 => ((xq_ab (v132) (x8) M).bind fun v134 => (if (v134) = 0 then f189_315  r219 f (x2) (x3) (x5) (x7) (x8) M else ((xq_gr 1 7 (x2) M).bind fun v137 => (if (v137) = 0 then f189_269  r219 f (x2) (x3) (x5) (x7) (x8) (x8) M else ((xq_gr 1 7 (x2) M).bind fun v140 => ((xq_gr 2 0 (x3) M).bind fun v142 => ((xq_is 3 (v140) M).bind fun _ => ((f22  f (v140) (v142) (x8) M).bind fun R146 => f189_269  r219 f (x2) (x3) (x5) (x7) (x8) (R146.1) R146.2)))))))))))))
theorem k189_219b {d f : Nat}  {r219 : Nat → Nat → Nat → Int → Int → xj_M → Option (Int × xj_M)}  (hr219 : ∀ {x2 : Nat} {x3 : Nat} {x5 : Nat} {x7 : Int} {x8 : Int} {M : xj_M} {R : Int × xj_M}, xin x7 → xin x8 → r219 x2 x3 x5 x7 x8 M = some R → xW (d + 5) (none, d + 5, none) xr_189 (219, [(2, xR_ x2), (3, xR_ x3), (5, xR_ x5), (7, xI x7), (8, xI x8)], [], M) (xQi R)) {x2 : Nat} {x3 : Nat} {x5 : Nat} {x7 : Int} {x8 : Int} {M : xj_M} {R : Int × xj_M} (hx7 : xin x7) (hx8 : xin x8) (h : f189_219b  r219 f x2 x3 x5 x7 x8 M = some R) : xW (d + 5) (none, d + 5, none) xr_189 (219, [(2, xR_ x2), (3, xR_ x3), (5, xR_ x5), (7, xI x7), (8, xI x8)], [], M) (xQi R) := by
  unfold f189_219b at h
  refine xe_ldn (ins := .iload 8) (len := 2) (by decide +kernel) rfl rfl rfl rfl ?_
  refine xe_alr (ins := .aload_n 3) (len := 1) (i := 3) (by decide +kernel) rfl rfl rfl rfl rfl ?_
  obtain ⟨v125, e126, h⟩ := xbnd h
  refine xs_gr (i := 149) (c := 2) (k := 0) (by decide +kernel) (by decide) (by decide +kernel) e126 rfl ?_
  obtain ⟨v127, e128, h⟩ := xbnd h
  refine xs_gi (i := 253) (c := 3) (k := 1) (by decide +kernel) (by decide) (by decide +kernel) e128 rfl ?_
  refine xe_icmpge (off := 93) (t := 321) (by decide +kernel) (by decide) rfl hx8 (xq_gi_in e128) (fun c129 => ?_) (fun c129 => ?_)
  · rw [if_pos c129] at h
    refine xe_ldn (ins := .iload 7) (len := 2) (by decide +kernel) rfl rfl rfl rfl ?_
    cases h
    exact xe_ret_i (ty := .int) (by decide +kernel) rfl rfl ⟨rfl, rfl, hx7⟩
  · rw [if_neg c129] at h
    refine xe_alr (ins := .aload_n 3) (len := 1) (i := 3) (by decide +kernel) rfl rfl rfl rfl rfl ?_
    obtain ⟨v130, e131, h⟩ := xbnd h
    refine xs_gr (i := 149) (c := 2) (k := 0) (by decide +kernel) (by decide) (by decide +kernel) e131 rfl ?_
    obtain ⟨v132, e133, h⟩ := xbnd h
    refine xs_gr (i := 268) (c := 3) (k := 5) (by decide +kernel) (by decide) (by decide +kernel) e133 rfl ?_
    refine xe_ldn (ins := .iload 8) (len := 2) (by decide +kernel) rfl rfl rfl rfl ?_
    obtain ⟨v134, e135, h⟩ := xbnd h
    refine xs_bald (by decide +kernel) hx8 e135 rfl ?_
    refine xe_ifeq (off := 74) (t := 315) (by decide +kernel) (by decide) rfl (xq_ab_in e135) (fun c136 => ?_) (fun c136 => ?_)
    · rw [if_pos c136] at h
      refine xW_lv rfl (l := [(2, xR_ (x2)), (3, xR_ (x3)), (5, xR_ (x5)), (7, xI (x7)), (8, xI (x8))]) (xsb_of ⟨rfl, rfl, rfl, rfl, rfl, trivial⟩ (show [2, 3, 5, 7, 8].Nodup by decide)) ?_
      exact k189_315  hr219 hx7 hx8 h
    · rw [if_neg c136] at h
      refine xe_alr (ins := .aload_n 2) (len := 1) (i := 2) (by decide +kernel) rfl rfl rfl rfl rfl ?_
      obtain ⟨v137, e138, h⟩ := xbnd h
      refine xs_gr (i := 135) (c := 1) (k := 7) (by decide +kernel) (by decide) (by decide +kernel) e138 rfl ?_
      refine xe_ifnonnull (off := 8) (t := 256) (by decide +kernel) (by decide) rfl (fun c139 => ?_) (fun c139 => ?_)
      · rw [if_neg c139] at h
        refine xe_alr (ins := .aload_n 2) (len := 1) (i := 2) (by decide +kernel) rfl rfl rfl rfl rfl ?_
        obtain ⟨v140, e141, h⟩ := xbnd h
        refine xs_gr (i := 135) (c := 1) (k := 7) (by decide +kernel) (by decide) (by decide +kernel) e141 rfl ?_
        refine xe_alr (ins := .aload_n 3) (len := 1) (i := 3) (by decide +kernel) rfl rfl rfl rfl rfl ?_
        obtain ⟨v142, e143, h⟩ := xbnd h
        refine xs_gr (i := 149) (c := 2) (k := 0) (by decide +kernel) (by decide) (by decide +kernel) e143 rfl ?_
        refine xe_ldn (ins := .iload 8) (len := 2) (by decide +kernel) rfl rfl rfl rfl ?_
        obtain ⟨_, e145, h⟩ := xbnd h
        obtain ⟨R146, e144, h⟩ := xbnd h
        refine xs_cv (i := 399) (j := 22) (ar := [xI (x8), xR_ (v142)]) (rest := []) (r2 := xr_22) (by decide +kernel) (by decide +kernel) (by decide +kernel) xr_22_e rfl (by decide) (by decide) e145 ?_
        refine xc_i (k22 (d := d + 2)  hx8 e144) rfl (fun hi147 => ?_)
        refine xW_lv rfl (l := [(2, xR_ (x2)), (3, xR_ (x3)), (5, xR_ (x5)), (7, xI (x7)), (8, xI (x8))]) (xsb_of ⟨rfl, rfl, rfl, rfl, rfl, trivial⟩ (show [2, 3, 5, 7, 8].Nodup by decide)) ?_
        exact k189_269  hr219 hx7 hx8 hi147 h
      · rw [if_pos c139] at h
        refine xe_ldn (ins := .iload 8) (len := 2) (by decide +kernel) rfl rfl rfl rfl ?_
        refine xe_goto (off := 16) (nx := 269) (by decide +kernel) (by decide) ?_
        refine xW_lv rfl (l := [(2, xR_ (x2)), (3, xR_ (x3)), (5, xR_ (x5)), (7, xI (x7)), (8, xI (x8))]) (xsb_of ⟨rfl, rfl, rfl, rfl, rfl, trivial⟩ (show [2, 3, 5, 7, 8].Nodup by decide)) ?_
        exact k189_269  hr219 hx7 hx8 hx8 h
def f189_219   (f : Nat) : Nat → Nat → Nat → Nat → Int → Int → xj_M → Option (Int × xj_M)
  | 0, _, _, _, _, _, _ => none
  | n + 1, x2, x3, x5, x7, x8, M => f189_219b   (f189_219   f n) f x2 x3 x5 x7 x8 M
theorem k189_219 {d f : Nat}     : ∀ {n : Nat} {x2 : Nat} {x3 : Nat} {x5 : Nat} {x7 : Int} {x8 : Int} {M : xj_M} {R : Int × xj_M}, xin x7 → xin x8 → f189_219   f n x2 x3 x5 x7 x8 M = some R → xW (d + 5) (none, d + 5, none) xr_189 (219, [(2, xR_ x2), (3, xR_ x3), (5, xR_ x5), (7, xI x7), (8, xI x8)], [], M) (xQi R) := by
  intro n
  induction n with
  | zero => intros; rename_i h; cases h
  | succ n ih => intros; rename_i h; exact k189_219b   ih (by assumption) (by assumption) h
def f189_152b  (r152 : Nat → Nat → Nat → Int → Int → xj_M → Option (Int × xj_M)) (f : Nat) (x2 : Nat) (x3 : Nat) (x5 : Nat) (x7 : Int) (x8 : Int) (M : xj_M) : Option (Int × xj_M) := ((xq_gr 2 0 (x3) M).bind fun v148 => ((xq_gi 3 1 (v148) M).bind fun v150 => (if (v150) ≤ (x8) then ((xq_gi 1 8 (x2) M).bind fun v153 => (if (xwr ((v153) + (x7))) ≤ (400) then f189_219   f f (x2) (x3) (x5) (x7) (0) M else (some (-4, M)))) else ((xq_gr 2 0 (x3) M).bind fun v156 => ((xq_gr 3 5 (v156) M).bind fun v158 => ((xq_ab (v158) (x8) M).bind fun v160 => (if (v160) = 0 then f189_191  r152 f (x2) (x3) (x5) (x8) (0) (x7) M else ((xq_is 2 (x5) M).bind fun _ => ((f18  f (x5) (x3) (x8) M).bind fun R165 => f189_191  r152 f (x2) (x3) (x5) (x8) (R165.1) (x7) R165.2)))))))))
theorem k189_152b {d f : Nat}  {r152 : Nat → Nat → Nat → Int → Int → xj_M → Option (Int × xj_M)}  (hr152 : ∀ {x2 : Nat} {x3 : Nat} {x5 : Nat} {x7 : Int} {x8 : Int} {M : xj_M} {R : Int × xj_M}, xin x7 → xin x8 → r152 x2 x3 x5 x7 x8 M = some R → xW (d + 5) (none, d + 5, none) xr_189 (152, [(2, xR_ x2), (3, xR_ x3), (5, xR_ x5), (7, xI x7), (8, xI x8)], [], M) (xQi R)) {x2 : Nat} {x3 : Nat} {x5 : Nat} {x7 : Int} {x8 : Int} {M : xj_M} {R : Int × xj_M} (hx7 : xin x7) (hx8 : xin x8) (h : f189_152b  r152 f x2 x3 x5 x7 x8 M = some R) : xW (d + 5) (none, d + 5, none) xr_189 (152, [(2, xR_ x2), (3, xR_ x3), (5, xR_ x5), (7, xI x7), (8, xI x8)], [], M) (xQi R) := by
  unfold f189_152b at h
  refine xe_ldn (ins := .iload 8) (len := 2) (by decide +kernel) rfl rfl rfl rfl ?_
  refine xe_alr (ins := .aload_n 3) (len := 1) (i := 3) (by decide +kernel) rfl rfl rfl rfl rfl ?_
  obtain ⟨v148, e149, h⟩ := xbnd h
  refine xs_gr (i := 149) (c := 2) (k := 0) (by decide +kernel) (by decide) (by decide +kernel) e149 rfl ?_
  obtain ⟨v150, e151, h⟩ := xbnd h
  refine xs_gi (i := 253) (c := 3) (k := 1) (by decide +kernel) (by decide) (by decide +kernel) e151 rfl ?_
  refine xe_icmpge (off := 39) (t := 200) (by decide +kernel) (by decide) rfl hx8 (xq_gi_in e151) (fun c152 => ?_) (fun c152 => ?_)
  · rw [if_pos c152] at h
    refine xe_alr (ins := .aload_n 2) (len := 1) (i := 2) (by decide +kernel) rfl rfl rfl rfl rfl ?_
    obtain ⟨v153, e154, h⟩ := xbnd h
    refine xs_gi (i := 139) (c := 1) (k := 8) (by decide +kernel) (by decide) (by decide +kernel) e154 rfl ?_
    refine xe_ldn (ins := .iload 7) (len := 2) (by decide +kernel) rfl rfl rfl rfl ?_
    refine xe_iadd (by decide +kernel) rfl ?_
    refine xe_sipush (n := 400) (by decide +kernel) (by decide) rfl ?_
    refine xe_icmple (off := 6) (t := 216) (by decide +kernel) (by decide) rfl (xin_wr _) (show xin (400) by decide) (fun c155 => ?_) (fun c155 => ?_)
    · rw [if_pos c155] at h
      refine xe_iconst (n := 0) (by decide +kernel) rfl ?_
      refine xe_isr (ins := .istore 8) (len := 2) (i := 8) (by decide +kernel) rfl rfl rfl (by decide) (xk_k (show ¬ (2 : Nat) = 8 by decide) (Or.inl (show ¬ (2 + 1 : Nat) = 8 by decide)) (xk_k (show ¬ (3 : Nat) = 8 by decide) (Or.inl (show ¬ (3 + 1 : Nat) = 8 by decide)) (xk_k (show ¬ (5 : Nat) = 8 by decide) (Or.inl (show ¬ (5 + 1 : Nat) = 8 by decide)) (xk_k (show ¬ (7 : Nat) = 8 by decide) (Or.inr (xI_cat _)) (xk_d rfl xk_n))))) rfl ?_
      refine xW_lv rfl (l := [(2, xR_ (x2)), (3, xR_ (x3)), (5, xR_ (x5)), (7, xI (x7)), (8, xI (0))]) (xsb_of ⟨rfl, rfl, rfl, rfl, rfl, trivial⟩ (show [8, 2, 3, 5, 7].Nodup by decide)) ?_
      exact k189_219   hx7 (show xin (0) by decide) h
    · rw [if_neg c155] at h
      refine xe_bipush (n := -4) (by decide +kernel) (by decide) rfl ?_
      cases h
      exact xe_ret_i (ty := .int) (by decide +kernel) rfl rfl ⟨rfl, rfl, (show xin (-4) by decide)⟩
  · rw [if_neg c152] at h
    refine xe_ldn (ins := .iload 7) (len := 2) (by decide +kernel) rfl rfl rfl rfl ?_
    refine xe_alr (ins := .aload_n 3) (len := 1) (i := 3) (by decide +kernel) rfl rfl rfl rfl rfl ?_
    obtain ⟨v156, e157, h⟩ := xbnd h
    refine xs_gr (i := 149) (c := 2) (k := 0) (by decide +kernel) (by decide) (by decide +kernel) e157 rfl ?_
    obtain ⟨v158, e159, h⟩ := xbnd h
    refine xs_gr (i := 268) (c := 3) (k := 5) (by decide +kernel) (by decide) (by decide +kernel) e159 rfl ?_
    refine xe_ldn (ins := .iload 8) (len := 2) (by decide +kernel) rfl rfl rfl rfl ?_
    obtain ⟨v160, e161, h⟩ := xbnd h
    refine xs_bald (by decide +kernel) hx8 e161 rfl ?_
    refine xe_ifeq (off := 14) (t := 190) (by decide +kernel) (by decide) rfl (xq_ab_in e161) (fun c162 => ?_) (fun c162 => ?_)
    · rw [if_pos c162] at h
      refine xe_iconst (n := 0) (by decide +kernel) rfl ?_
      refine xW_lv rfl (l := [(2, xR_ (x2)), (3, xR_ (x3)), (5, xR_ (x5)), (8, xI (x8))]) (xsb_of ⟨rfl, rfl, rfl, rfl, trivial⟩ (show [2, 3, 5, 7, 8].Nodup by decide)) ?_
      exact k189_191  hr152 hx8 (show xin (0) by decide) hx7 h
    · rw [if_neg c162] at h
      refine xe_alr (ins := .aload 5) (len := 2) (i := 5) (by decide +kernel) rfl rfl rfl rfl rfl ?_
      refine xe_alr (ins := .aload_n 3) (len := 1) (i := 3) (by decide +kernel) rfl rfl rfl rfl rfl ?_
      refine xe_ldn (ins := .iload 8) (len := 2) (by decide +kernel) rfl rfl rfl rfl ?_
      obtain ⟨_, e164, h⟩ := xbnd h
      obtain ⟨R165, e163, h⟩ := xbnd h
      refine xs_cv (i := 284) (j := 18) (ar := [xI (x8), xR_ (x3)]) (rest := [xI (x7)]) (r2 := xr_18) (by decide +kernel) (by decide +kernel) (by decide +kernel) xr_18_e rfl (by decide) (by simp only [List.map_cons, List.map_nil, List.sum_cons, List.sum_nil, xR_cat, xI_cat, xZ_cat]; decide) e164 ?_
      refine xc_i (k18 (d := d + 2)  hx8 e163) rfl (fun hi166 => ?_)
      refine xe_goto (off := 4) (nx := 191) (by decide +kernel) (by decide) ?_
      refine xW_lv rfl (l := [(2, xR_ (x2)), (3, xR_ (x3)), (5, xR_ (x5)), (8, xI (x8))]) (xsb_of ⟨rfl, rfl, rfl, rfl, trivial⟩ (show [2, 3, 5, 7, 8].Nodup by decide)) ?_
      exact k189_191  hr152 hx8 hi166 hx7 h
def f189_152   (f : Nat) : Nat → Nat → Nat → Nat → Int → Int → xj_M → Option (Int × xj_M)
  | 0, _, _, _, _, _, _ => none
  | n + 1, x2, x3, x5, x7, x8, M => f189_152b   (f189_152   f n) f x2 x3 x5 x7 x8 M
theorem k189_152 {d f : Nat}     : ∀ {n : Nat} {x2 : Nat} {x3 : Nat} {x5 : Nat} {x7 : Int} {x8 : Int} {M : xj_M} {R : Int × xj_M}, xin x7 → xin x8 → f189_152   f n x2 x3 x5 x7 x8 M = some R → xW (d + 5) (none, d + 5, none) xr_189 (152, [(2, xR_ x2), (3, xR_ x3), (5, xR_ x5), (7, xI x7), (8, xI x8)], [], M) (xQi R) := by
  intro n
  induction n with
  | zero => intros; rename_i h; cases h
  | succ n ih => intros; rename_i h; exact k189_152b   ih (by assumption) (by assumption) h
def f189  (f : Nat) (a0 : Nat) (a1 : Int) (M : xj_M) : Option (Int × xj_M) := ((xq_gr 11 5 (a0) M).bind fun v167 => ((xq_gi 11 6 (a0) M).bind fun v169 => ((xq_ar (v167) (v169) M).bind fun v171 => (if (a1) < 0 then f189_59   f  M else (if (4) ≤ (a1) then f189_59   f  M else ((xq_gi 11 6 (a0) M).bind fun v175 => (if (a1) = (v175) then f189_59   f  M else ((xq_gr 11 5 (a0) M).bind fun v178 => ((xq_ar (v178) (a1) M).bind fun v180 => ((xq_gi 1 3 (v180) M).bind fun v182 => ((xq_gi 11 6 (a0) M).bind fun v184 => (if ¬ (v182) = (v184) then f189_59   f  M else ((xq_gr 11 5 (a0) M).bind fun v187 => ((xq_ar (v187) (a1) M).bind fun v189 => ((xq_gi 1 4 (v189) M).bind fun v191 => ((xq_is 1 (v171) M).bind fun _ => ((f6  f (v171) (v191) M).bind fun R195 => (if ¬ (R195.1) = 0 then ((xq_gr 1 0 (v171) R195.2).bind fun v198 => ((xq_gr 11 5 (a0) R195.2).bind fun v200 => ((xq_ar (v200) (a1) R195.2).bind fun v202 => ((xq_gi 1 4 (v202) R195.2).bind fun v204 => ((xq_ar (v198) (v204) R195.2).bind fun v206 => ((xq_is 1 (v171) R195.2).bind fun _ => ((f5  f (v171) R195.2).bind fun R210 => ((xq_gr 11 5 (a0) R210.2).bind fun v212 => ((xq_ar (v212) (a1) R210.2).bind fun v214 => ((xq_is 1 (v214) R210.2).bind fun _ => ((f5  f (v214) R210.2).bind fun R218 => ((xq_gr 2 0 (v206) R218.2).bind fun v220 => ((xq_gi 3 0 (v220) R218.2).bind fun v222 => ((xq_gr 2 0 (R210.1) R218.2).bind fun v224 => ((xq_gi 3 0 (v224) R218.2).bind fun v226 => (if ¬ (v226) = (v222) then f189_128   f  R218.2 else ((xq_gr 2 0 (R218.1) R218.2).bind fun v229 => ((xq_gi 3 0 (v229) R218.2).bind fun v231 => (if (v231) = (v222) then ((xq_is 11 (a0) R218.2).bind fun _ => ((f190  f (a0) (R210.1) (R218.1) (v206) R218.2).bind fun R236 => (if (R236.1) = 0 then f189_152   f f (v171) (v206) (R218.1) (0) (0) R236.2 else (some (-3, R236.2))))) else f189_128   f  R218.2))))))))))))))))))) else f189_59   f  R195.2))))))))))))))))))
theorem k189 {d f : Nat}   {a0 : Nat} {a1 : Int} {M : xj_M} {R : Int × xj_M} (ha1 : xin a1) (h : f189  f a0 a1 M = some R) : xT (d + 6) 189 [xR_ a0, xI a1] M (xQi R) := by
  refine xT_m xr_189_e (X := (none, d + 5, none)) rfl (xa_1 (xR_cat _) (xa_1 (xI_cat _) xa_n)) (by decide) ?_
  unfold f189 at h
  refine xe_alr (ins := .aload_n 0) (len := 1) (i := 0) (by decide +kernel) rfl rfl rfl rfl rfl ?_
  obtain ⟨v167, e168, h⟩ := xbnd h
  refine xs_gr (i := 50) (c := 11) (k := 5) (by decide +kernel) (by decide) (by decide +kernel) e168 rfl ?_
  refine xe_alr (ins := .aload_n 0) (len := 1) (i := 0) (by decide +kernel) rfl rfl rfl rfl rfl ?_
  obtain ⟨v169, e170, h⟩ := xbnd h
  refine xs_gi (i := 132) (c := 11) (k := 6) (by decide +kernel) (by decide) (by decide +kernel) e170 rfl ?_
  obtain ⟨v171, e172, h⟩ := xbnd h
  refine xs_aald (by decide +kernel) (xq_gi_in e170) e172 rfl ?_
  refine xe_asr (ins := .astore_n 2) (len := 1) (i := 2) (by decide +kernel) rfl rfl rfl (by decide) (xk_k (show ¬ (0 : Nat) = 2 by decide) (Or.inl (show ¬ (0 + 1 : Nat) = 2 by decide)) (xk_k (show ¬ (1 : Nat) = 2 by decide) (Or.inr (xI_cat _)) xk_n)) rfl ?_
  refine xe_ldn (ins := .iload_n 1) (len := 1) (by decide +kernel) rfl rfl rfl rfl ?_
  refine xe_iflt (off := 48) (t := 59) (by decide +kernel) (by decide) rfl ha1 (fun c173 => ?_) (fun c173 => ?_)
  · rw [if_pos c173] at h
    refine xW_lv rfl (l := []) (xsb_of trivial (show [2, 0, 1].Nodup by decide)) ?_
    exact k189_59    h
  · rw [if_neg c173] at h
    refine xe_ldn (ins := .iload_n 1) (len := 1) (by decide +kernel) rfl rfl rfl rfl ?_
    refine xe_iconst (n := 4) (by decide +kernel) rfl ?_
    refine xe_icmpge (off := 43) (t := 59) (by decide +kernel) (by decide) rfl ha1 (show xin (4) by decide) (fun c174 => ?_) (fun c174 => ?_)
    · rw [if_pos c174] at h
      refine xW_lv rfl (l := []) (xsb_of trivial (show [2, 0, 1].Nodup by decide)) ?_
      exact k189_59    h
    · rw [if_neg c174] at h
      refine xe_ldn (ins := .iload_n 1) (len := 1) (by decide +kernel) rfl rfl rfl rfl ?_
      refine xe_alr (ins := .aload_n 0) (len := 1) (i := 0) (by decide +kernel) rfl rfl rfl rfl rfl ?_
      obtain ⟨v175, e176, h⟩ := xbnd h
      refine xs_gi (i := 132) (c := 11) (k := 6) (by decide +kernel) (by decide) (by decide +kernel) e176 rfl ?_
      refine xe_icmpeq (off := 35) (t := 59) (by decide +kernel) (by decide) rfl ha1 (xq_gi_in e176) (fun c177 => ?_) (fun c177 => ?_)
      · rw [if_pos c177] at h
        refine xW_lv rfl (l := []) (xsb_of trivial (show [2, 0, 1].Nodup by decide)) ?_
        exact k189_59    h
      · rw [if_neg c177] at h
        refine xe_alr (ins := .aload_n 0) (len := 1) (i := 0) (by decide +kernel) rfl rfl rfl rfl rfl ?_
        obtain ⟨v178, e179, h⟩ := xbnd h
        refine xs_gr (i := 50) (c := 11) (k := 5) (by decide +kernel) (by decide) (by decide +kernel) e179 rfl ?_
        refine xe_ldn (ins := .iload_n 1) (len := 1) (by decide +kernel) rfl rfl rfl rfl ?_
        obtain ⟨v180, e181, h⟩ := xbnd h
        refine xs_aald (by decide +kernel) ha1 e181 rfl ?_
        obtain ⟨v182, e183, h⟩ := xbnd h
        refine xs_gi (i := 382) (c := 1) (k := 3) (by decide +kernel) (by decide) (by decide +kernel) e183 rfl ?_
        refine xe_alr (ins := .aload_n 0) (len := 1) (i := 0) (by decide +kernel) rfl rfl rfl rfl rfl ?_
        obtain ⟨v184, e185, h⟩ := xbnd h
        refine xs_gi (i := 132) (c := 11) (k := 6) (by decide +kernel) (by decide) (by decide +kernel) e185 rfl ?_
        refine xe_icmpne (off := 19) (t := 59) (by decide +kernel) (by decide) rfl (xq_gi_in e183) (xq_gi_in e185) (fun c186 => ?_) (fun c186 => ?_)
        · rw [if_pos c186] at h
          refine xW_lv rfl (l := []) (xsb_of trivial (show [2, 0, 1].Nodup by decide)) ?_
          exact k189_59    h
        · rw [if_neg c186] at h
          refine xe_alr (ins := .aload_n 2) (len := 1) (i := 2) (by decide +kernel) rfl rfl rfl rfl rfl ?_
          refine xe_alr (ins := .aload_n 0) (len := 1) (i := 0) (by decide +kernel) rfl rfl rfl rfl rfl ?_
          obtain ⟨v187, e188, h⟩ := xbnd h
          refine xs_gr (i := 50) (c := 11) (k := 5) (by decide +kernel) (by decide) (by decide +kernel) e188 rfl ?_
          refine xe_ldn (ins := .iload_n 1) (len := 1) (by decide +kernel) rfl rfl rfl rfl ?_
          obtain ⟨v189, e190, h⟩ := xbnd h
          refine xs_aald (by decide +kernel) ha1 e190 rfl ?_
          obtain ⟨v191, e192, h⟩ := xbnd h
          refine xs_gi (i := 385) (c := 1) (k := 4) (by decide +kernel) (by decide) (by decide +kernel) e192 rfl ?_
          obtain ⟨_, e194, h⟩ := xbnd h
          obtain ⟨R195, e193, h⟩ := xbnd h
          refine xs_cv (i := 371) (j := 6) (ar := [xI (v191)]) (rest := []) (r2 := xr_6) (by decide +kernel) (by decide +kernel) (by decide +kernel) xr_6_e rfl (by decide) (by decide) e194 ?_
          refine xc_i (k6 (d := d + 4)  (xq_gi_in e192) e193) rfl (fun hi196 => ?_)
          refine xe_ifne (off := 5) (t := 61) (by decide +kernel) (by decide) rfl hi196 (fun c197 => ?_) (fun c197 => ?_)
          · rw [if_pos c197] at h
            refine xe_alr (ins := .aload_n 2) (len := 1) (i := 2) (by decide +kernel) rfl rfl rfl rfl rfl ?_
            obtain ⟨v198, e199, h⟩ := xbnd h
            refine xs_gr (i := 375) (c := 1) (k := 0) (by decide +kernel) (by decide) (by decide +kernel) e199 rfl ?_
            refine xe_alr (ins := .aload_n 0) (len := 1) (i := 0) (by decide +kernel) rfl rfl rfl rfl rfl ?_
            obtain ⟨v200, e201, h⟩ := xbnd h
            refine xs_gr (i := 50) (c := 11) (k := 5) (by decide +kernel) (by decide) (by decide +kernel) e201 rfl ?_
            refine xe_ldn (ins := .iload_n 1) (len := 1) (by decide +kernel) rfl rfl rfl rfl ?_
            obtain ⟨v202, e203, h⟩ := xbnd h
            refine xs_aald (by decide +kernel) ha1 e203 rfl ?_
            obtain ⟨v204, e205, h⟩ := xbnd h
            refine xs_gi (i := 385) (c := 1) (k := 4) (by decide +kernel) (by decide) (by decide +kernel) e205 rfl ?_
            obtain ⟨v206, e207, h⟩ := xbnd h
            refine xs_aald (by decide +kernel) (xq_gi_in e205) e207 rfl ?_
            refine xe_asr (ins := .astore_n 3) (len := 1) (i := 3) (by decide +kernel) rfl rfl rfl (by decide) (xk_k (show ¬ (2 : Nat) = 3 by decide) (Or.inr (xR_cat _)) (xk_k (show ¬ (0 : Nat) = 3 by decide) (Or.inl (show ¬ (0 + 1 : Nat) = 3 by decide)) (xk_k (show ¬ (1 : Nat) = 3 by decide) (Or.inl (show ¬ (1 + 1 : Nat) = 3 by decide)) xk_n))) rfl ?_
            refine xe_alr (ins := .aload_n 2) (len := 1) (i := 2) (by decide +kernel) rfl rfl rfl rfl rfl ?_
            obtain ⟨_, e209, h⟩ := xbnd h
            obtain ⟨R210, e208, h⟩ := xbnd h
            refine xs_cv (i := 145) (j := 5) (ar := []) (rest := []) (r2 := xr_5) (by decide +kernel) (by decide +kernel) (by decide +kernel) xr_5_e rfl (by decide) (by decide) e209 ?_
            refine xc_r (k5 (d := d + 4)   e208) rfl ?_
            refine xe_asr (ins := .astore 4) (len := 2) (i := 4) (by decide +kernel) rfl rfl rfl (by decide) (xk_k (show ¬ (3 : Nat) = 4 by decide) (Or.inr (xR_cat _)) (xk_k (show ¬ (2 : Nat) = 4 by decide) (Or.inl (show ¬ (2 + 1 : Nat) = 4 by decide)) (xk_k (show ¬ (0 : Nat) = 4 by decide) (Or.inl (show ¬ (0 + 1 : Nat) = 4 by decide)) (xk_k (show ¬ (1 : Nat) = 4 by decide) (Or.inl (show ¬ (1 + 1 : Nat) = 4 by decide)) xk_n)))) rfl ?_
            refine xe_alr (ins := .aload_n 0) (len := 1) (i := 0) (by decide +kernel) rfl rfl rfl rfl rfl ?_
            obtain ⟨v212, e213, h⟩ := xbnd h
            refine xs_gr (i := 50) (c := 11) (k := 5) (by decide +kernel) (by decide) (by decide +kernel) e213 rfl ?_
            refine xe_ldn (ins := .iload_n 1) (len := 1) (by decide +kernel) rfl rfl rfl rfl ?_
            obtain ⟨v214, e215, h⟩ := xbnd h
            refine xs_aald (by decide +kernel) ha1 e215 rfl ?_
            obtain ⟨_, e217, h⟩ := xbnd h
            obtain ⟨R218, e216, h⟩ := xbnd h
            refine xs_cv (i := 145) (j := 5) (ar := []) (rest := []) (r2 := xr_5) (by decide +kernel) (by decide +kernel) (by decide +kernel) xr_5_e rfl (by decide) (by decide) e217 ?_
            refine xc_r (k5 (d := d + 4)   e216) rfl ?_
            refine xe_asr (ins := .astore 5) (len := 2) (i := 5) (by decide +kernel) rfl rfl rfl (by decide) (xk_k (show ¬ (4 : Nat) = 5 by decide) (Or.inr (xR_cat _)) (xk_k (show ¬ (3 : Nat) = 5 by decide) (Or.inl (show ¬ (3 + 1 : Nat) = 5 by decide)) (xk_k (show ¬ (2 : Nat) = 5 by decide) (Or.inl (show ¬ (2 + 1 : Nat) = 5 by decide)) (xk_k (show ¬ (0 : Nat) = 5 by decide) (Or.inl (show ¬ (0 + 1 : Nat) = 5 by decide)) (xk_k (show ¬ (1 : Nat) = 5 by decide) (Or.inl (show ¬ (1 + 1 : Nat) = 5 by decide)) xk_n))))) rfl ?_
            refine xe_alr (ins := .aload_n 3) (len := 1) (i := 3) (by decide +kernel) rfl rfl rfl rfl rfl ?_
            obtain ⟨v220, e221, h⟩ := xbnd h
            refine xs_gr (i := 149) (c := 2) (k := 0) (by decide +kernel) (by decide) (by decide +kernel) e221 rfl ?_
            obtain ⟨v222, e223, h⟩ := xbnd h
            refine xs_gi (i := 392) (c := 3) (k := 0) (by decide +kernel) (by decide) (by decide +kernel) e223 rfl ?_
            refine xe_isr (ins := .istore 6) (len := 2) (i := 6) (by decide +kernel) rfl rfl rfl (by decide) (xk_k (show ¬ (5 : Nat) = 6 by decide) (Or.inr (xR_cat _)) (xk_k (show ¬ (4 : Nat) = 6 by decide) (Or.inl (show ¬ (4 + 1 : Nat) = 6 by decide)) (xk_k (show ¬ (3 : Nat) = 6 by decide) (Or.inl (show ¬ (3 + 1 : Nat) = 6 by decide)) (xk_k (show ¬ (2 : Nat) = 6 by decide) (Or.inl (show ¬ (2 + 1 : Nat) = 6 by decide)) (xk_k (show ¬ (0 : Nat) = 6 by decide) (Or.inl (show ¬ (0 + 1 : Nat) = 6 by decide)) (xk_k (show ¬ (1 : Nat) = 6 by decide) (Or.inl (show ¬ (1 + 1 : Nat) = 6 by decide)) xk_n)))))) rfl ?_
            refine xe_alr (ins := .aload 4) (len := 2) (i := 4) (by decide +kernel) rfl rfl rfl rfl rfl ?_
            obtain ⟨v224, e225, h⟩ := xbnd h
            refine xs_gr (i := 149) (c := 2) (k := 0) (by decide +kernel) (by decide) (by decide +kernel) e225 rfl ?_
            obtain ⟨v226, e227, h⟩ := xbnd h
            refine xs_gi (i := 392) (c := 3) (k := 0) (by decide +kernel) (by decide) (by decide +kernel) e227 rfl ?_
            refine xe_ldn (ins := .iload 6) (len := 2) (by decide +kernel) rfl rfl rfl rfl ?_
            refine xe_icmpne (off := 16) (t := 128) (by decide +kernel) (by decide) rfl (xq_gi_in e227) (xq_gi_in e223) (fun c228 => ?_) (fun c228 => ?_)
            · rw [if_pos c228] at h
              refine xW_lv rfl (l := []) (xsb_of trivial (show [6, 5, 4, 3, 2, 0, 1].Nodup by decide)) ?_
              exact k189_128    h
            · rw [if_neg c228] at h
              refine xe_alr (ins := .aload 5) (len := 2) (i := 5) (by decide +kernel) rfl rfl rfl rfl rfl ?_
              obtain ⟨v229, e230, h⟩ := xbnd h
              refine xs_gr (i := 149) (c := 2) (k := 0) (by decide +kernel) (by decide) (by decide +kernel) e230 rfl ?_
              obtain ⟨v231, e232, h⟩ := xbnd h
              refine xs_gi (i := 392) (c := 3) (k := 0) (by decide +kernel) (by decide) (by decide +kernel) e232 rfl ?_
              refine xe_ldn (ins := .iload 6) (len := 2) (by decide +kernel) rfl rfl rfl rfl ?_
              refine xe_icmpeq (off := 6) (t := 131) (by decide +kernel) (by decide) rfl (xq_gi_in e232) (xq_gi_in e223) (fun c233 => ?_) (fun c233 => ?_)
              · rw [if_pos c233] at h
                refine xe_alr (ins := .aload_n 0) (len := 1) (i := 0) (by decide +kernel) rfl rfl rfl rfl rfl ?_
                refine xe_alr (ins := .aload 4) (len := 2) (i := 4) (by decide +kernel) rfl rfl rfl rfl rfl ?_
                refine xe_alr (ins := .aload 5) (len := 2) (i := 5) (by decide +kernel) rfl rfl rfl rfl rfl ?_
                refine xe_alr (ins := .aload_n 3) (len := 1) (i := 3) (by decide +kernel) rfl rfl rfl rfl rfl ?_
                obtain ⟨_, e235, h⟩ := xbnd h
                obtain ⟨R236, e234, h⟩ := xbnd h
                refine xs_cv (i := 395) (j := 190) (ar := [xR_ (v206), xR_ (R218.1), xR_ (R210.1)]) (rest := []) (r2 := xr_190) (by decide +kernel) (by decide +kernel) (by decide +kernel) xr_190_e rfl (by decide) (by decide) e235 ?_
                refine xc_i (k190 (d := d + 0)   e234) rfl (fun hi237 => ?_)
                refine xe_ifeq (off := 6) (t := 146) (by decide +kernel) (by decide) rfl hi237 (fun c238 => ?_) (fun c238 => ?_)
                · rw [if_pos c238] at h
                  refine xe_iconst (n := 0) (by decide +kernel) rfl ?_
                  refine xe_isr (ins := .istore 7) (len := 2) (i := 7) (by decide +kernel) rfl rfl rfl (by decide) (xk_k (show ¬ (6 : Nat) = 7 by decide) (Or.inr (xI_cat _)) (xk_k (show ¬ (5 : Nat) = 7 by decide) (Or.inl (show ¬ (5 + 1 : Nat) = 7 by decide)) (xk_k (show ¬ (4 : Nat) = 7 by decide) (Or.inl (show ¬ (4 + 1 : Nat) = 7 by decide)) (xk_k (show ¬ (3 : Nat) = 7 by decide) (Or.inl (show ¬ (3 + 1 : Nat) = 7 by decide)) (xk_k (show ¬ (2 : Nat) = 7 by decide) (Or.inl (show ¬ (2 + 1 : Nat) = 7 by decide)) (xk_k (show ¬ (0 : Nat) = 7 by decide) (Or.inl (show ¬ (0 + 1 : Nat) = 7 by decide)) (xk_k (show ¬ (1 : Nat) = 7 by decide) (Or.inl (show ¬ (1 + 1 : Nat) = 7 by decide)) xk_n))))))) rfl ?_
                  refine xe_iconst (n := 0) (by decide +kernel) rfl ?_
                  refine xe_isr (ins := .istore 8) (len := 2) (i := 8) (by decide +kernel) rfl rfl rfl (by decide) (xk_k (show ¬ (7 : Nat) = 8 by decide) (Or.inr (xI_cat _)) (xk_k (show ¬ (6 : Nat) = 8 by decide) (Or.inl (show ¬ (6 + 1 : Nat) = 8 by decide)) (xk_k (show ¬ (5 : Nat) = 8 by decide) (Or.inl (show ¬ (5 + 1 : Nat) = 8 by decide)) (xk_k (show ¬ (4 : Nat) = 8 by decide) (Or.inl (show ¬ (4 + 1 : Nat) = 8 by decide)) (xk_k (show ¬ (3 : Nat) = 8 by decide) (Or.inl (show ¬ (3 + 1 : Nat) = 8 by decide)) (xk_k (show ¬ (2 : Nat) = 8 by decide) (Or.inl (show ¬ (2 + 1 : Nat) = 8 by decide)) (xk_k (show ¬ (0 : Nat) = 8 by decide) (Or.inl (show ¬ (0 + 1 : Nat) = 8 by decide)) (xk_k (show ¬ (1 : Nat) = 8 by decide) (Or.inl (show ¬ (1 + 1 : Nat) = 8 by decide)) xk_n)))))))) rfl ?_
                  refine xW_lv rfl (l := [(2, xR_ (v171)), (3, xR_ (v206)), (5, xR_ (R218.1)), (7, xI (0)), (8, xI (0))]) (xsb_of ⟨rfl, rfl, rfl, rfl, rfl, trivial⟩ (show [8, 7, 6, 5, 4, 3, 2, 0, 1].Nodup by decide)) ?_
                  exact k189_152   (show xin (0) by decide) (show xin (0) by decide) h
                · rw [if_neg c238] at h
                  refine xe_bipush (n := -3) (by decide +kernel) (by decide) rfl ?_
                  cases h
                  exact xe_ret_i (ty := .int) (by decide +kernel) rfl rfl ⟨rfl, rfl, (show xin (-3) by decide)⟩
              · rw [if_neg c233] at h
                refine xW_lv rfl (l := []) (xsb_of trivial (show [6, 5, 4, 3, 2, 0, 1].Nodup by decide)) ?_
                exact k189_128    h
          · rw [if_neg c197] at h
            refine xW_lv rfl (l := []) (xsb_of trivial (show [2, 0, 1].Nodup by decide)) ?_
            exact k189_59    h
