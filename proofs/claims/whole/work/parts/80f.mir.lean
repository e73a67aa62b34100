/-! Mirrors (written by mk_mir.py) -/
-- ChangeHouse$Line.goBack
def xr_12 : xj_mR := (1, yX1_goBack, cX1_goBack, 2, (Option.none : Option Jvm.ClassFile.FieldType), 1, false, (7, 182), (1, 11))
set_option maxRecDepth 20000 in
theorem xr_12_e : xj_row 12 = some xr_12 := rfl
def f12_46   (f : Nat) (x0 : Nat) (x1 : Int) (M : xj_M) : Option (xj_M) := ((xq_pi 1 1 (x0) (x1) M).bind fun M101 => ((xq_is 1 (x0) M101).bind fun _ => ((f7  f (x0) M101).bind fun M105 => (some M105))))
theorem k12_46 {d f : Nat}     {x0 : Nat} {x1 : Int} {M : xj_M} {R : xj_M} (hx1 : xin x1) (h : f12_46   f x0 x1 M = some R) : xW (d + 1) (none, d + 1, none) xr_12 (46, [(0, xR_ x0), (1, xI x1)], [], M) (xQv R) := by
  unfold f12_46 at h
  refine xe_alr (ins := .aload_n 0) (len := 1) (i := 0) (by decide +kernel) rfl rfl rfl rfl rfl ?_
  refine xe_ldn (ins := .iload_n 1) (len := 1) (by decide +kernel) rfl rfl rfl rfl ?_
  obtain ⟨M101, e102, h⟩ := xbnd h
  refine xs_p (i := 48) (c := 1) (k := 1) (by decide +kernel) (by decide +kernel) (by decide +kernel) e102 rfl ?_
  refine xe_alr (ins := .aload_n 0) (len := 1) (i := 0) (by decide +kernel) rfl rfl rfl rfl rfl ?_
  obtain ⟨_, e104, h⟩ := xbnd h
  obtain ⟨M105, e103, h⟩ := xbnd h
  refine xs_cv (i := 117) (j := 7) (ar := []) (rest := []) (r2 := xr_7) (by decide +kernel) (by decide +kernel) (by decide +kernel) xr_7_e rfl (by decide) (by decide) e104 ?_
  refine xc_v (k7 (d := d + 0)   e103) rfl ?_
  cases h
  exact xe_ret_v (by decide +kernel) rfl ⟨rfl, rfl⟩
def f12_33   (f : Nat) (x0 : Nat) (x1 : Int) (M : xj_M) : Option (xj_M) := ((xq_gi 1 4 (x0) M).bind fun v107 => (if (v107) ≤ (x1) then f12_46   f (x0) (x1) M else ((xq_pi 1 3 (x0) (-1) M).bind fun M110 => f12_46   f (x0) (x1) M110)))
theorem k12_33 {d f : Nat}     {x0 : Nat} {x1 : Int} {M : xj_M} {R : xj_M} (hx1 : xin x1) (h : f12_33   f x0 x1 M = some R) : xW (d + 1) (none, d + 1, none) xr_12 (33, [(0, xR_ x0), (1, xI x1)], [], M) (xQv R) := by
  unfold f12_33 at h
  refine xe_ldn (ins := .iload_n 1) (len := 1) (by decide +kernel) rfl rfl rfl rfl ?_
  refine xe_alr (ins := .aload_n 0) (len := 1) (i := 0) (by decide +kernel) rfl rfl rfl rfl rfl ?_
  obtain ⟨v107, e108, h⟩ := xbnd h
  refine xs_gi (i := 114) (c := 1) (k := 4) (by decide +kernel) (by decide) (by decide +kernel) e108 rfl ?_
  refine xe_icmpge (off := 8) (t := 46) (by decide +kernel) (by decide) rfl hx1 (xq_gi_in e108) (fun c109 => ?_) (fun c109 => ?_)
  · rw [if_pos c109] at h
    refine xW_lv rfl (l := [(0, xR_ (x0)), (1, xI (x1))]) (xsb_of ⟨rfl, rfl, trivial⟩ (show [0, 1].Nodup by decide)) ?_
    exact k12_46   hx1 h
  · rw [if_neg c109] at h
    refine xe_alr (ins := .aload_n 0) (len := 1) (i := 0) (by decide +kernel) rfl rfl rfl rfl rfl ?_
    refine xe_iconst (n := -1) (by decide +kernel) rfl ?_
    obtain ⟨M110, e111, h⟩ := xbnd h
    refine xs_p (i := 17) (c := 1) (k := 3) (by decide +kernel) (by decide +kernel) (by decide +kernel) e111 rfl ?_
    refine xW_lv rfl (l := [(0, xR_ (x0)), (1, xI (x1))]) (xsb_of ⟨rfl, rfl, trivial⟩ (show [0, 1].Nodup by decide)) ?_
    exact k12_46   hx1 h
def f12  (f : Nat) (a0 : Nat) (a1 : Int) (M : xj_M) : Option (xj_M) := ((xq_gr 1 0 (a0) M).bind fun v112 => ((xq_ar (v112) (a1) M).bind fun v114 => ((xq_gr 2 0 (v114) M).bind fun v116 => ((xq_gi 3 0 (v116) M).bind fun v118 => ((xq_is 1 (a0) M).bind fun _ => ((f5  f (a0) M).bind fun R122 => ((xq_gr 2 0 (R122.1) R122.2).bind fun v124 => ((xq_gi 3 0 (v124) R122.2).bind fun v126 => (if (v118) = (v126) then f12_33   f (a0) (a1) R122.2 else ((xq_gr 1 5 (a0) R122.2).bind fun v129 => ((f382  f (v129) (0) R122.2).bind fun M132 => f12_33   f (a0) (a1) M132)))))))))))
theorem k12 {d f : Nat}   {a0 : Nat} {a1 : Int} {M : xj_M} {R : xj_M} (ha1 : xin a1) (h : f12  f a0 a1 M = some R) : xT (d + 2) 12 [xR_ a0, xI a1] M (xQv R) := by
  refine xT_m xr_12_e (X := (none, d + 1, none)) rfl (xa_1 (xR_cat _) (xa_1 (xI_cat _) xa_n)) (by decide) ?_
  unfold f12 at h
  refine xe_alr (ins := .aload_n 0) (len := 1) (i := 0) (by decide +kernel) rfl rfl rfl rfl rfl ?_
  obtain ⟨v112, e113, h⟩ := xbnd h
  refine xs_gr (i := 11) (c := 1) (k := 0) (by decide +kernel) (by decide) (by decide +kernel) e113 rfl ?_
  refine xe_ldn (ins := .iload_n 1) (len := 1) (by decide +kernel) rfl rfl rfl rfl ?_
  obtain ⟨v114, e115, h⟩ := xbnd h
  refine xs_aald (by decide +kernel) ha1 e115 rfl ?_
  obtain ⟨v116, e117, h⟩ := xbnd h
  refine xs_gr (i := 96) (c := 2) (k := 0) (by decide +kernel) (by decide) (by decide +kernel) e117 rfl ?_
  obtain ⟨v118, e119, h⟩ := xbnd h
  refine xs_gi (i := 99) (c := 3) (k := 0) (by decide +kernel) (by decide) (by decide +kernel) e119 rfl ?_
  refine xe_alr (ins := .aload_n 0) (len := 1) (i := 0) (by decide +kernel) rfl rfl rfl rfl rfl ?_
  obtain ⟨_, e121, h⟩ := xbnd h
  obtain ⟨R122, e120, h⟩ := xbnd h
  refine xs_cv (i := 104) (j := 5) (ar := []) (rest := [xI (v118)]) (r2 := xr_5) (by decide +kernel) (by decide +kernel) (by decide +kernel) xr_5_e rfl (by decide) (by simp only [List.map_cons, List.map_nil, List.sum_cons, List.sum_nil, xR_cat, xI_cat, xZ_cat]; decide) e121 ?_
  refine xc_r (k5 (d := d + 0)   e120) rfl ?_
  obtain ⟨v124, e125, h⟩ := xbnd h
  refine xs_gr (i := 96) (c := 2) (k := 0) (by decide +kernel) (by decide) (by decide +kernel) e125 rfl ?_
  obtain ⟨v126, e127, h⟩ := xbnd h
  refine xs_gi (i := 99) (c := 3) (k := 0) (by decide +kernel) (by decide) (by decide +kernel) e127 rfl ?_
  refine xe_icmpeq (off := 11) (t := 33) (by decide +kernel) (by decide) rfl (xq_gi_in e119) (xq_gi_in e127) (fun c128 => ?_) (fun c128 => ?_)
  · rw [if_pos c128] at h
    refine xW_lv rfl (l := [(0, xR_ (a0)), (1, xI (a1))]) (xsb_of ⟨rfl, rfl, trivial⟩ (show [0, 1].Nodup by decide)) ?_
    exact k12_33   ha1 h
  · rw [if_neg c128] at h
    refine xe_alr (ins := .aload_n 0) (len := 1) (i := 0) (by decide +kernel) rfl rfl rfl rfl rfl ?_
    obtain ⟨v129, e130, h⟩ := xbnd h
    refine xs_gr (i := 21) (c := 1) (k := 5) (by decide +kernel) (by decide) (by decide +kernel) e130 rfl ?_
    refine xe_iconst (n := 0) (by decide +kernel) rfl ?_
    obtain ⟨M132, e131, h⟩ := xbnd h
    refine xs_cs (kd := 2) (by decide) (i := 108) (j := 382) (ar := [xI (0), xR_ (v129)]) (rest := []) (r2 := xr_382) (by decide +kernel) (by decide +kernel) (by decide +kernel) xr_382_e rfl (by decide) ?_
    refine xc_v (k382 (d := d + 0)  (show xin (0) by decide) e131) rfl ?_
    refine xW_lv rfl (l := [(0, xR_ (a0)), (1, xI (a1))]) (xsb_of ⟨rfl, rfl, trivial⟩ (show [0, 1].Nodup by decide)) ?_
    exact k12_33   ha1 h
-- ChangeHouse$Line.become
def xr_13 : xj_mR := (1, yX1_become, cX1_become, 4, (Option.none : Option Jvm.ClassFile.FieldType), 2, false, (7, 193), (1, 11))
set_option maxRecDepth 20000 in
theorem xr_13_e : xj_row 13 = some xr_13 := rfl
def f13_5b  (r5 : Nat → Nat → Int → Int → xj_M → Option (xj_M)) (f : Nat) (x0 : Nat) (x1 : Nat) (x2 : Int) (x3 : Int) (M : xj_M) : Option (xj_M) := (if (x2) < (x3) then ((xq_pi 1 1 (x0) (x2) M).bind fun M102 => ((xq_gi 1 2 (x1) M102).bind fun v104 => ((xq_pi 1 2 (x0) (v104) M102).bind fun M106 => ((xq_gr 1 5 (x0) M106).bind fun v108 => ((f382  f (v108) (0) M106).bind fun M111 => ((xq_gr 1 6 (x0) M111).bind fun v113 => ((f382  f (v113) (0) M111).bind fun M116 => ((xq_is 1 (x0) M116).bind fun _ => ((f7  f (x0) M116).bind fun M120 => (some M120)))))))))) else ((xq_gr 1 0 (x0) M).bind fun v122 => ((xq_gr 1 0 (x1) M).bind fun v124 => ((xq_ar (v124) (x3) M).bind fun v126 => ((xq_sr (v122) (x3) (v126) M).bind fun M128 => r5 (x0) (x1) (x2) (xwr ((x3) + (1))) M128)))))
theorem k13_5b {d f : Nat}  {r5 : Nat → Nat → Int → Int → xj_M → Option (xj_M)}  (hr5 : ∀ {x0 : Nat} {x1 : Nat} {x2 : Int} {x3 : Int} {M : xj_M} {R : xj_M}, xin x2 → xin x3 → r5 x0 x1 x2 x3 M = some R → xW (d + 1) (none, d + 1, none) xr_13 (5, [(0, xR_ x0), (1, xR_ x1), (2, xI x2), (3, xI x3)], [], M) (xQv R)) {x0 : Nat} {x1 : Nat} {x2 : Int} {x3 : Int} {M : xj_M} {R : xj_M} (hx2 : xin x2) (hx3 : xin x3) (h : f13_5b  r5 f x0 x1 x2 x3 M = some R) : xW (d + 1) (none, d + 1, none) xr_13 (5, [(0, xR_ x0), (1, xR_ x1), (2, xI x2), (3, xI x3)], [], M) (xQv R) := by
  unfold f13_5b at h
  refine xe_ldn (ins := .iload_n 3) (len := 1) (by decide +kernel) rfl rfl rfl rfl ?_
  refine xe_ldn (ins := .iload_n 2) (len := 1) (by decide +kernel) rfl rfl rfl rfl ?_
  refine xe_icmpgt (off := 21) (t := 28) (by decide +kernel) (by decide) rfl hx3 hx2 (fun c101 => ?_) (fun c101 => ?_)
  · rw [if_pos c101] at h
    refine xe_alr (ins := .aload_n 0) (len := 1) (i := 0) (by decide +kernel) rfl rfl rfl rfl rfl ?_
    refine xe_ldn (ins := .iload_n 2) (len := 1) (by decide +kernel) rfl rfl rfl rfl ?_
    obtain ⟨M102, e103, h⟩ := xbnd h
    refine xs_p (i := 48) (c := 1) (k := 1) (by decide +kernel) (by decide +kernel) (by decide +kernel) e103 rfl ?_
    refine xe_alr (ins := .aload_n 0) (len := 1) (i := 0) (by decide +kernel) rfl rfl rfl rfl rfl ?_
    refine xe_alr (ins := .aload_n 1) (len := 1) (i := 1) (by decide +kernel) rfl rfl rfl rfl rfl ?_
    obtain ⟨v104, e105, h⟩ := xbnd h
    refine xs_gi (i := 51) (c := 1) (k := 2) (by decide +kernel) (by decide) (by decide +kernel) e105 rfl ?_
    obtain ⟨M106, e107, h⟩ := xbnd h
    refine xs_p (i := 51) (c := 1) (k := 2) (by decide +kernel) (by decide +kernel) (by decide +kernel) e107 rfl ?_
    refine xe_alr (ins := .aload_n 0) (len := 1) (i := 0) (by decide +kernel) rfl rfl rfl rfl rfl ?_
    obtain ⟨v108, e109, h⟩ := xbnd h
    refine xs_gr (i := 21) (c := 1) (k := 5) (by decide +kernel) (by decide) (by decide +kernel) e109 rfl ?_
    refine xe_iconst (n := 0) (by decide +kernel) rfl ?_
    obtain ⟨M111, e110, h⟩ := xbnd h
    refine xs_cs (kd := 2) (by decide) (i := 108) (j := 382) (ar := [xI (0), xR_ (v108)]) (rest := []) (r2 := xr_382) (by decide +kernel) (by decide +kernel) (by decide +kernel) xr_382_e rfl (by decide) ?_
    refine xc_v (k382 (d := d + 0)  (show xin (0) by decide) e110) rfl ?_
    refine xe_alr (ins := .aload_n 0) (len := 1) (i := 0) (by decide +kernel) rfl rfl rfl rfl rfl ?_
    obtain ⟨v113, e114, h⟩ := xbnd h
    refine xs_gr (i := 25) (c := 1) (k := 6) (by decide +kernel) (by decide) (by decide +kernel) e114 rfl ?_
    refine xe_iconst (n := 0) (by decide +kernel) rfl ?_
    obtain ⟨M116, e115, h⟩ := xbnd h
    refine xs_cs (kd := 2) (by decide) (i := 108) (j := 382) (ar := [xI (0), xR_ (v113)]) (rest := []) (r2 := xr_382) (by decide +kernel) (by decide +kernel) (by decide +kernel) xr_382_e rfl (by decide) ?_
    refine xc_v (k382 (d := d + 0)  (show xin (0) by decide) e115) rfl ?_
    refine xe_alr (ins := .aload_n 0) (len := 1) (i := 0) (by decide +kernel) rfl rfl rfl rfl rfl ?_
    obtain ⟨_, e119, h⟩ := xbnd h
    obtain ⟨M120, e118, h⟩ := xbnd h
    refine xs_cv (i := 117) (j := 7) (ar := []) (rest := []) (r2 := xr_7) (by decide +kernel) (by decide +kernel) (by decide +kernel) xr_7_e rfl (by decide) (by decide) e119 ?_
    refine xc_v (k7 (d := d + 0)   e118) rfl ?_
    cases h
    exact xe_ret_v (by decide +kernel) rfl ⟨rfl, rfl⟩
  · rw [if_neg c101] at h
    refine xe_alr (ins := .aload_n 0) (len := 1) (i := 0) (by decide +kernel) rfl rfl rfl rfl rfl ?_
    obtain ⟨v122, e123, h⟩ := xbnd h
    refine xs_gr (i := 11) (c := 1) (k := 0) (by decide +kernel) (by decide) (by decide +kernel) e123 rfl ?_
    refine xe_ldn (ins := .iload_n 3) (len := 1) (by decide +kernel) rfl rfl rfl rfl ?_
    refine xe_alr (ins := .aload_n 1) (len := 1) (i := 1) (by decide +kernel) rfl rfl rfl rfl rfl ?_
    obtain ⟨v124, e125, h⟩ := xbnd h
    refine xs_gr (i := 11) (c := 1) (k := 0) (by decide +kernel) (by decide) (by decide +kernel) e125 rfl ?_
    refine xe_ldn (ins := .iload_n 3) (len := 1) (by decide +kernel) rfl rfl rfl rfl ?_
    obtain ⟨v126, e127, h⟩ := xbnd h
    refine xs_aald (by decide +kernel) hx3 e127 rfl ?_
    obtain ⟨M128, e129, h⟩ := xbnd h
    refine xs_aast (by decide +kernel) hx3 e129 rfl ?_
    refine xe_iincr (i := 3) (n := 1) (by decide +kernel) (by decide) rfl (xk_k (show ¬ (0 : Nat) = 3 by decide) (Or.inl (show ¬ (0 + 1 : Nat) = 3 by decide)) (xk_k (show ¬ (1 : Nat) = 3 by decide) (Or.inl (show ¬ (1 + 1 : Nat) = 3 by decide)) (xk_k (show ¬ (2 : Nat) = 3 by decide) (Or.inr (xI_cat _)) (xk_d rfl xk_n)))) rfl ?_
    refine xe_goto (off := -20) (nx := 5) (by decide +kernel) (by decide) ?_
    refine xW_lv rfl (l := [(0, xR_ (x0)), (1, xR_ (x1)), (2, xI (x2)), (3, xI (xwr ((x3) + (1))))]) (xsb_of ⟨rfl, rfl, rfl, rfl, trivial⟩ (show [3, 0, 1, 2].Nodup by decide)) ?_
    exact hr5 hx2 (xin_wr _) h
def f13_5   (f : Nat) : Nat → Nat → Nat → Int → Int → xj_M → Option (xj_M)
  | 0, _, _, _, _, _ => none
  | n + 1, x0, x1, x2, x3, M => f13_5b   (f13_5   f n) f x0 x1 x2 x3 M
theorem k13_5 {d f : Nat}     : ∀ {n : Nat} {x0 : Nat} {x1 : Nat} {x2 : Int} {x3 : Int} {M : xj_M} {R : xj_M}, xin x2 → xin x3 → f13_5   f n x0 x1 x2 x3 M = some R → xW (d + 1) (none, d + 1, none) xr_13 (5, [(0, xR_ x0), (1, xR_ x1), (2, xI x2), (3, xI x3)], [], M) (xQv R) := by
  intro n
  induction n with
  | zero => intros; rename_i h; cases h
  | succ n ih => intros; rename_i h; exact k13_5b   ih (by assumption) (by assumption) h
def f13  (f : Nat) (a0 : Nat) (a1 : Nat) (a2 : Int) (M : xj_M) : Option (xj_M) := ((xq_gi 1 2 (a1) M).bind fun v130 => f13_5   f f (a0) (a1) (a2) (v130) M)
theorem k13 {d f : Nat}   {a0 : Nat} {a1 : Nat} {a2 : Int} {M : xj_M} {R : xj_M} (ha2 : xin a2) (h : f13  f a0 a1 a2 M = some R) : xT (d + 2) 13 [xR_ a0, xR_ a1, xI a2] M (xQv R) := by
  refine xT_m xr_13_e (X := (none, d + 1, none)) rfl (xa_1 (xR_cat _) (xa_1 (xR_cat _) (xa_1 (xI_cat _) xa_n))) (by decide) ?_
  unfold f13 at h
  refine xe_alr (ins := .aload_n 1) (len := 1) (i := 1) (by decide +kernel) rfl rfl rfl rfl rfl ?_
  obtain ⟨v130, e131, h⟩ := xbnd h
  refine xs_gi (i := 51) (c := 1) (k := 2) (by decide +kernel) (by decide) (by decide +kernel) e131 rfl ?_
  refine xe_isr (ins := .istore_n 3) (len := 1) (i := 3) (by decide +kernel) rfl rfl rfl (by decide) (xk_k (show ¬ (0 : Nat) = 3 by decide) (Or.inl (show ¬ (0 + 1 : Nat) = 3 by decide)) (xk_k (show ¬ (1 : Nat) = 3 by decide) (Or.inl (show ¬ (1 + 1 : Nat) = 3 by decide)) (xk_k (show ¬ (2 : Nat) = 3 by decide) (Or.inr (xI_cat _)) xk_n))) rfl ?_
  refine xW_lv rfl (l := [(0, xR_ (a0)), (1, xR_ (a1)), (2, xI (a2)), (3, xI (v130))]) (xsb_of ⟨rfl, rfl, rfl, rfl, trivial⟩ (show [3, 0, 1, 2].Nodup by decide)) ?_
  exact k13_5   ha2 (xq_gi_in e131) h
-- ChangeHouse$Moment.rowsAhead
def xr_17 : xj_mR := (2, yX2_rowsAhead, cX2_rowsAhead, 4, (Option.some (Jvm.ClassFile.FieldType.object "ChangeHouse$Rows")), 2, false, (8, 34), (1, 8))
set_option maxRecDepth 20000 in
theorem xr_17_e : xj_row 17 = some xr_17 := rfl
def f17_44   (f : Nat) (y0 : Nat) (M : xj_M) : Option (Nat × xj_M) := (some (y0, M))
theorem k17_44 {d f : Nat}     {y0 : Nat} {M : xj_M} {R : Nat × xj_M}  (h : f17_44   f y0 M = some R) : xW (d + 2) (none, d + 2, none) xr_17 (44, [], [xR_ y0], M) (yxQr R) := by
  unfold f17_44 at h
  cases h
  exact xe_ret_r (by decide +kernel) rfl rfl ⟨rfl, rfl⟩
def f17  (f : Nat) (a0 : Nat) (a1 : Nat) (a2 : Int) (M : xj_M) : Option (Nat × xj_M) := ((xq_gr 2 0 (a1) M).bind fun v101 => ((xq_gr 2 0 (a0) M).bind fun v103 => ((xq_is 3 (v101) M).bind fun _ => ((f21  f (v101) (v103) (a2) M).bind fun R107 => (if ¬ (R107.1) = (-1) then ((xq_gr 2 1 (a1) R107.2).bind fun v110 => ((xq_ar (v110) (R107.1) R107.2).bind fun v112 => f17_44   f (v112) R107.2)) else ((xq_nw 5 R107.2).bind fun p114 => ((xq_gr 2 0 (a0) p114.2).bind fun v116 => ((xq_gr 3 3 (v116) p114.2).bind fun v118 => ((xq_ai 3 (v118) (a2) p114.2).bind fun v120 => ((f68  f (p114.1) (v120) (0) p114.2).bind fun M123 => f17_44   f (p114.1) M123))))))))))
theorem k17 {d f : Nat}   {a0 : Nat} {a1 : Nat} {a2 : Int} {M : xj_M} {R : Nat × xj_M} (ha2 : xin a2) (h : f17  f a0 a1 a2 M = some R) : xT (d + 3) 17 [xR_ a0, xR_ a1, xI a2] M (yxQr R) := by
  refine xT_m xr_17_e (X := (none, d + 2, none)) rfl (xa_1 (xR_cat _) (xa_1 (xR_cat _) (xa_1 (xI_cat _) xa_n))) (by decide) ?_
  unfold f17 at h
  refine xe_alr (ins := .aload_n 1) (len := 1) (i := 1) (by decide +kernel) rfl rfl rfl rfl rfl ?_
  obtain ⟨v101, e102, h⟩ := xbnd h
  refine xs_gr (i := 9) (c := 2) (k := 0) (by decide +kernel) (by decide) (by decide +kernel) e102 rfl ?_
  refine xe_alr (ins := .aload_n 0) (len := 1) (i := 0) (by decide +kernel) rfl rfl rfl rfl rfl ?_
  obtain ⟨v103, e104, h⟩ := xbnd h
  refine xs_gr (i := 9) (c := 2) (k := 0) (by decide +kernel) (by decide) (by decide +kernel) e104 rfl ?_
  refine xe_ldn (ins := .iload_n 2) (len := 1) (by decide +kernel) rfl rfl rfl rfl ?_
  obtain ⟨_, e106, h⟩ := xbnd h
  obtain ⟨R107, e105, h⟩ := xbnd h
  refine xs_cv (i := 34) (j := 21) (ar := [xI (a2), xR_ (v103)]) (rest := []) (r2 := xr_21) (by decide +kernel) (by decide +kernel) (by decide +kernel) xr_21_e rfl (by decide) (by decide) e106 ?_
  refine xc_i (k21 (d := d + 0)  ha2 e105) rfl (fun hi108 => ?_)
  refine xe_isr (ins := .istore_n 3) (len := 1) (i := 3) (by decide +kernel) rfl rfl rfl (by decide) (xk_k (show ¬ (0 : Nat) = 3 by decide) (Or.inl (show ¬ (0 + 1 : Nat) = 3 by decide)) (xk_k (show ¬ (1 : Nat) = 3 by decide) (Or.inl (show ¬ (1 + 1 : Nat) = 3 by decide)) (xk_k (show ¬ (2 : Nat) = 3 by decide) (Or.inr (xI_cat _)) xk_n))) rfl ?_
  refine xe_ldn (ins := .iload_n 3) (len := 1) (by decide +kernel) rfl rfl rfl rfl ?_
  refine xe_iconst (n := -1) (by decide +kernel) rfl ?_
  refine xe_icmpne (off := 23) (t := 38) (by decide +kernel) (by decide) rfl hi108 (show xin (-1) by decide) (fun c109 => ?_) (fun c109 => ?_)
  · rw [if_pos c109] at h
    refine xe_alr (ins := .aload_n 1) (len := 1) (i := 1) (by decide +kernel) rfl rfl rfl rfl rfl ?_
    obtain ⟨v110, e111, h⟩ := xbnd h
    refine xs_gr (i := 15) (c := 2) (k := 1) (by decide +kernel) (by decide) (by decide +kernel) e111 rfl ?_
    refine xe_ldn (ins := .iload_n 3) (len := 1) (by decide +kernel) rfl rfl rfl rfl ?_
    obtain ⟨v112, e113, h⟩ := xbnd h
    refine xs_aald (by decide +kernel) hi108 e113 rfl ?_
    refine xW_lv rfl (l := []) (xsb_of trivial (show [3, 0, 1, 2].Nodup by decide)) ?_
    exact k17_44    h
  · rw [if_neg c109] at h
    obtain ⟨p114, e115, h⟩ := xbnd h
    refine xs_nw (i := 26) (ci := 5) (x := p114.1) (M1 := p114.2) (by decide +kernel) (by decide +kernel) e115 rfl ?_
    refine xe_dupr (by decide +kernel) rfl ?_
    refine xe_alr (ins := .aload_n 0) (len := 1) (i := 0) (by decide +kernel) rfl rfl rfl rfl rfl ?_
    obtain ⟨v116, e117, h⟩ := xbnd h
    refine xs_gr (i := 9) (c := 2) (k := 0) (by decide +kernel) (by decide) (by decide +kernel) e117 rfl ?_
    obtain ⟨v118, e119, h⟩ := xbnd h
    refine xs_gr (i := 30) (c := 3) (k := 3) (by decide +kernel) (by decide) (by decide +kernel) e119 rfl ?_
    refine xe_ldn (ins := .iload_n 2) (len := 1) (by decide +kernel) rfl rfl rfl rfl ?_
    obtain ⟨v120, e121, h⟩ := xbnd h
    refine xs_iald rfl (by decide +kernel) ha2 e121 rfl ?_
    refine xe_iconst (n := 0) (by decide +kernel) rfl ?_
    obtain ⟨M123, e122, h⟩ := xbnd h
    refine xs_ci (kd := 1) (by decide) (i := 38) (j := 68) (ar := [xI (0), xI (v120)]) (rest := [xR_ (p114.1)]) (r2 := xr_68) (by decide +kernel) (by decide +kernel) xr_68_e rfl rfl (by simp only [List.map_cons, List.map_nil, List.sum_cons, List.sum_nil, xR_cat, xI_cat, xZ_cat]; decide) (xq_nw_ne e115) ?_
    refine xc_v (k68 (d := d + 1)  (xq_ai_in e121) (show xin (0) by decide) e122) rfl ?_
    refine xe_goto (off := 9) (nx := 44) (by decide +kernel) (by decide) ?_
    refine xW_lv rfl (l := []) (xsb_of trivial (show [3, 0, 1, 2].Nodup by decide)) ?_
    exact k17_44    h
-- ChangeHouse$Moment.differing
def xr_18 : xj_mR := (2, yX2_differing, cX2_differing, 4, (Option.some Jvm.ClassFile.FieldType.int), 2, false, (7, 142), (1, 8))
set_option maxRecDepth 20000 in
theorem xr_18_e : xj_row 18 = some xr_18 := rfl
def f18_45   (f : Nat) (y0 : Int) (M : xj_M) : Option (Int × xj_M) := (some (y0, M))
theorem k18_45 {d f : Nat}     {y0 : Int} {M : xj_M} {R : Int × xj_M} (hy0 : xin y0) (h : f18_45   f y0 M = some R) : xW (d + 2) (none, d + 2, none) xr_18 (45, [], [xI y0], M) (xQi R) := by
  unfold f18_45 at h
  cases h
  exact xe_ret_i (ty := .int) (by decide +kernel) rfl rfl ⟨rfl, rfl, hy0⟩
def f18  (f : Nat) (a0 : Nat) (a1 : Nat) (a2 : Int) (M : xj_M) : Option (Int × xj_M) := ((xq_gr 2 0 (a1) M).bind fun v101 => ((xq_gr 2 0 (a0) M).bind fun v103 => ((xq_is 3 (v101) M).bind fun _ => ((f21  f (v101) (v103) (a2) M).bind fun R107 => (if ¬ (R107.1) = (-1) then ((xq_gr 2 1 (a0) R107.2).bind fun v110 => ((xq_ar (v110) (a2) R107.2).bind fun v112 => ((xq_gr 2 1 (a1) R107.2).bind fun v114 => ((xq_ar (v114) (R107.1) R107.2).bind fun v116 => ((xq_is 5 (v112) R107.2).bind fun _ => ((f83  f (v112) (v116) R107.2).bind fun R120 => f18_45   f (R120.1) R120.2)))))) else ((xq_gr 2 1 (a0) R107.2).bind fun v122 => ((xq_ar (v122) (a2) R107.2).bind fun v124 => ((xq_gi 5 1 (v124) R107.2).bind fun v126 => f18_45   f (v126) R107.2))))))))
theorem k18 {d f : Nat}   {a0 : Nat} {a1 : Nat} {a2 : Int} {M : xj_M} {R : Int × xj_M} (ha2 : xin a2) (h : f18  f a0 a1 a2 M = some R) : xT (d + 3) 18 [xR_ a0, xR_ a1, xI a2] M (xQi R) := by
  refine xT_m xr_18_e (X := (none, d + 2, none)) rfl (xa_1 (xR_cat _) (xa_1 (xR_cat _) (xa_1 (xI_cat _) xa_n))) (by decide) ?_
  unfold f18 at h
  refine xe_alr (ins := .aload_n 1) (len := 1) (i := 1) (by decide +kernel) rfl rfl rfl rfl rfl ?_
  obtain ⟨v101, e102, h⟩ := xbnd h
  refine xs_gr (i := 9) (c := 2) (k := 0) (by decide +kernel) (by decide) (by decide +kernel) e102 rfl ?_
  refine xe_alr (ins := .aload_n 0) (len := 1) (i := 0) (by decide +kernel) rfl rfl rfl rfl rfl ?_
  obtain ⟨v103, e104, h⟩ := xbnd h
  refine xs_gr (i := 9) (c := 2) (k := 0) (by decide +kernel) (by decide) (by decide +kernel) e104 rfl ?_
  refine xe_ldn (ins := .iload_n 2) (len := 1) (by decide +kernel) rfl rfl rfl rfl ?_
  obtain ⟨_, e106, h⟩ := xbnd h
  obtain ⟨R107, e105, h⟩ := xbnd h
  refine xs_cv (i := 34) (j := 21) (ar := [xI (a2), xR_ (v103)]) (rest := []) (r2 := xr_21) (by decide +kernel) (by decide +kernel) (by decide +kernel) xr_21_e rfl (by decide) (by decide) e106 ?_
  refine xc_i (k21 (d := d + 0)  ha2 e105) rfl (fun hi108 => ?_)
  refine xe_isr (ins := .istore_n 3) (len := 1) (i := 3) (by decide +kernel) rfl rfl rfl (by decide) (xk_k (show ¬ (0 : Nat) = 3 by decide) (Or.inl (show ¬ (0 + 1 : Nat) = 3 by decide)) (xk_k (show ¬ (1 : Nat) = 3 by decide) (Or.inl (show ¬ (1 + 1 : Nat) = 3 by decide)) (xk_k (show ¬ (2 : Nat) = 3 by decide) (Or.inr (xI_cat _)) xk_n))) rfl ?_
  refine xe_ldn (ins := .iload_n 3) (len := 1) (by decide +kernel) rfl rfl rfl rfl ?_
  refine xe_iconst (n := -1) (by decide +kernel) rfl ?_
  refine xe_icmpne (off := 15) (t := 30) (by decide +kernel) (by decide) rfl hi108 (show xin (-1) by decide) (fun c109 => ?_) (fun c109 => ?_)
  · rw [if_pos c109] at h
    refine xe_alr (ins := .aload_n 0) (len := 1) (i := 0) (by decide +kernel) rfl rfl rfl rfl rfl ?_
    obtain ⟨v110, e111, h⟩ := xbnd h
    refine xs_gr (i := 15) (c := 2) (k := 1) (by decide +kernel) (by decide) (by decide +kernel) e111 rfl ?_
    refine xe_ldn (ins := .iload_n 2) (len := 1) (by decide +kernel) rfl rfl rfl rfl ?_
    obtain ⟨v112, e113, h⟩ := xbnd h
    refine xs_aald (by decide +kernel) ha2 e113 rfl ?_
    refine xe_alr (ins := .aload_n 1) (len := 1) (i := 1) (by decide +kernel) rfl rfl rfl rfl rfl ?_
    obtain ⟨v114, e115, h⟩ := xbnd h
    refine xs_gr (i := 15) (c := 2) (k := 1) (by decide +kernel) (by decide) (by decide +kernel) e115 rfl ?_
    refine xe_ldn (ins := .iload_n 3) (len := 1) (by decide +kernel) rfl rfl rfl rfl ?_
    obtain ⟨v116, e117, h⟩ := xbnd h
    refine xs_aald (by decide +kernel) hi108 e117 rfl ?_
    obtain ⟨_, e119, h⟩ := xbnd h
    obtain ⟨R120, e118, h⟩ := xbnd h
    refine xs_cv (i := 41) (j := 83) (ar := [xR_ (v116)]) (rest := []) (r2 := xr_83) (by decide +kernel) (by decide +kernel) (by decide +kernel) xr_83_e rfl (by decide) (by decide) e119 ?_
    refine xc_i (k83 (d := d + 0)   e118) rfl (fun hi121 => ?_)
    refine xW_lv rfl (l := []) (xsb_of trivial (show [3, 0, 1, 2].Nodup by decide)) ?_
    exact k18_45   hi121 h
  · rw [if_neg c109] at h
    refine xe_alr (ins := .aload_n 0) (len := 1) (i := 0) (by decide +kernel) rfl rfl rfl rfl rfl ?_
    obtain ⟨v122, e123, h⟩ := xbnd h
    refine xs_gr (i := 15) (c := 2) (k := 1) (by decide +kernel) (by decide) (by decide +kernel) e123 rfl ?_
    refine xe_ldn (ins := .iload_n 2) (len := 1) (by decide +kernel) rfl rfl rfl rfl ?_
    obtain ⟨v124, e125, h⟩ := xbnd h
    refine xs_aald (by decide +kernel) ha2 e125 rfl ?_
    obtain ⟨v126, e127, h⟩ := xbnd h
    refine xs_gi (i := 25) (c := 5) (k := 1) (by decide +kernel) (by decide) (by decide +kernel) e127 rfl ?_
    refine xe_goto (off := 18) (nx := 45) (by decide +kernel) (by decide) ?_
    refine xW_lv rfl (l := []) (xsb_of trivial (show [3, 0, 1, 2].Nodup by decide)) ?_
    exact k18_45   (xq_gi_in e127) h
-- ChangeHouse$Program.orderRings
def xr_25 : xj_mR := (3, yX3_orderRings, cX3_orderRings, 5, (Option.none : Option Jvm.ClassFile.FieldType), 0, false, (5, 219), (1, 9))
set_option maxRecDepth 20000 in
theorem xr_25_e : xj_row 25 = some xr_25 := rfl
def f25_92  (r4 : Nat → Int → Int → xj_M → Option (xj_M)) (r14 : Nat → Int → Int → Int → xj_M → Option (xj_M)) (f : Nat) (x0 : Nat) (x1 : Int) (x2 : Int) (x3 : Int) (M : xj_M) : Option (xj_M) := r14 (x0) (x1) (x2) (xwr ((x3) + (1))) M
theorem k25_92 {d f : Nat}  {r4 : Nat → Int → Int → xj_M → Option (xj_M)} {r14 : Nat → Int → Int → Int → xj_M → Option (xj_M)}  (hr4 : ∀ {x0 : Nat} {x1 : Int} {x2 : Int} {M : xj_M} {R : xj_M}, xin x1 → xin x2 → r4 x0 x1 x2 M = some R → xW (d + 2) (none, d + 2, none) xr_25 (4, [(0, xR_ x0), (1, xI x1), (2, xI x2)], [], M) (xQv R)) (hr14 : ∀ {x0 : Nat} {x1 : Int} {x2 : Int} {x3 : Int} {M : xj_M} {R : xj_M}, xin x1 → xin x2 → xin x3 → r14 x0 x1 x2 x3 M = some R → xW (d + 2) (none, d + 2, none) xr_25 (14, [(0, xR_ x0), (1, xI x1), (2, xI x2), (3, xI x3)], [], M) (xQv R)) {x0 : Nat} {x1 : Int} {x2 : Int} {x3 : Int} {M : xj_M} {R : xj_M} (hx1 : xin x1) (hx2 : xin x2) (hx3 : xin x3) (h : f25_92  r4 r14 f x0 x1 x2 x3 M = some R) : xW (d + 2) (none, d + 2, none) xr_25 (92, [(0, xR_ x0), (1, xI x1), (2, xI x2), (3, xI x3)], [], M) (xQv R) := by
  unfold f25_92 at h
  refine xe_iincr (i := 3) (n := 1) (by decide +kernel) (by decide) rfl (xk_k (show ¬ (0 : Nat) = 3 by decide) (Or.inl (show ¬ (0 + 1 : Nat) = 3 by decide)) (xk_k (show ¬ (1 : Nat) = 3 by decide) (Or.inl (show ¬ (1 + 1 : Nat) = 3 by decide)) (xk_k (show ¬ (2 : Nat) = 3 by decide) (Or.inr (xI_cat _)) (xk_d rfl xk_n)))) rfl ?_
  refine xe_goto (off := -81) (nx := 14) (by decide +kernel) (by decide) ?_
  refine xW_lv rfl (l := [(0, xR_ (x0)), (1, xI (x1)), (2, xI (x2)), (3, xI (xwr ((x3) + (1))))]) (xsb_of ⟨rfl, rfl, rfl, rfl, trivial⟩ (show [3, 0, 1, 2].Nodup by decide)) ?_
  exact hr14 hx1 hx2 (xin_wr _) h
def f25_45  (r4 : Nat → Int → Int → xj_M → Option (xj_M)) (r14 : Nat → Int → Int → Int → xj_M → Option (xj_M)) (f : Nat) (x0 : Nat) (x1 : Int) (x2 : Int) (x3 : Int) (y0 : Int) (M : xj_M) : Option (xj_M) := (if (y0) = 0 then f25_92  r4 r14 f (x0) (x1) (x2) (x3) M else ((xq_is 3 (x0) M).bind fun _ => ((f27  f (x0) (x3) M).bind fun R104 => (if ¬ (xand (R104.1) (xxor (x1) (-1))) = 0 then f25_92  r4 r14 f (x0) (x1) (x2) (x3) R104.2 else ((xq_gr 3 11 (x0) R104.2).bind fun v107 => ((xq_gi 3 12 (x0) R104.2).bind fun v109 => ((xq_si (v107) (v109) (x3) R104.2).bind fun M111 => ((xq_gi 3 12 (x0) M111).bind fun v113 => ((xq_pi 3 12 (x0) (xwr ((v113) + (1))) M111).bind fun M115 => ((xq_is 3 (x0) M115).bind fun _ => ((f26  f (x0) (x3) M115).bind fun R119 => f25_92  r4 r14 f (x0) (xor_ (x1) (R119.1)) (x2) (x3) R119.2)))))))))))
theorem k25_45 {d f : Nat}  {r4 : Nat → Int → Int → xj_M → Option (xj_M)} {r14 : Nat → Int → Int → Int → xj_M → Option (xj_M)}  (hr4 : ∀ {x0 : Nat} {x1 : Int} {x2 : Int} {M : xj_M} {R : xj_M}, xin x1 → xin x2 → r4 x0 x1 x2 M = some R → xW (d + 2) (none, d + 2, none) xr_25 (4, [(0, xR_ x0), (1, xI x1), (2, xI x2)], [], M) (xQv R)) (hr14 : ∀ {x0 : Nat} {x1 : Int} {x2 : Int} {x3 : Int} {M : xj_M} {R : xj_M}, xin x1 → xin x2 → xin x3 → r14 x0 x1 x2 x3 M = some R → xW (d + 2) (none, d + 2, none) xr_25 (14, [(0, xR_ x0), (1, xI x1), (2, xI x2), (3, xI x3)], [], M) (xQv R)) {x0 : Nat} {x1 : Int} {x2 : Int} {x3 : Int} {y0 : Int} {M : xj_M} {R : xj_M} (hx1 : xin x1) (hx2 : xin x2) (hx3 : xin x3) (hy0 : xin y0) (h : f25_45  r4 r14 f x0 x1 x2 x3 y0 M = some R) : xW (d + 2) (none, d + 2, none) xr_25 (45, [(0, xR_ x0), (1, xI x1), (2, xI x2), (3, xI x3)], [xI y0], M) (xQv R) := by
  unfold f25_45 at h
  refine xe_isr (ins := .istore 4) (len := 2) (i := 4) (by decide +kernel) rfl rfl rfl (by decide) (xk_k (show ¬ (0 : Nat) = 4 by decide) (Or.inl (show ¬ (0 + 1 : Nat) = 4 by decide)) (xk_k (show ¬ (1 : Nat) = 4 by decide) (Or.inl (show ¬ (1 + 1 : Nat) = 4 by decide)) (xk_k (show ¬ (2 : Nat) = 4 by decide) (Or.inl (show ¬ (2 + 1 : Nat) = 4 by decide)) (xk_k (show ¬ (3 : Nat) = 4 by decide) (Or.inr (xI_cat _)) xk_n)))) rfl ?_
  refine xe_ldn (ins := .iload 4) (len := 2) (by decide +kernel) rfl rfl rfl rfl ?_
  refine xe_ifeq (off := 43) (t := 92) (by decide +kernel) (by decide) rfl hy0 (fun c101 => ?_) (fun c101 => ?_)
  · rw [if_pos c101] at h
    refine xW_lv rfl (l := [(0, xR_ (x0)), (1, xI (x1)), (2, xI (x2)), (3, xI (x3))]) (xsb_of ⟨rfl, rfl, rfl, rfl, trivial⟩ (show [4, 0, 1, 2, 3].Nodup by decide)) ?_
    exact k25_92  hr4 hr14 hx1 hx2 hx3 h
  · rw [if_neg c101] at h
    refine xe_alr (ins := .aload_n 0) (len := 1) (i := 0) (by decide +kernel) rfl rfl rfl rfl rfl ?_
    refine xe_ldn (ins := .iload_n 3) (len := 1) (by decide +kernel) rfl rfl rfl rfl ?_
    obtain ⟨_, e103, h⟩ := xbnd h
    obtain ⟨R104, e102, h⟩ := xbnd h
    refine xs_cv (i := 85) (j := 27) (ar := [xI (x3)]) (rest := []) (r2 := xr_27) (by decide +kernel) (by decide +kernel) (by decide +kernel) xr_27_e rfl (by decide) (by decide) e103 ?_
    refine xc_i (k27 (d := d + 0)  hx3 e102) rfl (fun hi105 => ?_)
    refine xe_ldn (ins := .iload_n 1) (len := 1) (by decide +kernel) rfl rfl rfl rfl ?_
    refine xe_iconst (n := -1) (by decide +kernel) rfl ?_
    refine xe_ixor (by decide +kernel) rfl ?_
    refine xe_iand (by decide +kernel) rfl ?_
    refine xe_ifne (off := 31) (t := 92) (by decide +kernel) (by decide) rfl (xin_of _) (fun c106 => ?_) (fun c106 => ?_)
    · rw [if_pos c106] at h
      refine xW_lv rfl (l := [(0, xR_ (x0)), (1, xI (x1)), (2, xI (x2)), (3, xI (x3))]) (xsb_of ⟨rfl, rfl, rfl, rfl, trivial⟩ (show [4, 0, 1, 2, 3].Nodup by decide)) ?_
      exact k25_92  hr4 hr14 hx1 hx2 hx3 h
    · rw [if_neg c106] at h
      refine xe_alr (ins := .aload_n 0) (len := 1) (i := 0) (by decide +kernel) rfl rfl rfl rfl rfl ?_
      obtain ⟨v107, e108, h⟩ := xbnd h
      refine xs_gr (i := 41) (c := 3) (k := 11) (by decide +kernel) (by decide) (by decide +kernel) e108 rfl ?_
      refine xe_alr (ins := .aload_n 0) (len := 1) (i := 0) (by decide +kernel) rfl rfl rfl rfl rfl ?_
      obtain ⟨v109, e110, h⟩ := xbnd h
      refine xs_gi (i := 89) (c := 3) (k := 12) (by decide +kernel) (by decide) (by decide +kernel) e110 rfl ?_
      refine xe_ldn (ins := .iload_n 3) (len := 1) (by decide +kernel) rfl rfl rfl rfl ?_
      obtain ⟨M111, e112, h⟩ := xbnd h
      refine xs_iast (by decide +kernel) (xq_gi_in e110) e112 rfl ?_
      refine xe_alr (ins := .aload_n 0) (len := 1) (i := 0) (by decide +kernel) rfl rfl rfl rfl rfl ?_
      refine xe_dupr (by decide +kernel) rfl ?_
      obtain ⟨v113, e114, h⟩ := xbnd h
      refine xs_gi (i := 89) (c := 3) (k := 12) (by decide +kernel) (by decide) (by decide +kernel) e114 rfl ?_
      refine xe_iconst (n := 1) (by decide +kernel) rfl ?_
      refine xe_iadd (by decide +kernel) rfl ?_
      obtain ⟨M115, e116, h⟩ := xbnd h
      refine xs_p (i := 89) (c := 3) (k := 12) (by decide +kernel) (by decide +kernel) (by decide +kernel) e116 rfl ?_
      refine xe_ldn (ins := .iload_n 1) (len := 1) (by decide +kernel) rfl rfl rfl rfl ?_
      refine xe_alr (ins := .aload_n 0) (len := 1) (i := 0) (by decide +kernel) rfl rfl rfl rfl rfl ?_
      refine xe_ldn (ins := .iload_n 3) (len := 1) (by decide +kernel) rfl rfl rfl rfl ?_
      obtain ⟨_, e118, h⟩ := xbnd h
      obtain ⟨R119, e117, h⟩ := xbnd h
      refine xs_cv (i := 92) (j := 26) (ar := [xI (x3)]) (rest := [xI (x1)]) (r2 := xr_26) (by decide +kernel) (by decide +kernel) (by decide +kernel) xr_26_e rfl (by decide) (by simp only [List.map_cons, List.map_nil, List.sum_cons, List.sum_nil, xR_cat, xI_cat, xZ_cat]; decide) e118 ?_
      refine xc_i (k26 (d := d + 1)  hx3 e117) rfl (fun hi120 => ?_)
      refine xe_ior (by decide +kernel) rfl ?_
      refine xe_isr (ins := .istore_n 1) (len := 1) (i := 1) (by decide +kernel) rfl rfl rfl (by decide) (xk_k (show ¬ (4 : Nat) = 1 by decide) (Or.inl (show ¬ (4 + 1 : Nat) = 1 by decide)) (xk_k (show ¬ (0 : Nat) = 1 by decide) (Or.inr (xR_cat _)) (xk_d rfl (xk_k (show ¬ (2 : Nat) = 1 by decide) (Or.inl (show ¬ (2 + 1 : Nat) = 1 by decide)) (xk_k (show ¬ (3 : Nat) = 1 by decide) (Or.inl (show ¬ (3 + 1 : Nat) = 1 by decide)) xk_n))))) rfl ?_
      refine xW_lv rfl (l := [(0, xR_ (x0)), (1, xI (xor_ (x1) (R119.1))), (2, xI (x2)), (3, xI (x3))]) (xsb_of ⟨rfl, rfl, rfl, rfl, trivial⟩ (show [1, 4, 0, 2, 3].Nodup by decide)) ?_
      exact k25_92  hr4 hr14 (xin_of _) hx2 hx3 h
def f25_44  (r4 : Nat → Int → Int → xj_M → Option (xj_M)) (r14 : Nat → Int → Int → Int → xj_M → Option (xj_M)) (f : Nat) (x0 : Nat) (x1 : Int) (x2 : Int) (x3 : Int) (M : xj_M) : Option (xj_M) := f25_45  r4 r14 f (x0) (x1) (x2) (x3) (0) M
theorem k25_44 {d f : Nat}  {r4 : Nat → Int → Int → xj_M → Option (xj_M)} {r14 : Nat → Int → Int → Int → xj_M → Option (xj_M)}  (hr4 : ∀ {x0 : Nat} {x1 : Int} {x2 : Int} {M : xj_M} {R : xj_M}, xin x1 → xin x2 → r4 x0 x1 x2 M = some R → xW (d + 2) (none, d + 2, none) xr_25 (4, [(0, xR_ x0), (1, xI x1), (2, xI x2)], [], M) (xQv R)) (hr14 : ∀ {x0 : Nat} {x1 : Int} {x2 : Int} {x3 : Int} {M : xj_M} {R : xj_M}, xin x1 → xin x2 → xin x3 → r14 x0 x1 x2 x3 M = some R → xW (d + 2) (none, d + 2, none) xr_25 (14, [(0, xR_ x0), (1, xI x1), (2, xI x2), (3, xI x3)], [], M) (xQv R)) {x0 : Nat} {x1 : Int} {x2 : Int} {x3 : Int} {M : xj_M} {R : xj_M} (hx1 : xin x1) (hx2 : xin x2) (hx3 : xin x3) (h : f25_44  r4 r14 f x0 x1 x2 x3 M = some R) : xW (d + 2) (none, d + 2, none) xr_25 (44, [(0, xR_ x0), (1, xI x1), (2, xI x2), (3, xI x3)], [], M) (xQv R) := by
  unfold f25_44 at h
  refine xe_iconst (n := 0) (by decide +kernel) rfl ?_
  refine xW_lv rfl (l := [(0, xR_ (x0)), (1, xI (x1)), (2, xI (x2)), (3, xI (x3))]) (xsb_of ⟨rfl, rfl, rfl, rfl, trivial⟩ (show [0, 1, 2, 3].Nodup by decide)) ?_
  exact k25_45  hr4 hr14 hx1 hx2 hx3 (show xin (0) by decide) h
def f25_14b  (r4 : Nat → Int → Int → xj_M → Option (xj_M)) (r14 : Nat → Int → Int → Int → xj_M → Option (xj_M)) (f : Nat) (x0 : Nat) (x1 : Int) (x2 : Int) (x3 : Int) (M : xj_M) : Option (xj_M) := ((xq_gi 3 1 (x0) M).bind fun v121 => (if (v121) ≤ (x3) then r4 (x0) (x1) (xwr ((x2) + (1))) M else ((xq_gr 3 10 (x0) M).bind fun v124 => ((xq_ai 3 (v124) (x3) M).bind fun v126 => (if ¬ (v126) = (x3) then f25_44  r4 r14 f (x0) (x1) (x2) (x3) M else (if ¬ (xand (xshr (x1) (x3)) (1)) = 0 then f25_44  r4 r14 f (x0) (x1) (x2) (x3) M else f25_45  r4 r14 f (x0) (x1) (x2) (x3) (1) M))))))
theorem k25_14b {d f : Nat}  {r4 : Nat → Int → Int → xj_M → Option (xj_M)} {r14 : Nat → Int → Int → Int → xj_M → Option (xj_M)}  (hr4 : ∀ {x0 : Nat} {x1 : Int} {x2 : Int} {M : xj_M} {R : xj_M}, xin x1 → xin x2 → r4 x0 x1 x2 M = some R → xW (d + 2) (none, d + 2, none) xr_25 (4, [(0, xR_ x0), (1, xI x1), (2, xI x2)], [], M) (xQv R)) (hr14 : ∀ {x0 : Nat} {x1 : Int} {x2 : Int} {x3 : Int} {M : xj_M} {R : xj_M}, xin x1 → xin x2 → xin x3 → r14 x0 x1 x2 x3 M = some R → xW (d + 2) (none, d + 2, none) xr_25 (14, [(0, xR_ x0), (1, xI x1), (2, xI x2), (3, xI x3)], [], M) (xQv R)) {x0 : Nat} {x1 : Int} {x2 : Int} {x3 : Int} {M : xj_M} {R : xj_M} (hx1 : xin x1) (hx2 : xin x2) (hx3 : xin x3) (h : f25_14b  r4 r14 f x0 x1 x2 x3 M = some R) : xW (d + 2) (none, d + 2, none) xr_25 (14, [(0, xR_ x0), (1, xI x1), (2, xI x2), (3, xI x3)], [], M) (xQv R) := by
  unfold f25_14b at h
  refine xe_ldn (ins := .iload_n 3) (len := 1) (by decide +kernel) rfl rfl rfl rfl ?_
  refine xe_alr (ins := .aload_n 0) (len := 1) (i := 0) (by decide +kernel) rfl rfl rfl rfl rfl ?_
  obtain ⟨v121, e122, h⟩ := xbnd h
  refine xs_gi (i := 51) (c := 3) (k := 1) (by decide +kernel) (by decide) (by decide +kernel) e122 rfl ?_
  refine xe_icmpge (off := 79) (t := 98) (by decide +kernel) (by decide) rfl hx3 (xq_gi_in e122) (fun c123 => ?_) (fun c123 => ?_)
  · rw [if_pos c123] at h
    refine xe_iincr (i := 2) (n := 1) (by decide +kernel) (by decide) rfl (xk_k (show ¬ (0 : Nat) = 2 by decide) (Or.inl (show ¬ (0 + 1 : Nat) = 2 by decide)) (xk_k (show ¬ (1 : Nat) = 2 by decide) (Or.inr (xI_cat _)) (xk_d rfl (xk_k (show ¬ (3 : Nat) = 2 by decide) (Or.inl (show ¬ (3 + 1 : Nat) = 2 by decide)) xk_n)))) rfl ?_
    refine xe_goto (off := -97) (nx := 4) (by decide +kernel) (by decide) ?_
    refine xW_lv rfl (l := [(0, xR_ (x0)), (1, xI (x1)), (2, xI (xwr ((x2) + (1))))]) (xsb_of ⟨rfl, rfl, rfl, trivial⟩ (show [2, 0, 1, 3].Nodup by decide)) ?_
    exact hr4 hx1 (xin_wr _) h
  · rw [if_neg c123] at h
    refine xe_alr (ins := .aload_n 0) (len := 1) (i := 0) (by decide +kernel) rfl rfl rfl rfl rfl ?_
    obtain ⟨v124, e125, h⟩ := xbnd h
    refine xs_gr (i := 38) (c := 3) (k := 10) (by decide +kernel) (by decide) (by decide +kernel) e125 rfl ?_
    refine xe_ldn (ins := .iload_n 3) (len := 1) (by decide +kernel) rfl rfl rfl rfl ?_
    obtain ⟨v126, e127, h⟩ := xbnd h
    refine xs_iald rfl (by decide +kernel) hx3 e127 rfl ?_
    refine xe_ldn (ins := .iload_n 3) (len := 1) (by decide +kernel) rfl rfl rfl rfl ?_
    refine xe_icmpne (off := 15) (t := 44) (by decide +kernel) (by decide) rfl (xq_ai_in e127) hx3 (fun c128 => ?_) (fun c128 => ?_)
    · rw [if_pos c128] at h
      refine xW_lv rfl (l := [(0, xR_ (x0)), (1, xI (x1)), (2, xI (x2)), (3, xI (x3))]) (xsb_of ⟨rfl, rfl, rfl, rfl, trivial⟩ (show [0, 1, 2, 3].Nodup by decide)) ?_
      exact k25_44  hr4 hr14 hx1 hx2 hx3 h
    · rw [if_neg c128] at h
      refine xe_ldn (ins := .iload_n 1) (len := 1) (by decide +kernel) rfl rfl rfl rfl ?_
      refine xe_ldn (ins := .iload_n 3) (len := 1) (by decide +kernel) rfl rfl rfl rfl ?_
      refine xe_ishr (by decide +kernel) rfl ?_
      refine xe_iconst (n := 1) (by decide +kernel) rfl ?_
      refine xe_iand (by decide +kernel) rfl ?_
      refine xe_ifne (off := 7) (t := 44) (by decide +kernel) (by decide) rfl (xin_of _) (fun c129 => ?_) (fun c129 => ?_)
      · rw [if_pos c129] at h
        refine xW_lv rfl (l := [(0, xR_ (x0)), (1, xI (x1)), (2, xI (x2)), (3, xI (x3))]) (xsb_of ⟨rfl, rfl, rfl, rfl, trivial⟩ (show [0, 1, 2, 3].Nodup by decide)) ?_
        exact k25_44  hr4 hr14 hx1 hx2 hx3 h
      · rw [if_neg c129] at h
        refine xe_iconst (n := 1) (by decide +kernel) rfl ?_
        refine xe_goto (off := 4) (nx := 45) (by decide +kernel) (by decide) ?_
        refine xW_lv rfl (l := [(0, xR_ (x0)), (1, xI (x1)), (2, xI (x2)), (3, xI (x3))]) (xsb_of ⟨rfl, rfl, rfl, rfl, trivial⟩ (show [0, 1, 2, 3].Nodup by decide)) ?_
        exact k25_45  hr4 hr14 hx1 hx2 hx3 (show xin (1) by decide) h
def f25_14  (r4 : Nat → Int → Int → xj_M → Option (xj_M)) (f : Nat) : Nat → Nat → Int → Int → Int → xj_M → Option (xj_M)
  | 0, _, _, _, _, _ => none
  | n + 1, x0, x1, x2, x3, M => f25_14b  r4 (f25_14  r4 f n) f x0 x1 x2 x3 M
theorem k25_14 {d f : Nat}  {r4 : Nat → Int → Int → xj_M → Option (xj_M)}  (hr4 : ∀ {x0 : Nat} {x1 : Int} {x2 : Int} {M : xj_M} {R : xj_M}, xin x1 → xin x2 → r4 x0 x1 x2 M = some R → xW (d + 2) (none, d + 2, none) xr_25 (4, [(0, xR_ x0), (1, xI x1), (2, xI x2)], [], M) (xQv R)) : ∀ {n : Nat} {x0 : Nat} {x1 : Int} {x2 : Int} {x3 : Int} {M : xj_M} {R : xj_M}, xin x1 → xin x2 → xin x3 → f25_14  r4 f n x0 x1 x2 x3 M = some R → xW (d + 2) (none, d + 2, none) xr_25 (14, [(0, xR_ x0), (1, xI x1), (2, xI x2), (3, xI x3)], [], M) (xQv R) := by
  intro n
  induction n with
  | zero => intros; rename_i h; cases h
  | succ n ih => intros; rename_i h; exact k25_14b  hr4 ih (by assumption) (by assumption) (by assumption) h
def f25_4b  (r4 : Nat → Int → Int → xj_M → Option (xj_M)) (f : Nat) (x0 : Nat) (x1 : Int) (x2 : Int) (M : xj_M) : Option (xj_M) := ((xq_gi 3 1 (x0) M).bind fun v130 => (if (v130) ≤ (x2) then (some M) else f25_14  r4 f f (x0) (x1) (x2) (0) M))
theorem k25_4b {d f : Nat}  {r4 : Nat → Int → Int → xj_M → Option (xj_M)}  (hr4 : ∀ {x0 : Nat} {x1 : Int} {x2 : Int} {M : xj_M} {R : xj_M}, xin x1 → xin x2 → r4 x0 x1 x2 M = some R → xW (d + 2) (none, d + 2, none) xr_25 (4, [(0, xR_ x0), (1, xI x1), (2, xI x2)], [], M) (xQv R)) {x0 : Nat} {x1 : Int} {x2 : Int} {M : xj_M} {R : xj_M} (hx1 : xin x1) (hx2 : xin x2) (h : f25_4b  r4 f x0 x1 x2 M = some R) : xW (d + 2) (none, d + 2, none) xr_25 (4, [(0, xR_ x0), (1, xI x1), (2, xI x2)], [], M) (xQv R) := by
  unfold f25_4b at h
  refine xe_ldn (ins := .iload_n 2) (len := 1) (by decide +kernel) rfl rfl rfl rfl ?_
  refine xe_alr (ins := .aload_n 0) (len := 1) (i := 0) (by decide +kernel) rfl rfl rfl rfl rfl ?_
  obtain ⟨v130, e131, h⟩ := xbnd h
  refine xs_gi (i := 51) (c := 3) (k := 1) (by decide +kernel) (by decide) (by decide +kernel) e131 rfl ?_
  refine xe_icmpge (off := 95) (t := 104) (by decide +kernel) (by decide) rfl hx2 (xq_gi_in e131) (fun c132 => ?_) (fun c132 => ?_)
  · rw [if_pos c132] at h
    cases h
    exact xe_ret_v (by decide +kernel) rfl ⟨rfl, rfl⟩
  · rw [if_neg c132] at h
    refine xe_iconst (n := 0) (by decide +kernel) rfl ?_
    refine xe_isr (ins := .istore_n 3) (len := 1) (i := 3) (by decide +kernel) rfl rfl rfl (by decide) (xk_k (show ¬ (0 : Nat) = 3 by decide) (Or.inl (show ¬ (0 + 1 : Nat) = 3 by decide)) (xk_k (show ¬ (1 : Nat) = 3 by decide) (Or.inl (show ¬ (1 + 1 : Nat) = 3 by decide)) (xk_k (show ¬ (2 : Nat) = 3 by decide) (Or.inr (xI_cat _)) xk_n))) rfl ?_
    refine xW_lv rfl (l := [(0, xR_ (x0)), (1, xI (x1)), (2, xI (x2)), (3, xI (0))]) (xsb_of ⟨rfl, rfl, rfl, rfl, trivial⟩ (show [3, 0, 1, 2].Nodup by decide)) ?_
    exact k25_14  hr4 hx1 hx2 (show xin (0) by decide) h
def f25_4   (f : Nat) : Nat → Nat → Int → Int → xj_M → Option (xj_M)
  | 0, _, _, _, _ => none
  | n + 1, x0, x1, x2, M => f25_4b   (f25_4   f n) f x0 x1 x2 M
theorem k25_4 {d f : Nat}     : ∀ {n : Nat} {x0 : Nat} {x1 : Int} {x2 : Int} {M : xj_M} {R : xj_M}, xin x1 → xin x2 → f25_4   f n x0 x1 x2 M = some R → xW (d + 2) (none, d + 2, none) xr_25 (4, [(0, xR_ x0), (1, xI x1), (2, xI x2)], [], M) (xQv R) := by
  intro n
  induction n with
  | zero => intros; rename_i h; cases h
  | succ n ih => intros; rename_i h; exact k25_4b   ih (by assumption) (by assumption) h
def f25  (f : Nat) (a0 : Nat) (M : xj_M) : Option (xj_M) := f25_4   f f (a0) (0) (0) M
theorem k25 {d f : Nat}   {a0 : Nat} {M : xj_M} {R : xj_M}  (h : f25  f a0 M = some R) : xT (d + 3) 25 [xR_ a0] M (xQv R) := by
  refine xT_m xr_25_e (X := (none, d + 2, none)) rfl (xa_1 (xR_cat _) xa_n) (by decide) ?_
  unfold f25 at h
  refine xe_iconst (n := 0) (by decide +kernel) rfl ?_
  refine xe_isr (ins := .istore_n 1) (len := 1) (i := 1) (by decide +kernel) rfl rfl rfl (by decide) (xk_k (show ¬ (0 : Nat) = 1 by decide) (Or.inr (xR_cat _)) xk_n) rfl ?_
  refine xe_iconst (n := 0) (by decide +kernel) rfl ?_
  refine xe_isr (ins := .istore_n 2) (len := 1) (i := 2) (by decide +kernel) rfl rfl rfl (by decide) (xk_k (show ¬ (1 : Nat) = 2 by decide) (Or.inr (xI_cat _)) (xk_k (show ¬ (0 : Nat) = 2 by decide) (Or.inl (show ¬ (0 + 1 : Nat) = 2 by decide)) xk_n)) rfl ?_
  refine xW_lv rfl (l := [(0, xR_ (a0)), (1, xI (0)), (2, xI (0))]) (xsb_of ⟨rfl, rfl, rfl, trivial⟩ (show [2, 1, 0].Nodup by decide)) ?_
  exact k25_4   (show xin (0) by decide) (show xin (0) by decide) h
-- ChangeHouse$Reader.beginRule
def xr_35 : xj_mR := (4, yX4_beginRule, cX4_beginRule, 1, (Option.none : Option Jvm.ClassFile.FieldType), 0, false, (4, 186), (1, 3))
set_option maxRecDepth 20000 in
theorem xr_35_e : xj_row 35 = some xr_35 := rfl
def f35  (f : Nat) (a0 : Nat) (M : xj_M) : Option (xj_M) := ((xq_nw 6 M).bind fun p101 => ((f87  f (p101.1) p101.2).bind fun M104 => ((xq_pr 4 5 (a0) (p101.1) M104).bind fun M106 => ((xq_pi 4 9 (a0) (0) M106).bind fun M108 => (some M108)))))
theorem k35 {d f : Nat}   {a0 : Nat} {M : xj_M} {R : xj_M}  (h : f35  f a0 M = some R) : xT (d + 2) 35 [xR_ a0] M (xQv R) := by
  refine xT_m xr_35_e (X := (none, d + 1, none)) rfl (xa_1 (xR_cat _) xa_n) (by decide) ?_
  unfold f35 at h
  refine xe_alr (ins := .aload_n 0) (len := 1) (i := 0) (by decide +kernel) rfl rfl rfl rfl rfl ?_
  obtain ⟨p101, e102, h⟩ := xbnd h
  refine xs_nw (i := 94) (ci := 6) (x := p101.1) (M1 := p101.2) (by decide +kernel) (by decide +kernel) e102 rfl ?_
  refine xe_dupr (by decide +kernel) rfl ?_
  obtain ⟨M104, e103, h⟩ := xbnd h
  refine xs_ci (kd := 4) (by decide) (i := 158) (j := 87) (ar := []) (rest := [xR_ (p101.1), xR_ (a0)]) (r2 := xr_87) (by decide +kernel) (by decide +kernel) xr_87_e rfl rfl (by simp only [List.map_cons, List.map_nil, List.sum_cons, List.sum_nil, xR_cat, xI_cat, xZ_cat]; decide) (xq_nw_ne e102) ?_
  refine xc_v (k87 (d := d + 0)   e103) rfl ?_
  obtain ⟨M106, e107, h⟩ := xbnd h
  refine xs_p (i := 86) (c := 4) (k := 5) (by decide +kernel) (by decide +kernel) (by decide +kernel) e107 rfl ?_
  refine xe_alr (ins := .aload_n 0) (len := 1) (i := 0) (by decide +kernel) rfl rfl rfl rfl rfl ?_
  refine xe_iconst (n := 0) (by decide +kernel) rfl ?_
  obtain ⟨M108, e109, h⟩ := xbnd h
  refine xs_p (i := 90) (c := 4) (k := 9) (by decide +kernel) (by decide +kernel) (by decide +kernel) e109 rfl ?_
  cases h
  exact xe_ret_v (by decide +kernel) rfl ⟨rfl, rfl⟩
-- ChangeHouse$Reader.readName
def xr_47 : xj_mR := (4, yX4_readName, cX4_readName, 4, (Option.some Jvm.ClassFile.FieldType.long), 0, false, (4, 79), (1, 3))
set_option maxRecDepth 20000 in
theorem xr_47_e : xj_row 47 = some xr_47 := rfl
def f47_58   (f : Nat) (x0 : Nat) (M : xj_M) : Option ((Nat ⊕ Int) × xj_M) := ((xq_gr 4 0 (x0) M).bind fun v101 => ((xq_gr 8 6 (v101) M).bind fun v103 => ((xq_gi 4 1 (x0) M).bind fun v105 => ((xq_al (v103) (v105) M).bind fun v107 => ((xq_is 4 (x0) M).bind fun _ => ((f37  f (x0) M).bind fun M111 => (some (.inr (v107), M111))))))))
theorem k47_58 {d f : Nat}     {x0 : Nat} {M : xj_M} {R : (Nat ⊕ Int) × xj_M}  (h : f47_58   f x0 M = some R) : xW (d + 6) (none, d + 6, none) xr_47 (58, [(0, xR_ x0)], [], M) (xQtl R) := by
  unfold f47_58 at h
  refine xe_alr (ins := .aload_n 0) (len := 1) (i := 0) (by decide +kernel) rfl rfl rfl rfl rfl ?_
  obtain ⟨v101, e102, h⟩ := xbnd h
  refine xs_gr (i := 43) (c := 4) (k := 0) (by decide +kernel) (by decide) (by decide +kernel) e102 rfl ?_
  obtain ⟨v103, e104, h⟩ := xbnd h
  refine xs_gr (i := 251) (c := 8) (k := 6) (by decide +kernel) (by decide) (by decide +kernel) e104 rfl ?_
  refine xe_alr (ins := .aload_n 0) (len := 1) (i := 0) (by decide +kernel) rfl rfl rfl rfl rfl ?_
  obtain ⟨v105, e106, h⟩ := xbnd h
  refine xs_gi (i := 54) (c := 4) (k := 1) (by decide +kernel) (by decide) (by decide +kernel) e106 rfl ?_
  obtain ⟨v107, e108, h⟩ := xbnd h
  refine xs_lald (by decide +kernel) (xq_gi_in e106) e108 rfl ?_
  refine xe_lsr (ins := .lstore_n 2) (len := 1) (i := 2) (by decide +kernel) rfl rfl rfl (by decide) (xk2_k (show ¬ (0 : Nat) = 2 by decide) (show ¬ (0 : Nat) = 2 + 1 by decide) (Or.inl (show ¬ (0 + 1 : Nat) = 2 by decide)) xk2_n) rfl ?_
  refine xe_alr (ins := .aload_n 0) (len := 1) (i := 0) (by decide +kernel) rfl rfl rfl rfl rfl ?_
  obtain ⟨_, e110, h⟩ := xbnd h
  obtain ⟨M111, e109, h⟩ := xbnd h
  refine xs_cv (i := 73) (j := 37) (ar := []) (rest := []) (r2 := xr_37) (by decide +kernel) (by decide +kernel) (by decide +kernel) xr_37_e rfl (by decide) (by decide) e110 ?_
  refine xc_v (k37 (d := d + 5)   e109) rfl ?_
  refine xe_ldn (ins := .lload_n 2) (len := 1) (by decide +kernel) rfl rfl rfl rfl ?_
  cases h
  exact xe_ret_l (by decide +kernel) rfl ⟨rfl, rfl, fun v hv => by cases hv; exact (xq_al_in e108)⟩
def f47_34   (f : Nat) (x0 : Nat) (x1 : Int) (M : xj_M) : Option ((Nat ⊕ Int) × xj_M) := ((xq_gr 4 0 (x0) M).bind fun v113 => ((xq_gi 4 1 (x0) M).bind fun v115 => ((xq_is 8 (v113) M).bind fun _ => ((f124  f (v113) (v115) M).bind fun R119 => (if (R119.1) ≤ (12) then f47_58   f (x0) R119.2 else ((xq_is 4 (x0) R119.2).bind fun _ => ((f36 f (x0) (xwr ((x1) + (12))) R119.2).bind fun R124 => xth R124 (fun _ => f47_58   f (x0) R124.2))))))))
theorem k47_34 {d f : Nat}     {x0 : Nat} {x1 : Int} {M : xj_M} {R : (Nat ⊕ Int) × xj_M} (hx1 : xin x1) (h : f47_34   f x0 x1 M = some R) : xW (d + 6) (none, d + 6, none) xr_47 (34, [(0, xR_ x0), (1, xI x1)], [], M) (xQtl R) := by
  unfold f47_34 at h
  refine xe_alr (ins := .aload_n 0) (len := 1) (i := 0) (by decide +kernel) rfl rfl rfl rfl rfl ?_
  obtain ⟨v113, e114, h⟩ := xbnd h
  refine xs_gr (i := 43) (c := 4) (k := 0) (by decide +kernel) (by decide) (by decide +kernel) e114 rfl ?_
  refine xe_alr (ins := .aload_n 0) (len := 1) (i := 0) (by decide +kernel) rfl rfl rfl rfl rfl ?_
  obtain ⟨v115, e116, h⟩ := xbnd h
  refine xs_gi (i := 54) (c := 4) (k := 1) (by decide +kernel) (by decide) (by decide +kernel) e116 rfl ?_
  obtain ⟨_, e118, h⟩ := xbnd h
  obtain ⟨R119, e117, h⟩ := xbnd h
  refine xs_cv (i := 231) (j := 124) (ar := [xI (v115)]) (rest := []) (r2 := xr_124) (by decide +kernel) (by decide +kernel) (by decide +kernel) xr_124_e rfl (by decide) (by decide) e118 ?_
  refine xc_i (k124 (d := d + 5)  (xq_gi_in e116) e117) rfl (fun hi120 => ?_)
  refine xe_bipush (n := 12) (by decide +kernel) (by decide) rfl ?_
  refine xe_icmple (off := 11) (t := 58) (by decide +kernel) (by decide) rfl hi120 (show xin (12) by decide) (fun c121 => ?_) (fun c121 => ?_)
  · rw [if_pos c121] at h
    refine xW_lv rfl (l := [(0, xR_ (x0))]) (xsb_of ⟨rfl, trivial⟩ (show [0, 1].Nodup by decide)) ?_
    exact k47_58    h
  · rw [if_neg c121] at h
    refine xe_alr (ins := .aload_n 0) (len := 1) (i := 0) (by decide +kernel) rfl rfl rfl rfl rfl ?_
    refine xe_ldn (ins := .iload_n 1) (len := 1) (by decide +kernel) rfl rfl rfl rfl ?_
    refine xe_bipush (n := 12) (by decide +kernel) (by decide) rfl ?_
    refine xe_iadd (by decide +kernel) rfl ?_
    obtain ⟨_, e123, h⟩ := xbnd h
    obtain ⟨R124, e122, h⟩ := xbnd h
    refine xs2_cv (kd := 0) (jj := 36) (by decide) (i := 83) (j := 36) (ar := [xI (xwr ((x1) + (12)))]) (rest := []) (r2 := xr_36) (by decide +kernel) (by decide +kernel) (by decide +kernel) xr_36_e rfl (by decide) (by decide) e123 ?_
    refine xct_v (k36 (d := d + 0) (xin_wr _) e122) rfl (fun e1 g126 => ?_) (fun g126 => ?_)
    · rw [xth_l g126] at h; cases h; exact xK_thr rfl ⟨rfl, rfl, fun v hv => by cases hv⟩
    · rw [xth_r g126] at h
      refine xW_lv rfl (l := [(0, xR_ (x0))]) (xsb_of ⟨rfl, trivial⟩ (show [0, 1].Nodup by decide)) ?_
      exact k47_58    h
def f47  (f : Nat) (a0 : Nat) (M : xj_M) : Option ((Nat ⊕ Int) × xj_M) := ((xq_gr 4 0 (a0) M).bind fun v128 => ((xq_gr 8 4 (v128) M).bind fun v130 => ((xq_gi 4 1 (a0) M).bind fun v132 => ((xq_ai 3 (v130) (v132) M).bind fun v134 => ((xq_gr 4 0 (a0) M).bind fun v136 => ((xq_gr 8 3 (v136) M).bind fun v138 => ((xq_gi 4 1 (a0) M).bind fun v140 => ((xq_ai 3 (v138) (v140) M).bind fun v142 => (if (v142) = (1) then f47_34   f (a0) (v134) M else ((xq_is 4 (a0) M).bind fun _ => ((f36 f (a0) (v134) M).bind fun R147 => xth R147 (fun _ => f47_34   f (a0) (v134) R147.2))))))))))))
theorem k47 {d f : Nat}   {a0 : Nat} {M : xj_M} {R : (Nat ⊕ Int) × xj_M}  (h : f47  f a0 M = some R) : xT (d + 7) 47 [xR_ a0] M (xQtl R) := by
  refine xT_m xr_47_e (X := (none, d + 6, none)) rfl (xa_1 (xR_cat _) xa_n) (by decide) ?_
  unfold f47 at h
  refine xe_alr (ins := .aload_n 0) (len := 1) (i := 0) (by decide +kernel) rfl rfl rfl rfl rfl ?_
  obtain ⟨v128, e129, h⟩ := xbnd h
  refine xs_gr (i := 43) (c := 4) (k := 0) (by decide +kernel) (by decide) (by decide +kernel) e129 rfl ?_
  obtain ⟨v130, e131, h⟩ := xbnd h
  refine xs_gr (i := 80) (c := 8) (k := 4) (by decide +kernel) (by decide) (by decide +kernel) e131 rfl ?_
  refine xe_alr (ins := .aload_n 0) (len := 1) (i := 0) (by decide +kernel) rfl rfl rfl rfl rfl ?_
  obtain ⟨v132, e133, h⟩ := xbnd h
  refine xs_gi (i := 54) (c := 4) (k := 1) (by decide +kernel) (by decide) (by decide +kernel) e133 rfl ?_
  obtain ⟨v134, e135, h⟩ := xbnd h
  refine xs_iald rfl (by decide +kernel) (xq_gi_in e133) e135 rfl ?_
  refine xe_isr (ins := .istore_n 1) (len := 1) (i := 1) (by decide +kernel) rfl rfl rfl (by decide) (xk_k (show ¬ (0 : Nat) = 1 by decide) (Or.inr (xR_cat _)) xk_n) rfl ?_
  refine xe_alr (ins := .aload_n 0) (len := 1) (i := 0) (by decide +kernel) rfl rfl rfl rfl rfl ?_
  obtain ⟨v136, e137, h⟩ := xbnd h
  refine xs_gr (i := 43) (c := 4) (k := 0) (by decide +kernel) (by decide) (by decide +kernel) e137 rfl ?_
  obtain ⟨v138, e139, h⟩ := xbnd h
  refine xs_gr (i := 51) (c := 8) (k := 3) (by decide +kernel) (by decide) (by decide +kernel) e139 rfl ?_
  refine xe_alr (ins := .aload_n 0) (len := 1) (i := 0) (by decide +kernel) rfl rfl rfl rfl rfl ?_
  obtain ⟨v140, e141, h⟩ := xbnd h
  refine xs_gi (i := 54) (c := 4) (k := 1) (by decide +kernel) (by decide) (by decide +kernel) e141 rfl ?_
  obtain ⟨v142, e143, h⟩ := xbnd h
  refine xs_iald rfl (by decide +kernel) (xq_gi_in e141) e143 rfl ?_
  refine xe_iconst (n := 1) (by decide +kernel) rfl ?_
  refine xe_icmpeq (off := 8) (t := 34) (by decide +kernel) (by decide) rfl (xq_ai_in e143) (show xin (1) by decide) (fun c144 => ?_) (fun c144 => ?_)
  · rw [if_pos c144] at h
    refine xW_lv rfl (l := [(0, xR_ (a0)), (1, xI (v134))]) (xsb_of ⟨rfl, rfl, trivial⟩ (show [1, 0].Nodup by decide)) ?_
    exact k47_34   (xq_ai_in e135) h
  · rw [if_neg c144] at h
    refine xe_alr (ins := .aload_n 0) (len := 1) (i := 0) (by decide +kernel) rfl rfl rfl rfl rfl ?_
    refine xe_ldn (ins := .iload_n 1) (len := 1) (by decide +kernel) rfl rfl rfl rfl ?_
    obtain ⟨_, e146, h⟩ := xbnd h
    obtain ⟨R147, e145, h⟩ := xbnd h
    refine xs2_cv (kd := 0) (jj := 36) (by decide) (i := 83) (j := 36) (ar := [xI (v134)]) (rest := []) (r2 := xr_36) (by decide +kernel) (by decide +kernel) (by decide +kernel) xr_36_e rfl (by decide) (by decide) e146 ?_
    refine xct_v (k36 (d := d + 0) (xq_ai_in e135) e145) rfl (fun e1 g149 => ?_) (fun g149 => ?_)
    · rw [xth_l g149] at h; cases h; exact xK_thr rfl ⟨rfl, rfl, fun v hv => by cases hv⟩
    · rw [xth_r g149] at h
      refine xW_lv rfl (l := [(0, xR_ (a0)), (1, xI (v134))]) (xsb_of ⟨rfl, rfl, trivial⟩ (show [1, 0].Nodup by decide)) ?_
      exact k47_34   (xq_ai_in e135) h
-- ChangeHouse$Reader.readVariable
def xr_49 : xj_mR := (4, yX4_readVariable, cX4_readVariable, 5, (Option.some Jvm.ClassFile.FieldType.int), 0, false, (5, 101), (1, 3))
set_option maxRecDepth 20000 in
theorem xr_49_e : xj_row 49 = some xr_49 := rfl
def f49_160   (f : Nat) (x0 : Nat) (x4 : Int) (M : xj_M) : Option ((Nat ⊕ Int) × xj_M) := ((xq_is 4 (x0) M).bind fun _ => ((f37  f (x0) M).bind fun M103 => (some (.inr (x4), M103))))
theorem k49_160 {d f : Nat}     {x0 : Nat} {x4 : Int} {M : xj_M} {R : (Nat ⊕ Int) × xj_M} (hx4 : xin x4) (h : f49_160   f x0 x4 M = some R) : xW (d + 6) (none, d + 6, none) xr_49 (160, [(0, xR_ x0), (4, xI x4)], [], M) (xQti R) := by
  unfold f49_160 at h
  refine xe_alr (ins := .aload_n 0) (len := 1) (i := 0) (by decide +kernel) rfl rfl rfl rfl rfl ?_
  obtain ⟨_, e102, h⟩ := xbnd h
  obtain ⟨M103, e101, h⟩ := xbnd h
  refine xs_cv (i := 73) (j := 37) (ar := []) (rest := []) (r2 := xr_37) (by decide +kernel) (by decide +kernel) (by decide +kernel) xr_37_e rfl (by decide) (by decide) e102 ?_
  refine xc_v (k37 (d := d + 5)   e101) rfl ?_
  refine xe_ldn (ins := .iload 4) (len := 2) (by decide +kernel) rfl rfl rfl rfl ?_
  cases h
  exact xe_ret_i (ty := .int) (by decide +kernel) rfl rfl ⟨rfl, rfl, fun v hv => by cases hv; exact hx4⟩
def f49_128   (f : Nat) (x0 : Nat) (x1 : Int) (x2 : Int) (x4 : Int) (M : xj_M) : Option ((Nat ⊕ Int) × xj_M) := ((xq_gr 4 13 (x0) M).bind fun v105 => ((xq_sl (v105) (x4) (x2) M).bind fun M107 => ((xq_gr 4 5 (x0) M107).bind fun v109 => ((xq_gr 6 7 (v109) M107).bind fun v111 => ((xq_si (v111) (x4) (x1) M107).bind fun M113 => ((xq_gr 4 5 (x0) M113).bind fun v115 => ((xq_gi 6 6 (v115) M113).bind fun v117 => ((xq_pi 6 6 (v115) (xwr ((v117) + (1))) M113).bind fun M119 => f49_160   f (x0) (x4) M119))))))))
theorem k49_128 {d f : Nat}     {x0 : Nat} {x1 : Int} {x2 : Int} {x4 : Int} {M : xj_M} {R : (Nat ⊕ Int) × xj_M} (hx1 : xin x1) (hx2 : xiN x2) (hx4 : xin x4) (h : f49_128   f x0 x1 x2 x4 M = some R) : xW (d + 6) (none, d + 6, none) xr_49 (128, [(0, xR_ x0), (1, xI x1), (2, xZ x2), (4, xI x4)], [], M) (xQti R) := by
  unfold f49_128 at h
  refine xe_alr (ins := .aload_n 0) (len := 1) (i := 0) (by decide +kernel) rfl rfl rfl rfl rfl ?_
  obtain ⟨v105, e106, h⟩ := xbnd h
  refine xs_gr (i := 25) (c := 4) (k := 13) (by decide +kernel) (by decide) (by decide +kernel) e106 rfl ?_
  refine xe_ldn (ins := .iload 4) (len := 2) (by decide +kernel) rfl rfl rfl rfl ?_
  refine xe_ldn (ins := .lload_n 2) (len := 1) (by decide +kernel) rfl rfl rfl rfl ?_
  obtain ⟨M107, e108, h⟩ := xbnd h
  refine xs_last (by decide +kernel) hx4 e108 rfl ?_
  refine xe_alr (ins := .aload_n 0) (len := 1) (i := 0) (by decide +kernel) rfl rfl rfl rfl rfl ?_
  obtain ⟨v109, e110, h⟩ := xbnd h
  refine xs_gr (i := 86) (c := 4) (k := 5) (by decide +kernel) (by decide) (by decide +kernel) e110 rfl ?_
  obtain ⟨v111, e112, h⟩ := xbnd h
  refine xs_gr (i := 265) (c := 6) (k := 7) (by decide +kernel) (by decide) (by decide +kernel) e112 rfl ?_
  refine xe_ldn (ins := .iload 4) (len := 2) (by decide +kernel) rfl rfl rfl rfl ?_
  refine xe_ldn (ins := .iload_n 1) (len := 1) (by decide +kernel) rfl rfl rfl rfl ?_
  obtain ⟨M113, e114, h⟩ := xbnd h
  refine xs_iast (by decide +kernel) hx4 e114 rfl ?_
  refine xe_alr (ins := .aload_n 0) (len := 1) (i := 0) (by decide +kernel) rfl rfl rfl rfl rfl ?_
  obtain ⟨v115, e116, h⟩ := xbnd h
  refine xs_gr (i := 86) (c := 4) (k := 5) (by decide +kernel) (by decide) (by decide +kernel) e116 rfl ?_
  refine xe_dupr (by decide +kernel) rfl ?_
  obtain ⟨v117, e118, h⟩ := xbnd h
  refine xs_gi (i := 263) (c := 6) (k := 6) (by decide +kernel) (by decide) (by decide +kernel) e118 rfl ?_
  refine xe_iconst (n := 1) (by decide +kernel) rfl ?_
  refine xe_iadd (by decide +kernel) rfl ?_
  obtain ⟨M119, e120, h⟩ := xbnd h
  refine xs_p (i := 263) (c := 6) (k := 6) (by decide +kernel) (by decide +kernel) (by decide +kernel) e120 rfl ?_
  refine xW_lv rfl (l := [(0, xR_ (x0)), (4, xI (x4))]) (xsb_of ⟨rfl, rfl, trivial⟩ (show [0, 1, 2, 4].Nodup by decide)) ?_
  exact k49_160   hx4 h
def f49_104   (f : Nat) (x0 : Nat) (x1 : Int) (x2 : Int) (x4 : Int) (M : xj_M) : Option ((Nat ⊕ Int) × xj_M) := ((xq_gr 4 5 (x0) M).bind fun v121 => ((xq_gi 6 6 (v121) M).bind fun v123 => (if ¬ (x4) = (v123) then f49_160   f (x0) (x4) M else (if ¬ (x4) = (8) then f49_128   f (x0) (x1) (x2) (x4) M else ((xq_is 4 (x0) M).bind fun _ => ((f36 f (x0) (x1) M).bind fun R129 => xth R129 (fun _ => f49_128   f (x0) (x1) (x2) (x4) R129.2)))))))
theorem k49_104 {d f : Nat}     {x0 : Nat} {x1 : Int} {x2 : Int} {x4 : Int} {M : xj_M} {R : (Nat ⊕ Int) × xj_M} (hx1 : xin x1) (hx2 : xiN x2) (hx4 : xin x4) (h : f49_104   f x0 x1 x2 x4 M = some R) : xW (d + 6) (none, d + 6, none) xr_49 (104, [(0, xR_ x0), (1, xI x1), (2, xZ x2), (4, xI x4)], [], M) (xQti R) := by
  unfold f49_104 at h
  refine xe_ldn (ins := .iload 4) (len := 2) (by decide +kernel) rfl rfl rfl rfl ?_
  refine xe_alr (ins := .aload_n 0) (len := 1) (i := 0) (by decide +kernel) rfl rfl rfl rfl rfl ?_
  obtain ⟨v121, e122, h⟩ := xbnd h
  refine xs_gr (i := 86) (c := 4) (k := 5) (by decide +kernel) (by decide) (by decide +kernel) e122 rfl ?_
  obtain ⟨v123, e124, h⟩ := xbnd h
  refine xs_gi (i := 263) (c := 6) (k := 6) (by decide +kernel) (by decide) (by decide +kernel) e124 rfl ?_
  refine xe_icmpne (off := 47) (t := 160) (by decide +kernel) (by decide) rfl hx4 (xq_gi_in e124) (fun c125 => ?_) (fun c125 => ?_)
  · rw [if_pos c125] at h
    refine xW_lv rfl (l := [(0, xR_ (x0)), (4, xI (x4))]) (xsb_of ⟨rfl, rfl, trivial⟩ (show [0, 1, 2, 4].Nodup by decide)) ?_
    exact k49_160   hx4 h
  · rw [if_neg c125] at h
    refine xe_ldn (ins := .iload 4) (len := 2) (by decide +kernel) rfl rfl rfl rfl ?_
    refine xe_bipush (n := 8) (by decide +kernel) (by decide) rfl ?_
    refine xe_icmpne (off := 8) (t := 128) (by decide +kernel) (by decide) rfl hx4 (show xin (8) by decide) (fun c126 => ?_) (fun c126 => ?_)
    · rw [if_pos c126] at h
      refine xW_lv rfl (l := [(0, xR_ (x0)), (1, xI (x1)), (2, xZ (x2)), (4, xI (x4))]) (xsb_of ⟨rfl, rfl, rfl, rfl, trivial⟩ (show [0, 1, 2, 4].Nodup by decide)) ?_
      exact k49_128   hx1 hx2 hx4 h
    · rw [if_neg c126] at h
      refine xe_alr (ins := .aload_n 0) (len := 1) (i := 0) (by decide +kernel) rfl rfl rfl rfl rfl ?_
      refine xe_ldn (ins := .iload_n 1) (len := 1) (by decide +kernel) rfl rfl rfl rfl ?_
      obtain ⟨_, e128, h⟩ := xbnd h
      obtain ⟨R129, e127, h⟩ := xbnd h
      refine xs2_cv (kd := 0) (jj := 36) (by decide) (i := 83) (j := 36) (ar := [xI (x1)]) (rest := []) (r2 := xr_36) (by decide +kernel) (by decide +kernel) (by decide +kernel) xr_36_e rfl (by decide) (by decide) e128 ?_
      refine xct_v (k36 (d := d + 0) hx1 e127) rfl (fun e1 g131 => ?_) (fun g131 => ?_)
      · rw [xth_l g131] at h; cases h; exact xK_thr rfl ⟨rfl, rfl, fun v hv => by cases hv⟩
      · rw [xth_r g131] at h
        refine xW_lv rfl (l := [(0, xR_ (x0)), (1, xI (x1)), (2, xZ (x2)), (4, xI (x4))]) (xsb_of ⟨rfl, rfl, rfl, rfl, trivial⟩ (show [0, 1, 2, 4].Nodup by decide)) ?_
        exact k49_128   hx1 hx2 hx4 h
def f49_74b  (r74 : Nat → Int → Int → Int → xj_M → Option ((Nat ⊕ Int) × xj_M)) (f : Nat) (x0 : Nat) (x1 : Int) (x2 : Int) (x4 : Int) (M : xj_M) : Option ((Nat ⊕ Int) × xj_M) := ((xq_gr 4 5 (x0) M).bind fun v133 => ((xq_gi 6 6 (v133) M).bind fun v135 => (if (v135) ≤ (x4) then f49_104   f (x0) (x1) (x2) (x4) M else ((xq_gr 4 13 (x0) M).bind fun v138 => ((xq_al (v138) (x4) M).bind fun v140 => (if (v140) = (x2) then f49_104   f (x0) (x1) (x2) (x4) M else r74 (x0) (x1) (x2) (xwr ((x4) + (1))) M))))))
theorem k49_74b {d f : Nat}  {r74 : Nat → Int → Int → Int → xj_M → Option ((Nat ⊕ Int) × xj_M)}  (hr74 : ∀ {x0 : Nat} {x1 : Int} {x2 : Int} {x4 : Int} {M : xj_M} {R : (Nat ⊕ Int) × xj_M}, xin x1 → xiN x2 → xin x4 → r74 x0 x1 x2 x4 M = some R → xW (d + 6) (none, d + 6, none) xr_49 (74, [(0, xR_ x0), (1, xI x1), (2, xZ x2), (4, xI x4)], [], M) (xQti R)) {x0 : Nat} {x1 : Int} {x2 : Int} {x4 : Int} {M : xj_M} {R : (Nat ⊕ Int) × xj_M} (hx1 : xin x1) (hx2 : xiN x2) (hx4 : xin x4) (h : f49_74b  r74 f x0 x1 x2 x4 M = some R) : xW (d + 6) (none, d + 6, none) xr_49 (74, [(0, xR_ x0), (1, xI x1), (2, xZ x2), (4, xI x4)], [], M) (xQti R) := by
  unfold f49_74b at h
  refine xe_ldn (ins := .iload 4) (len := 2) (by decide +kernel) rfl rfl rfl rfl ?_
  refine xe_alr (ins := .aload_n 0) (len := 1) (i := 0) (by decide +kernel) rfl rfl rfl rfl rfl ?_
  obtain ⟨v133, e134, h⟩ := xbnd h
  refine xs_gr (i := 86) (c := 4) (k := 5) (by decide +kernel) (by decide) (by decide +kernel) e134 rfl ?_
  obtain ⟨v135, e136, h⟩ := xbnd h
  refine xs_gi (i := 263) (c := 6) (k := 6) (by decide +kernel) (by decide) (by decide +kernel) e136 rfl ?_
  refine xe_icmpge (off := 21) (t := 104) (by decide +kernel) (by decide) rfl hx4 (xq_gi_in e136) (fun c137 => ?_) (fun c137 => ?_)
  · rw [if_pos c137] at h
    refine xW_lv rfl (l := [(0, xR_ (x0)), (1, xI (x1)), (2, xZ (x2)), (4, xI (x4))]) (xsb_of ⟨rfl, rfl, rfl, rfl, trivial⟩ (show [0, 1, 2, 4].Nodup by decide)) ?_
    exact k49_104   hx1 hx2 hx4 h
  · rw [if_neg c137] at h
    refine xe_alr (ins := .aload_n 0) (len := 1) (i := 0) (by decide +kernel) rfl rfl rfl rfl rfl ?_
    obtain ⟨v138, e139, h⟩ := xbnd h
    refine xs_gr (i := 25) (c := 4) (k := 13) (by decide +kernel) (by decide) (by decide +kernel) e139 rfl ?_
    refine xe_ldn (ins := .iload 4) (len := 2) (by decide +kernel) rfl rfl rfl rfl ?_
    obtain ⟨v140, e141, h⟩ := xbnd h
    refine xs_lald (by decide +kernel) hx4 e141 rfl ?_
    refine xe_ldn (ins := .lload_n 2) (len := 1) (by decide +kernel) rfl rfl rfl rfl ?_
    refine xe_lcmp (by decide +kernel) rfl (xq_al_in e141) hx2 ?_
    refine xe_ifeq (off := 9) (t := 104) (by decide +kernel) (by decide) rfl (xin_cmp8 _ _) (fun c142 => ?_) (fun c142 => ?_)
    · have c142 := xcmp8_eq.mp c142; rw [if_pos c142] at h
      refine xW_lv rfl (l := [(0, xR_ (x0)), (1, xI (x1)), (2, xZ (x2)), (4, xI (x4))]) (xsb_of ⟨rfl, rfl, rfl, rfl, trivial⟩ (show [0, 1, 2, 4].Nodup by decide)) ?_
      exact k49_104   hx1 hx2 hx4 h
    · have c142 := (not_congr xcmp8_eq).mp c142; rw [if_neg c142] at h
      refine xe_iincr (i := 4) (n := 1) (by decide +kernel) (by decide) rfl (xk_k (show ¬ (0 : Nat) = 4 by decide) (Or.inl (show ¬ (0 + 1 : Nat) = 4 by decide)) (xk_k (show ¬ (1 : Nat) = 4 by decide) (Or.inl (show ¬ (1 + 1 : Nat) = 4 by decide)) (xk_k (show ¬ (2 : Nat) = 4 by decide) (Or.inl (show ¬ (2 + 1 : Nat) = 4 by decide)) (xk_d rfl xk_n)))) rfl ?_
      refine xe_goto (off := -27) (nx := 74) (by decide +kernel) (by decide) ?_
      refine xW_lv rfl (l := [(0, xR_ (x0)), (1, xI (x1)), (2, xZ (x2)), (4, xI (xwr ((x4) + (1))))]) (xsb_of ⟨rfl, rfl, rfl, rfl, trivial⟩ (show [4, 0, 1, 2].Nodup by decide)) ?_
      exact hr74 hx1 hx2 (xin_wr _) h
def f49_74   (f : Nat) : Nat → Nat → Int → Int → Int → xj_M → Option ((Nat ⊕ Int) × xj_M)
  | 0, _, _, _, _, _ => none
  | n + 1, x0, x1, x2, x4, M => f49_74b   (f49_74   f n) f x0 x1 x2 x4 M
theorem k49_74 {d f : Nat}     : ∀ {n : Nat} {x0 : Nat} {x1 : Int} {x2 : Int} {x4 : Int} {M : xj_M} {R : (Nat ⊕ Int) × xj_M}, xin x1 → xiN x2 → xin x4 → f49_74   f n x0 x1 x2 x4 M = some R → xW (d + 6) (none, d + 6, none) xr_49 (74, [(0, xR_ x0), (1, xI x1), (2, xZ x2), (4, xI x4)], [], M) (xQti R) := by
  intro n
  induction n with
  | zero => intros; rename_i h; cases h
  | succ n ih => intros; rename_i h; exact k49_74b   ih (by assumption) (by assumption) (by assumption) h
def f49_58   (f : Nat) (x0 : Nat) (x1 : Int) (M : xj_M) : Option ((Nat ⊕ Int) × xj_M) := ((xq_gr 4 0 (x0) M).bind fun v143 => ((xq_gr 8 6 (v143) M).bind fun v145 => ((xq_gi 4 1 (x0) M).bind fun v147 => ((xq_al (v145) (v147) M).bind fun v149 => f49_74   f f (x0) (x1) (v149) (0) M))))
theorem k49_58 {d f : Nat}     {x0 : Nat} {x1 : Int} {M : xj_M} {R : (Nat ⊕ Int) × xj_M} (hx1 : xin x1) (h : f49_58   f x0 x1 M = some R) : xW (d + 6) (none, d + 6, none) xr_49 (58, [(0, xR_ x0), (1, xI x1)], [], M) (xQti R) := by
  unfold f49_58 at h
  refine xe_alr (ins := .aload_n 0) (len := 1) (i := 0) (by decide +kernel) rfl rfl rfl rfl rfl ?_
  obtain ⟨v143, e144, h⟩ := xbnd h
  refine xs_gr (i := 43) (c := 4) (k := 0) (by decide +kernel) (by decide) (by decide +kernel) e144 rfl ?_
  obtain ⟨v145, e146, h⟩ := xbnd h
  refine xs_gr (i := 251) (c := 8) (k := 6) (by decide +kernel) (by decide) (by decide +kernel) e146 rfl ?_
  refine xe_alr (ins := .aload_n 0) (len := 1) (i := 0) (by decide +kernel) rfl rfl rfl rfl rfl ?_
  obtain ⟨v147, e148, h⟩ := xbnd h
  refine xs_gi (i := 54) (c := 4) (k := 1) (by decide +kernel) (by decide) (by decide +kernel) e148 rfl ?_
  obtain ⟨v149, e150, h⟩ := xbnd h
  refine xs_lald (by decide +kernel) (xq_gi_in e148) e150 rfl ?_
  refine xe_lsr (ins := .lstore_n 2) (len := 1) (i := 2) (by decide +kernel) rfl rfl rfl (by decide) (xk2_k (show ¬ (0 : Nat) = 2 by decide) (show ¬ (0 : Nat) = 2 + 1 by decide) (Or.inl (show ¬ (0 + 1 : Nat) = 2 by decide)) (xk2_k (show ¬ (1 : Nat) = 2 by decide) (show ¬ (1 : Nat) = 2 + 1 by decide) (Or.inr (xI_cat _)) xk2_n)) rfl ?_
  refine xe_iconst (n := 0) (by decide +kernel) rfl ?_
  refine xe_isr (ins := .istore 4) (len := 2) (i := 4) (by decide +kernel) rfl rfl rfl (by decide) (xk_k (show ¬ (2 : Nat) = 4 by decide) (Or.inl (show ¬ (2 + 1 : Nat) = 4 by decide)) (xk_k (show ¬ (0 : Nat) = 4 by decide) (Or.inl (show ¬ (0 + 1 : Nat) = 4 by decide)) (xk_k (show ¬ (1 : Nat) = 4 by decide) (Or.inl (show ¬ (1 + 1 : Nat) = 4 by decide)) xk_n))) rfl ?_
  refine xW_lv rfl (l := [(0, xR_ (x0)), (1, xI (x1)), (2, xZ (v149)), (4, xI (0))]) (xsb_of ⟨rfl, rfl, rfl, rfl, trivial⟩ (show [4, 2, 0, 1].Nodup by decide)) ?_
  exact k49_74   hx1 (xq_al_in e150) (show xin (0) by decide) h
def f49_34   (f : Nat) (x0 : Nat) (x1 : Int) (M : xj_M) : Option ((Nat ⊕ Int) × xj_M) := ((xq_gr 4 0 (x0) M).bind fun v151 => ((xq_gi 4 1 (x0) M).bind fun v153 => ((xq_is 8 (v151) M).bind fun _ => ((f124  f (v151) (v153) M).bind fun R157 => (if (R157.1) ≤ (8) then f49_58   f (x0) (x1) R157.2 else ((xq_is 4 (x0) R157.2).bind fun _ => ((f36 f (x0) (xwr ((x1) + (8))) R157.2).bind fun R162 => xth R162 (fun _ => f49_58   f (x0) (x1) R162.2))))))))
theorem k49_34 {d f : Nat}     {x0 : Nat} {x1 : Int} {M : xj_M} {R : (Nat ⊕ Int) × xj_M} (hx1 : xin x1) (h : f49_34   f x0 x1 M = some R) : xW (d + 6) (none, d + 6, none) xr_49 (34, [(0, xR_ x0), (1, xI x1)], [], M) (xQti R) := by
  unfold f49_34 at h
  refine xe_alr (ins := .aload_n 0) (len := 1) (i := 0) (by decide +kernel) rfl rfl rfl rfl rfl ?_
  obtain ⟨v151, e152, h⟩ := xbnd h
  refine xs_gr (i := 43) (c := 4) (k := 0) (by decide +kernel) (by decide) (by decide +kernel) e152 rfl ?_
  refine xe_alr (ins := .aload_n 0) (len := 1) (i := 0) (by decide +kernel) rfl rfl rfl rfl rfl ?_
  obtain ⟨v153, e154, h⟩ := xbnd h
  refine xs_gi (i := 54) (c := 4) (k := 1) (by decide +kernel) (by decide) (by decide +kernel) e154 rfl ?_
  obtain ⟨_, e156, h⟩ := xbnd h
  obtain ⟨R157, e155, h⟩ := xbnd h
  refine xs_cv (i := 231) (j := 124) (ar := [xI (v153)]) (rest := []) (r2 := xr_124) (by decide +kernel) (by decide +kernel) (by decide +kernel) xr_124_e rfl (by decide) (by decide) e156 ?_
  refine xc_i (k124 (d := d + 5)  (xq_gi_in e154) e155) rfl (fun hi158 => ?_)
  refine xe_bipush (n := 8) (by decide +kernel) (by decide) rfl ?_
  refine xe_icmple (off := 11) (t := 58) (by decide +kernel) (by decide) rfl hi158 (show xin (8) by decide) (fun c159 => ?_) (fun c159 => ?_)
  · rw [if_pos c159] at h
    refine xW_lv rfl (l := [(0, xR_ (x0)), (1, xI (x1))]) (xsb_of ⟨rfl, rfl, trivial⟩ (show [0, 1].Nodup by decide)) ?_
    exact k49_58   hx1 h
  · rw [if_neg c159] at h
    refine xe_alr (ins := .aload_n 0) (len := 1) (i := 0) (by decide +kernel) rfl rfl rfl rfl rfl ?_
    refine xe_ldn (ins := .iload_n 1) (len := 1) (by decide +kernel) rfl rfl rfl rfl ?_
    refine xe_bipush (n := 8) (by decide +kernel) (by decide) rfl ?_
    refine xe_iadd (by decide +kernel) rfl ?_
    obtain ⟨_, e161, h⟩ := xbnd h
    obtain ⟨R162, e160, h⟩ := xbnd h
    refine xs2_cv (kd := 0) (jj := 36) (by decide) (i := 83) (j := 36) (ar := [xI (xwr ((x1) + (8)))]) (rest := []) (r2 := xr_36) (by decide +kernel) (by decide +kernel) (by decide +kernel) xr_36_e rfl (by decide) (by decide) e161 ?_
    refine xct_v (k36 (d := d + 0) (xin_wr _) e160) rfl (fun e1 g164 => ?_) (fun g164 => ?_)
    · rw [xth_l g164] at h; cases h; exact xK_thr rfl ⟨rfl, rfl, fun v hv => by cases hv⟩
    · rw [xth_r g164] at h
      refine xW_lv rfl (l := [(0, xR_ (x0)), (1, xI (x1))]) (xsb_of ⟨rfl, rfl, trivial⟩ (show [0, 1].Nodup by decide)) ?_
      exact k49_58   hx1 h
def f49  (f : Nat) (a0 : Nat) (M : xj_M) : Option ((Nat ⊕ Int) × xj_M) := ((xq_gr 4 0 (a0) M).bind fun v166 => ((xq_gr 8 4 (v166) M).bind fun v168 => ((xq_gi 4 1 (a0) M).bind fun v170 => ((xq_ai 3 (v168) (v170) M).bind fun v172 => ((xq_gr 4 0 (a0) M).bind fun v174 => ((xq_gr 8 3 (v174) M).bind fun v176 => ((xq_gi 4 1 (a0) M).bind fun v178 => ((xq_ai 3 (v176) (v178) M).bind fun v180 => (if (v180) = (2) then f49_34   f (a0) (v172) M else ((xq_is 4 (a0) M).bind fun _ => ((f36 f (a0) (v172) M).bind fun R185 => xth R185 (fun _ => f49_34   f (a0) (v172) R185.2))))))))))))
theorem k49 {d f : Nat}   {a0 : Nat} {M : xj_M} {R : (Nat ⊕ Int) × xj_M}  (h : f49  f a0 M = some R) : xT (d + 7) 49 [xR_ a0] M (xQti R) := by
  refine xT_m xr_49_e (X := (none, d + 6, none)) rfl (xa_1 (xR_cat _) xa_n) (by decide) ?_
  unfold f49 at h
  refine xe_alr (ins := .aload_n 0) (len := 1) (i := 0) (by decide +kernel) rfl rfl rfl rfl rfl ?_
  obtain ⟨v166, e167, h⟩ := xbnd h
  refine xs_gr (i := 43) (c := 4) (k := 0) (by decide +kernel) (by decide) (by decide +kernel) e167 rfl ?_
  obtain ⟨v168, e169, h⟩ := xbnd h
  refine xs_gr (i := 80) (c := 8) (k := 4) (by decide +kernel) (by decide) (by decide +kernel) e169 rfl ?_
  refine xe_alr (ins := .aload_n 0) (len := 1) (i := 0) (by decide +kernel) rfl rfl rfl rfl rfl ?_
  obtain ⟨v170, e171, h⟩ := xbnd h
  refine xs_gi (i := 54) (c := 4) (k := 1) (by decide +kernel) (by decide) (by decide +kernel) e171 rfl ?_
  obtain ⟨v172, e173, h⟩ := xbnd h
  refine xs_iald rfl (by decide +kernel) (xq_gi_in e171) e173 rfl ?_
  refine xe_isr (ins := .istore_n 1) (len := 1) (i := 1) (by decide +kernel) rfl rfl rfl (by decide) (xk_k (show ¬ (0 : Nat) = 1 by decide) (Or.inr (xR_cat _)) xk_n) rfl ?_
  refine xe_alr (ins := .aload_n 0) (len := 1) (i := 0) (by decide +kernel) rfl rfl rfl rfl rfl ?_
  obtain ⟨v174, e175, h⟩ := xbnd h
  refine xs_gr (i := 43) (c := 4) (k := 0) (by decide +kernel) (by decide) (by decide +kernel) e175 rfl ?_
  obtain ⟨v176, e177, h⟩ := xbnd h
  refine xs_gr (i := 51) (c := 8) (k := 3) (by decide +kernel) (by decide) (by decide +kernel) e177 rfl ?_
  refine xe_alr (ins := .aload_n 0) (len := 1) (i := 0) (by decide +kernel) rfl rfl rfl rfl rfl ?_
  obtain ⟨v178, e179, h⟩ := xbnd h
  refine xs_gi (i := 54) (c := 4) (k := 1) (by decide +kernel) (by decide) (by decide +kernel) e179 rfl ?_
  obtain ⟨v180, e181, h⟩ := xbnd h
  refine xs_iald rfl (by decide +kernel) (xq_gi_in e179) e181 rfl ?_
  refine xe_iconst (n := 2) (by decide +kernel) rfl ?_
  refine xe_icmpeq (off := 8) (t := 34) (by decide +kernel) (by decide) rfl (xq_ai_in e181) (show xin (2) by decide) (fun c182 => ?_) (fun c182 => ?_)
  · rw [if_pos c182] at h
    refine xW_lv rfl (l := [(0, xR_ (a0)), (1, xI (v172))]) (xsb_of ⟨rfl, rfl, trivial⟩ (show [1, 0].Nodup by decide)) ?_
    exact k49_34   (xq_ai_in e173) h
  · rw [if_neg c182] at h
    refine xe_alr (ins := .aload_n 0) (len := 1) (i := 0) (by decide +kernel) rfl rfl rfl rfl rfl ?_
    refine xe_ldn (ins := .iload_n 1) (len := 1) (by decide +kernel) rfl rfl rfl rfl ?_
    obtain ⟨_, e184, h⟩ := xbnd h
    obtain ⟨R185, e183, h⟩ := xbnd h
    refine xs2_cv (kd := 0) (jj := 36) (by decide) (i := 83) (j := 36) (ar := [xI (v172)]) (rest := []) (r2 := xr_36) (by decide +kernel) (by decide +kernel) (by decide +kernel) xr_36_e rfl (by decide) (by decide) e184 ?_
    refine xct_v (k36 (d := d + 0) (xq_ai_in e173) e183) rfl (fun e1 g187 => ?_) (fun g187 => ?_)
    · rw [xth_l g187] at h; cases h; exact xK_thr rfl ⟨rfl, rfl, fun v hv => by cases hv⟩
    · rw [xth_r g187] at h
      refine xW_lv rfl (l := [(0, xR_ (a0)), (1, xI (v172))]) (xsb_of ⟨rfl, rfl, trivial⟩ (show [1, 0].Nodup by decide)) ?_
      exact k49_34   (xq_ai_in e173) h
-- ChangeHouse$Reader.readValue
def xr_51 : xj_mR := (4, yX4_readValue, cX4_readValue, 5, (Option.some Jvm.ClassFile.FieldType.long), 0, false, (5, 105), (1, 3))
set_option maxRecDepth 20000 in
theorem xr_51_e : xj_row 51 = some xr_51 := rfl
def f51_187   (f : Nat) (y0 : Int) (M : xj_M) : Option ((Nat ⊕ Int) × xj_M) := (some (.inr (y0), M))
theorem k51_187 {d f : Nat}     {y0 : Int} {M : xj_M} {R : (Nat ⊕ Int) × xj_M} (hy0 : xiN y0) (h : f51_187   f y0 M = some R) : xW (d + 6) (none, d + 6, none) xr_51 (187, [], [xZ y0], M) (xQtl R) := by
  unfold f51_187 at h
  cases h
  exact xe_ret_l (by decide +kernel) rfl ⟨rfl, rfl, fun v hv => by cases hv; exact hy0⟩
def f51_172   (f : Nat) (x0 : Nat) (x2 : Int) (y0 : Int) (M : xj_M) : Option ((Nat ⊕ Int) × xj_M) := ((xq_is 4 (x0) M).bind fun _ => ((f37  f (x0) M).bind fun M103 => (if (x2) = 0 then f51_187   f (y0) M103 else f51_187   f (xneg8 (y0)) M103)))
theorem k51_172 {d f : Nat}     {x0 : Nat} {x2 : Int} {y0 : Int} {M : xj_M} {R : (Nat ⊕ Int) × xj_M} (hx2 : xin x2) (hy0 : xiN y0) (h : f51_172   f x0 x2 y0 M = some R) : xW (d + 6) (none, d + 6, none) xr_51 (172, [(0, xR_ x0), (2, xI x2)], [xZ y0], M) (xQtl R) := by
  unfold f51_172 at h
  refine xe_lsr (ins := .lstore_n 3) (len := 1) (i := 3) (by decide +kernel) rfl rfl rfl (by decide) (xk2_k (show ¬ (0 : Nat) = 3 by decide) (show ¬ (0 : Nat) = 3 + 1 by decide) (Or.inl (show ¬ (0 + 1 : Nat) = 3 by decide)) (xk2_k (show ¬ (2 : Nat) = 3 by decide) (show ¬ (2 : Nat) = 3 + 1 by decide) (Or.inr (xI_cat _)) xk2_n)) rfl ?_
  refine xe_alr (ins := .aload_n 0) (len := 1) (i := 0) (by decide +kernel) rfl rfl rfl rfl rfl ?_
  obtain ⟨_, e102, h⟩ := xbnd h
  obtain ⟨M103, e101, h⟩ := xbnd h
  refine xs_cv (i := 73) (j := 37) (ar := []) (rest := []) (r2 := xr_37) (by decide +kernel) (by decide +kernel) (by decide +kernel) xr_37_e rfl (by decide) (by decide) e102 ?_
  refine xc_v (k37 (d := d + 5)   e101) rfl ?_
  refine xe_ldn (ins := .iload_n 2) (len := 1) (by decide +kernel) rfl rfl rfl rfl ?_
  refine xe_ifeq (off := 8) (t := 186) (by decide +kernel) (by decide) rfl hx2 (fun c105 => ?_) (fun c105 => ?_)
  · rw [if_pos c105] at h
    refine xe_ldn (ins := .lload_n 3) (len := 1) (by decide +kernel) rfl rfl rfl rfl ?_
    refine xW_lv rfl (l := []) (xsb_of trivial (show [3, 0, 2].Nodup by decide)) ?_
    exact k51_187   hy0 h
  · rw [if_neg c105] at h
    refine xe_ldn (ins := .lload_n 3) (len := 1) (by decide +kernel) rfl rfl rfl rfl ?_
    refine xe_lneg (by decide +kernel) rfl ?_
    refine xe_goto (off := 4) (nx := 187) (by decide +kernel) (by decide) ?_
    refine xW_lv rfl (l := []) (xsb_of trivial (show [3, 0, 2].Nodup by decide)) ?_
    exact k51_187   (xiN_of _) h
def f51_141   (f : Nat) (x0 : Nat) (x1 : Int) (x2 : Int) (M : xj_M) : Option ((Nat ⊕ Int) × xj_M) := (if (x1) = 0 then ((xq_gr 4 0 (x0) M).bind fun v107 => ((xq_gr 8 6 (v107) M).bind fun v109 => ((xq_gi 4 1 (x0) M).bind fun v111 => ((xq_al (v109) (v111) M).bind fun v113 => f51_172   f (x0) (x2) (v113) M)))) else ((xq_gr 4 0 (x0) M).bind fun v115 => ((xq_gr 8 7 (v115) M).bind fun v117 => ((xq_gi 4 1 (x0) M).bind fun v119 => ((xq_al (v117) (v119) M).bind fun v121 => f51_172   f (x0) (x2) (v121) M)))))
theorem k51_141 {d f : Nat}     {x0 : Nat} {x1 : Int} {x2 : Int} {M : xj_M} {R : (Nat ⊕ Int) × xj_M} (hx1 : xin x1) (hx2 : xin x2) (h : f51_141   f x0 x1 x2 M = some R) : xW (d + 6) (none, d + 6, none) xr_51 (141, [(0, xR_ x0), (1, xI x1), (2, xI x2)], [], M) (xQtl R) := by
  unfold f51_141 at h
  refine xe_ldn (ins := .iload_n 1) (len := 1) (by decide +kernel) rfl rfl rfl rfl ?_
  refine xe_ifeq (off := 18) (t := 160) (by decide +kernel) (by decide) rfl hx1 (fun c106 => ?_) (fun c106 => ?_)
  · rw [if_pos c106] at h
    refine xe_alr (ins := .aload_n 0) (len := 1) (i := 0) (by decide +kernel) rfl rfl rfl rfl rfl ?_
    obtain ⟨v107, e108, h⟩ := xbnd h
    refine xs_gr (i := 43) (c := 4) (k := 0) (by decide +kernel) (by decide) (by decide +kernel) e108 rfl ?_
    obtain ⟨v109, e110, h⟩ := xbnd h
    refine xs_gr (i := 251) (c := 8) (k := 6) (by decide +kernel) (by decide) (by decide +kernel) e110 rfl ?_
    refine xe_alr (ins := .aload_n 0) (len := 1) (i := 0) (by decide +kernel) rfl rfl rfl rfl rfl ?_
    obtain ⟨v111, e112, h⟩ := xbnd h
    refine xs_gi (i := 54) (c := 4) (k := 1) (by decide +kernel) (by decide) (by decide +kernel) e112 rfl ?_
    obtain ⟨v113, e114, h⟩ := xbnd h
    refine xs_lald (by decide +kernel) (xq_gi_in e112) e114 rfl ?_
    refine xW_lv rfl (l := [(0, xR_ (x0)), (2, xI (x2))]) (xsb_of ⟨rfl, rfl, trivial⟩ (show [0, 1, 2].Nodup by decide)) ?_
    exact k51_172   hx2 (xq_al_in e114) h
  · rw [if_neg c106] at h
    refine xe_alr (ins := .aload_n 0) (len := 1) (i := 0) (by decide +kernel) rfl rfl rfl rfl rfl ?_
    obtain ⟨v115, e116, h⟩ := xbnd h
    refine xs_gr (i := 43) (c := 4) (k := 0) (by decide +kernel) (by decide) (by decide +kernel) e116 rfl ?_
    obtain ⟨v117, e118, h⟩ := xbnd h
    refine xs_gr (i := 237) (c := 8) (k := 7) (by decide +kernel) (by decide) (by decide +kernel) e118 rfl ?_
    refine xe_alr (ins := .aload_n 0) (len := 1) (i := 0) (by decide +kernel) rfl rfl rfl rfl rfl ?_
    obtain ⟨v119, e120, h⟩ := xbnd h
    refine xs_gi (i := 54) (c := 4) (k := 1) (by decide +kernel) (by decide) (by decide +kernel) e120 rfl ?_
    obtain ⟨v121, e122, h⟩ := xbnd h
    refine xs_lald (by decide +kernel) (xq_gi_in e120) e122 rfl ?_
    refine xe_goto (off := 15) (nx := 172) (by decide +kernel) (by decide) ?_
    refine xW_lv rfl (l := [(0, xR_ (x0)), (2, xI (x2))]) (xsb_of ⟨rfl, rfl, trivial⟩ (show [0, 1, 2].Nodup by decide)) ?_
    exact k51_172   hx2 (xq_al_in e122) h
def f51_125   (f : Nat) (x0 : Nat) (x1 : Int) (x2 : Int) (M : xj_M) : Option ((Nat ⊕ Int) × xj_M) := ((xq_gr 4 0 (x0) M).bind fun v123 => ((xq_gr 8 4 (v123) M).bind fun v125 => ((xq_gi 4 1 (x0) M).bind fun v127 => ((xq_ai 3 (v125) (v127) M).bind fun v129 => ((xq_is 4 (x0) M).bind fun _ => ((f36 f (x0) (v129) M).bind fun R133 => xth R133 (fun _ => f51_141   f (x0) (x1) (x2) R133.2)))))))
theorem k51_125 {d f : Nat}     {x0 : Nat} {x1 : Int} {x2 : Int} {M : xj_M} {R : (Nat ⊕ Int) × xj_M} (hx1 : xin x1) (hx2 : xin x2) (h : f51_125   f x0 x1 x2 M = some R) : xW (d + 6) (none, d + 6, none) xr_51 (125, [(0, xR_ x0), (1, xI x1), (2, xI x2)], [], M) (xQtl R) := by
  unfold f51_125 at h
  refine xe_alr (ins := .aload_n 0) (len := 1) (i := 0) (by decide +kernel) rfl rfl rfl rfl rfl ?_
  refine xe_alr (ins := .aload_n 0) (len := 1) (i := 0) (by decide +kernel) rfl rfl rfl rfl rfl ?_
  obtain ⟨v123, e124, h⟩ := xbnd h
  refine xs_gr (i := 43) (c := 4) (k := 0) (by decide +kernel) (by decide) (by decide +kernel) e124 rfl ?_
  obtain ⟨v125, e126, h⟩ := xbnd h
  refine xs_gr (i := 80) (c := 8) (k := 4) (by decide +kernel) (by decide) (by decide +kernel) e126 rfl ?_
  refine xe_alr (ins := .aload_n 0) (len := 1) (i := 0) (by decide +kernel) rfl rfl rfl rfl rfl ?_
  obtain ⟨v127, e128, h⟩ := xbnd h
  refine xs_gi (i := 54) (c := 4) (k := 1) (by decide +kernel) (by decide) (by decide +kernel) e128 rfl ?_
  obtain ⟨v129, e130, h⟩ := xbnd h
  refine xs_iald rfl (by decide +kernel) (xq_gi_in e128) e130 rfl ?_
  obtain ⟨_, e132, h⟩ := xbnd h
  obtain ⟨R133, e131, h⟩ := xbnd h
  refine xs2_cv (kd := 0) (jj := 36) (by decide) (i := 83) (j := 36) (ar := [xI (v129)]) (rest := []) (r2 := xr_36) (by decide +kernel) (by decide +kernel) (by decide +kernel) xr_36_e rfl (by decide) (by decide) e132 ?_
  refine xct_v (k36 (d := d + 0) (xq_ai_in e130) e131) rfl (fun e1 g135 => ?_) (fun g135 => ?_)
  · rw [xth_l g135] at h; cases h; exact xK_thr rfl ⟨rfl, rfl, fun v hv => by cases hv⟩
  · rw [xth_r g135] at h
    refine xW_lv rfl (l := [(0, xR_ (x0)), (1, xI (x1)), (2, xI (x2))]) (xsb_of ⟨rfl, rfl, rfl, trivial⟩ (show [0, 1, 2].Nodup by decide)) ?_
    exact k51_141   hx1 hx2 h
def f51_86   (f : Nat) (x0 : Nat) (x1 : Int) (x2 : Int) (M : xj_M) : Option ((Nat ⊕ Int) × xj_M) := (if ¬ (x1) = 0 then f51_141   f (x0) (x1) (x2) M else ((xq_gr 4 0 (x0) M).bind fun v138 => ((xq_gr 8 3 (v138) M).bind fun v140 => ((xq_gi 4 1 (x0) M).bind fun v142 => ((xq_ai 3 (v140) (v142) M).bind fun v144 => (if ¬ (v144) = (4) then f51_125   f (x0) (x1) (x2) M else ((xq_gr 4 0 (x0) M).bind fun v147 => ((xq_gr 8 6 (v147) M).bind fun v149 => ((xq_gi 4 1 (x0) M).bind fun v151 => ((xq_al (v149) (v151) M).bind fun v153 => (if (v153) ≤ (1000000000000) then f51_141   f (x0) (x1) (x2) M else f51_125   f (x0) (x1) (x2) M)))))))))))
theorem k51_86 {d f : Nat}     {x0 : Nat} {x1 : Int} {x2 : Int} {M : xj_M} {R : (Nat ⊕ Int) × xj_M} (hx1 : xin x1) (hx2 : xin x2) (h : f51_86   f x0 x1 x2 M = some R) : xW (d + 6) (none, d + 6, none) xr_51 (86, [(0, xR_ x0), (1, xI x1), (2, xI x2)], [], M) (xQtl R) := by
  unfold f51_86 at h
  refine xe_ldn (ins := .iload_n 1) (len := 1) (by decide +kernel) rfl rfl rfl rfl ?_
  refine xe_ifne (off := 54) (t := 141) (by decide +kernel) (by decide) rfl hx1 (fun c137 => ?_) (fun c137 => ?_)
  · rw [if_pos c137] at h
    refine xW_lv rfl (l := [(0, xR_ (x0)), (1, xI (x1)), (2, xI (x2))]) (xsb_of ⟨rfl, rfl, rfl, trivial⟩ (show [0, 1, 2].Nodup by decide)) ?_
    exact k51_141   hx1 hx2 h
  · rw [if_neg c137] at h
    refine xe_alr (ins := .aload_n 0) (len := 1) (i := 0) (by decide +kernel) rfl rfl rfl rfl rfl ?_
    obtain ⟨v138, e139, h⟩ := xbnd h
    refine xs_gr (i := 43) (c := 4) (k := 0) (by decide +kernel) (by decide) (by decide +kernel) e139 rfl ?_
    obtain ⟨v140, e141, h⟩ := xbnd h
    refine xs_gr (i := 51) (c := 8) (k := 3) (by decide +kernel) (by decide) (by decide +kernel) e141 rfl ?_
    refine xe_alr (ins := .aload_n 0) (len := 1) (i := 0) (by decide +kernel) rfl rfl rfl rfl rfl ?_
    obtain ⟨v142, e143, h⟩ := xbnd h
    refine xs_gi (i := 54) (c := 4) (k := 1) (by decide +kernel) (by decide) (by decide +kernel) e143 rfl ?_
    obtain ⟨v144, e145, h⟩ := xbnd h
    refine xs_iald rfl (by decide +kernel) (xq_gi_in e143) e145 rfl ?_
    refine xe_iconst (n := 4) (by decide +kernel) rfl ?_
    refine xe_icmpne (off := 22) (t := 125) (by decide +kernel) (by decide) rfl (xq_ai_in e145) (show xin (4) by decide) (fun c146 => ?_) (fun c146 => ?_)
    · rw [if_pos c146] at h
      refine xW_lv rfl (l := [(0, xR_ (x0)), (1, xI (x1)), (2, xI (x2))]) (xsb_of ⟨rfl, rfl, rfl, trivial⟩ (show [0, 1, 2].Nodup by decide)) ?_
      exact k51_125   hx1 hx2 h
    · rw [if_neg c146] at h
      refine xe_alr (ins := .aload_n 0) (len := 1) (i := 0) (by decide +kernel) rfl rfl rfl rfl rfl ?_
      obtain ⟨v147, e148, h⟩ := xbnd h
      refine xs_gr (i := 43) (c := 4) (k := 0) (by decide +kernel) (by decide) (by decide +kernel) e148 rfl ?_
      obtain ⟨v149, e150, h⟩ := xbnd h
      refine xs_gr (i := 251) (c := 8) (k := 6) (by decide +kernel) (by decide) (by decide +kernel) e150 rfl ?_
      refine xe_alr (ins := .aload_n 0) (len := 1) (i := 0) (by decide +kernel) rfl rfl rfl rfl rfl ?_
      obtain ⟨v151, e152, h⟩ := xbnd h
      refine xs_gi (i := 54) (c := 4) (k := 1) (by decide +kernel) (by decide) (by decide +kernel) e152 rfl ?_
      obtain ⟨v153, e154, h⟩ := xbnd h
      refine xs_lald (by decide +kernel) (xq_gi_in e152) e154 rfl ?_
      refine xe_ldc2 (i := 272) (n := 1000000000000) (by decide +kernel) (by decide +kernel) rfl ?_
      refine xe_lcmp (by decide +kernel) rfl (xq_al_in e154) (show xiN (1000000000000) by decide) ?_
      refine xe_ifle (off := 19) (t := 141) (by decide +kernel) (by decide) rfl (xin_cmp8 _ _) (fun c155 => ?_) (fun c155 => ?_)
      · have c155 := xcmp8_le.mp c155; rw [if_pos c155] at h
        refine xW_lv rfl (l := [(0, xR_ (x0)), (1, xI (x1)), (2, xI (x2))]) (xsb_of ⟨rfl, rfl, rfl, trivial⟩ (show [0, 1, 2].Nodup by decide)) ?_
        exact k51_141   hx1 hx2 h
      · have c155 := (not_congr xcmp8_le).mp c155; rw [if_neg c155] at h
        refine xW_lv rfl (l := [(0, xR_ (x0)), (1, xI (x1)), (2, xI (x2))]) (xsb_of ⟨rfl, rfl, rfl, trivial⟩ (show [0, 1, 2].Nodup by decide)) ?_
        exact k51_125   hx1 hx2 h
def f51_77   (f : Nat) (x0 : Nat) (x1 : Int) (y0 : Int) (M : xj_M) : Option ((Nat ⊕ Int) × xj_M) := (if (y0) = 0 then f51_86   f (x0) (x1) (y0) M else ((xq_is 4 (x0) M).bind fun _ => ((f37  f (x0) M).bind fun M159 => f51_86   f (x0) (x1) (y0) M159)))
theorem k51_77 {d f : Nat}     {x0 : Nat} {x1 : Int} {y0 : Int} {M : xj_M} {R : (Nat ⊕ Int) × xj_M} (hx1 : xin x1) (hy0 : xin y0) (h : f51_77   f x0 x1 y0 M = some R) : xW (d + 6) (none, d + 6, none) xr_51 (77, [(0, xR_ x0), (1, xI x1)], [xI y0], M) (xQtl R) := by
  unfold f51_77 at h
  refine xe_isr (ins := .istore_n 2) (len := 1) (i := 2) (by decide +kernel) rfl rfl rfl (by decide) (xk_k (show ¬ (0 : Nat) = 2 by decide) (Or.inl (show ¬ (0 + 1 : Nat) = 2 by decide)) (xk_k (show ¬ (1 : Nat) = 2 by decide) (Or.inr (xI_cat _)) xk_n)) rfl ?_
  refine xe_ldn (ins := .iload_n 2) (len := 1) (by decide +kernel) rfl rfl rfl rfl ?_
  refine xe_ifeq (off := 7) (t := 86) (by decide +kernel) (by decide) rfl hy0 (fun c156 => ?_) (fun c156 => ?_)
  · rw [if_pos c156] at h
    refine xW_lv rfl (l := [(0, xR_ (x0)), (1, xI (x1)), (2, xI (y0))]) (xsb_of ⟨rfl, rfl, rfl, trivial⟩ (show [2, 0, 1].Nodup by decide)) ?_
    exact k51_86   hx1 hy0 h
  · rw [if_neg c156] at h
    refine xe_alr (ins := .aload_n 0) (len := 1) (i := 0) (by decide +kernel) rfl rfl rfl rfl rfl ?_
    obtain ⟨_, e158, h⟩ := xbnd h
    obtain ⟨M159, e157, h⟩ := xbnd h
    refine xs_cv (i := 73) (j := 37) (ar := []) (rest := []) (r2 := xr_37) (by decide +kernel) (by decide +kernel) (by decide +kernel) xr_37_e rfl (by decide) (by decide) e158 ?_
    refine xc_v (k37 (d := d + 5)   e157) rfl ?_
    refine xW_lv rfl (l := [(0, xR_ (x0)), (1, xI (x1)), (2, xI (y0))]) (xsb_of ⟨rfl, rfl, rfl, trivial⟩ (show [2, 0, 1].Nodup by decide)) ?_
    exact k51_86   hx1 hy0 h
def f51_76   (f : Nat) (x0 : Nat) (x1 : Int) (M : xj_M) : Option ((Nat ⊕ Int) × xj_M) := f51_77   f (x0) (x1) (0) M
theorem k51_76 {d f : Nat}     {x0 : Nat} {x1 : Int} {M : xj_M} {R : (Nat ⊕ Int) × xj_M} (hx1 : xin x1) (h : f51_76   f x0 x1 M = some R) : xW (d + 6) (none, d + 6, none) xr_51 (76, [(0, xR_ x0), (1, xI x1)], [], M) (xQtl R) := by
  unfold f51_76 at h
  refine xe_iconst (n := 0) (by decide +kernel) rfl ?_
  refine xW_lv rfl (l := [(0, xR_ (x0)), (1, xI (x1))]) (xsb_of ⟨rfl, rfl, trivial⟩ (show [0, 1].Nodup by decide)) ?_
  exact k51_77   hx1 (show xin (0) by decide) h
def f51_40   (f : Nat) (x0 : Nat) (y0 : Int) (M : xj_M) : Option ((Nat ⊕ Int) × xj_M) := ((xq_gr 4 0 (x0) M).bind fun v161 => ((xq_gr 8 3 (v161) M).bind fun v163 => ((xq_gi 4 1 (x0) M).bind fun v165 => ((xq_ai 3 (v163) (v165) M).bind fun v167 => (if ¬ (v167) = (45) then f51_76   f (x0) (y0) M else ((xq_gr 4 0 (x0) M).bind fun v170 => ((xq_gi 4 1 (x0) M).bind fun v172 => ((xq_is 8 (v170) M).bind fun _ => ((f126  f (v170) (v172) M).bind fun R176 => (if (R176.1) = 0 then f51_76   f (x0) (y0) R176.2 else f51_77   f (x0) (y0) (1) R176.2))))))))))
theorem k51_40 {d f : Nat}     {x0 : Nat} {y0 : Int} {M : xj_M} {R : (Nat ⊕ Int) × xj_M} (hy0 : xin y0) (h : f51_40   f x0 y0 M = some R) : xW (d + 6) (none, d + 6, none) xr_51 (40, [(0, xR_ x0)], [xI y0], M) (xQtl R) := by
  unfold f51_40 at h
  refine xe_isr (ins := .istore_n 1) (len := 1) (i := 1) (by decide +kernel) rfl rfl rfl (by decide) (xk_k (show ¬ (0 : Nat) = 1 by decide) (Or.inr (xR_cat _)) xk_n) rfl ?_
  refine xe_alr (ins := .aload_n 0) (len := 1) (i := 0) (by decide +kernel) rfl rfl rfl rfl rfl ?_
  obtain ⟨v161, e162, h⟩ := xbnd h
  refine xs_gr (i := 43) (c := 4) (k := 0) (by decide +kernel) (by decide) (by decide +kernel) e162 rfl ?_
  obtain ⟨v163, e164, h⟩ := xbnd h
  refine xs_gr (i := 51) (c := 8) (k := 3) (by decide +kernel) (by decide) (by decide +kernel) e164 rfl ?_
  refine xe_alr (ins := .aload_n 0) (len := 1) (i := 0) (by decide +kernel) rfl rfl rfl rfl rfl ?_
  obtain ⟨v165, e166, h⟩ := xbnd h
  refine xs_gi (i := 54) (c := 4) (k := 1) (by decide +kernel) (by decide) (by decide +kernel) e166 rfl ?_
  obtain ⟨v167, e168, h⟩ := xbnd h
  refine xs_iald rfl (by decide +kernel) (xq_gi_in e166) e168 rfl ?_
  refine xe_bipush (n := 45) (by decide +kernel) (by decide) rfl ?_
  refine xe_icmpne (off := 21) (t := 76) (by decide +kernel) (by decide) rfl (xq_ai_in e168) (show xin (45) by decide) (fun c169 => ?_) (fun c169 => ?_)
  · rw [if_pos c169] at h
    refine xW_lv rfl (l := [(0, xR_ (x0)), (1, xI (y0))]) (xsb_of ⟨rfl, rfl, trivial⟩ (show [1, 0].Nodup by decide)) ?_
    exact k51_76   hy0 h
  · rw [if_neg c169] at h
    refine xe_alr (ins := .aload_n 0) (len := 1) (i := 0) (by decide +kernel) rfl rfl rfl rfl rfl ?_
    obtain ⟨v170, e171, h⟩ := xbnd h
    refine xs_gr (i := 43) (c := 4) (k := 0) (by decide +kernel) (by decide) (by decide +kernel) e171 rfl ?_
    refine xe_alr (ins := .aload_n 0) (len := 1) (i := 0) (by decide +kernel) rfl rfl rfl rfl rfl ?_
    obtain ⟨v172, e173, h⟩ := xbnd h
    refine xs_gi (i := 54) (c := 4) (k := 1) (by decide +kernel) (by decide) (by decide +kernel) e173 rfl ?_
    obtain ⟨_, e175, h⟩ := xbnd h
    obtain ⟨R176, e174, h⟩ := xbnd h
    refine xs_cv (i := 268) (j := 126) (ar := [xI (v172)]) (rest := []) (r2 := xr_126) (by decide +kernel) (by decide +kernel) (by decide +kernel) xr_126_e rfl (by decide) (by decide) e175 ?_
    refine xc_i (k126 (d := d + 5)  (xq_gi_in e173) e174) rfl (fun hi177 => ?_)
    refine xe_ifeq (off := 7) (t := 76) (by decide +kernel) (by decide) rfl hi177 (fun c178 => ?_) (fun c178 => ?_)
    · rw [if_pos c178] at h
      refine xW_lv rfl (l := [(0, xR_ (x0)), (1, xI (y0))]) (xsb_of ⟨rfl, rfl, trivial⟩ (show [1, 0].Nodup by decide)) ?_
      exact k51_76   hy0 h
    · rw [if_neg c178] at h
      refine xe_iconst (n := 1) (by decide +kernel) rfl ?_
      refine xe_goto (off := 4) (nx := 77) (by decide +kernel) (by decide) ?_
      refine xW_lv rfl (l := [(0, xR_ (x0)), (1, xI (y0))]) (xsb_of ⟨rfl, rfl, trivial⟩ (show [1, 0].Nodup by decide)) ?_
      exact k51_77   hy0 (show xin (1) by decide) h
def f51_39   (f : Nat) (x0 : Nat) (M : xj_M) : Option ((Nat ⊕ Int) × xj_M) := f51_40   f (x0) (0) M
theorem k51_39 {d f : Nat}     {x0 : Nat} {M : xj_M} {R : (Nat ⊕ Int) × xj_M}  (h : f51_39   f x0 M = some R) : xW (d + 6) (none, d + 6, none) xr_51 (39, [(0, xR_ x0)], [], M) (xQtl R) := by
  unfold f51_39 at h
  refine xe_iconst (n := 0) (by decide +kernel) rfl ?_
  refine xW_lv rfl (l := [(0, xR_ (x0))]) (xsb_of ⟨rfl, trivial⟩ (show [0].Nodup by decide)) ?_
  exact k51_40   (show xin (0) by decide) h
def f51  (f : Nat) (a0 : Nat) (M : xj_M) : Option ((Nat ⊕ Int) × xj_M) := ((xq_gr 4 0 (a0) M).bind fun v179 => ((xq_gr 8 3 (v179) M).bind fun v181 => ((xq_gi 4 1 (a0) M).bind fun v183 => ((xq_ai 3 (v181) (v183) M).bind fun v185 => (if ¬ (v185) = (1) then f51_39   f (a0) M else ((xq_gr 4 0 (a0) M).bind fun v188 => ((xq_gr 8 7 (v188) M).bind fun v190 => ((xq_gi 4 1 (a0) M).bind fun v192 => ((xq_al (v190) (v192) M).bind fun v194 => (if (v194) = (-1) then f51_39   f (a0) M else f51_40   f (a0) (1) M))))))))))
theorem k51 {d f : Nat}   {a0 : Nat} {M : xj_M} {R : (Nat ⊕ Int) × xj_M}  (h : f51  f a0 M = some R) : xT (d + 7) 51 [xR_ a0] M (xQtl R) := by
  refine xT_m xr_51_e (X := (none, d + 6, none)) rfl (xa_1 (xR_cat _) xa_n) (by decide) ?_
  unfold f51 at h
  refine xe_alr (ins := .aload_n 0) (len := 1) (i := 0) (by decide +kernel) rfl rfl rfl rfl rfl ?_
  obtain ⟨v179, e180, h⟩ := xbnd h
  refine xs_gr (i := 43) (c := 4) (k := 0) (by decide +kernel) (by decide) (by decide +kernel) e180 rfl ?_
  obtain ⟨v181, e182, h⟩ := xbnd h
  refine xs_gr (i := 51) (c := 8) (k := 3) (by decide +kernel) (by decide) (by decide +kernel) e182 rfl ?_
  refine xe_alr (ins := .aload_n 0) (len := 1) (i := 0) (by decide +kernel) rfl rfl rfl rfl rfl ?_
  obtain ⟨v183, e184, h⟩ := xbnd h
  refine xs_gi (i := 54) (c := 4) (k := 1) (by decide +kernel) (by decide) (by decide +kernel) e184 rfl ?_
  obtain ⟨v185, e186, h⟩ := xbnd h
  refine xs_iald rfl (by decide +kernel) (xq_gi_in e184) e186 rfl ?_
  refine xe_iconst (n := 1) (by decide +kernel) rfl ?_
  refine xe_icmpne (off := 26) (t := 39) (by decide +kernel) (by decide) rfl (xq_ai_in e186) (show xin (1) by decide) (fun c187 => ?_) (fun c187 => ?_)
  · rw [if_pos c187] at h
    refine xW_lv rfl (l := [(0, xR_ (a0))]) (xsb_of ⟨rfl, trivial⟩ (show [0].Nodup by decide)) ?_
    exact k51_39    h
  · rw [if_neg c187] at h
    refine xe_alr (ins := .aload_n 0) (len := 1) (i := 0) (by decide +kernel) rfl rfl rfl rfl rfl ?_
    obtain ⟨v188, e189, h⟩ := xbnd h
    refine xs_gr (i := 43) (c := 4) (k := 0) (by decide +kernel) (by decide) (by decide +kernel) e189 rfl ?_
    obtain ⟨v190, e191, h⟩ := xbnd h
    refine xs_gr (i := 237) (c := 8) (k := 7) (by decide +kernel) (by decide) (by decide +kernel) e191 rfl ?_
    refine xe_alr (ins := .aload_n 0) (len := 1) (i := 0) (by decide +kernel) rfl rfl rfl rfl rfl ?_
    obtain ⟨v192, e193, h⟩ := xbnd h
    refine xs_gi (i := 54) (c := 4) (k := 1) (by decide +kernel) (by decide) (by decide +kernel) e193 rfl ?_
    obtain ⟨v194, e195, h⟩ := xbnd h
    refine xs_lald (by decide +kernel) (xq_gi_in e193) e195 rfl ?_
    refine xe_ldc2 (i := 240) (n := -1) (by decide +kernel) (by decide +kernel) rfl ?_
    refine xe_lcmp (by decide +kernel) rfl (xq_al_in e195) (show xiN (-1) by decide) ?_
    refine xe_ifeq (off := 7) (t := 39) (by decide +kernel) (by decide) rfl (xin_cmp8 _ _) (fun c196 => ?_) (fun c196 => ?_)
    · have c196 := xcmp8_eq.mp c196; rw [if_pos c196] at h
      refine xW_lv rfl (l := [(0, xR_ (a0))]) (xsb_of ⟨rfl, trivial⟩ (show [0].Nodup by decide)) ?_
      exact k51_39    h
    · have c196 := (not_congr xcmp8_eq).mp c196; rw [if_neg c196] at h
      refine xe_iconst (n := 1) (by decide +kernel) rfl ?_
      refine xe_goto (off := 4) (nx := 40) (by decide +kernel) (by decide) ?_
      refine xW_lv rfl (l := [(0, xR_ (a0))]) (xsb_of ⟨rfl, trivial⟩ (show [0].Nodup by decide)) ?_
      exact k51_40   (show xin (1) by decide) h
-- ChangeHouse$Reader.readGathering
def xr_54 : xj_mR := (4, yX4_readGathering, cX4_readGathering, 5, (Option.none : Option Jvm.ClassFile.FieldType), 1, false, (5, 88), (1, 3))
set_option maxRecDepth 20000 in
theorem xr_54_e : xj_row 54 = some xr_54 := rfl
def f54_186   (f : Nat) (x0 : Nat) (M : xj_M) : Option ((Nat ⊕ Unit) × xj_M) := ((xq_is 4 (x0) M).bind fun _ => ((f38 f (x0) (41) M).bind fun R103 => xth R103 (fun _ => (some (.inr (), R103.2)))))
theorem k54_186 {d f : Nat}     {x0 : Nat} {M : xj_M} {R : (Nat ⊕ Unit) × xj_M}  (h : f54_186   f x0 M = some R) : xW (d + 7) (none, d + 7, none) xr_54 (186, [(0, xR_ x0)], [], M) (xQtv R) := by
  unfold f54_186 at h
  refine xe_alr (ins := .aload_n 0) (len := 1) (i := 0) (by decide +kernel) rfl rfl rfl rfl rfl ?_
  refine xe_bipush (n := 41) (by decide +kernel) (by decide) rfl ?_
  obtain ⟨_, e102, h⟩ := xbnd h
  obtain ⟨R103, e101, h⟩ := xbnd h
  refine xs2_cv (kd := 0) (jj := 38) (by decide) (i := 76) (j := 38) (ar := [xI (41)]) (rest := []) (r2 := xr_38) (by decide +kernel) (by decide +kernel) (by decide +kernel) xr_38_e rfl (by decide) (by decide) e102 ?_
  refine xct_v (k38 (d := d + 0) (show xin (41) by decide) e101) rfl (fun e1 g105 => ?_) (fun g105 => ?_)
  · rw [xth_l g105] at h; cases h; exact xK_thr rfl ⟨rfl, rfl⟩
  · rw [xth_r g105] at h
    cases h
    exact xe_ret_v (by decide +kernel) rfl ⟨rfl, rfl⟩
def f54_133   (f : Nat) (x0 : Nat) (x2 : Int) (x4 : Int) (y0 : Int) (y1 : Nat) (M : xj_M) : Option ((Nat ⊕ Unit) × xj_M) := ((xq_is 4 (y1) M).bind fun _ => ((f56  f (y1) (y0) (xwr ((x2) + (xwr ((72) * (x4))))) M).bind fun M109 => f54_186   f (x0) M109))
theorem k54_133 {d f : Nat}     {x0 : Nat} {x2 : Int} {x4 : Int} {y0 : Int} {y1 : Nat} {M : xj_M} {R : (Nat ⊕ Unit) × xj_M} (hx2 : xin x2) (hx4 : xin x4) (hy0 : xin y0) (h : f54_133   f x0 x2 x4 y0 y1 M = some R) : xW (d + 7) (none, d + 7, none) xr_54 (133, [(0, xR_ x0), (2, xI x2), (4, xI x4)], [xI y0, xR_ y1], M) (xQtv R) := by
  unfold f54_133 at h
  refine xe_ldn (ins := .iload_n 2) (len := 1) (by decide +kernel) rfl rfl rfl rfl ?_
  refine xe_bipush (n := 72) (by decide +kernel) (by decide) rfl ?_
  refine xe_ldn (ins := .iload 4) (len := 2) (by decide +kernel) rfl rfl rfl rfl ?_
  refine xe_imul (by decide +kernel) rfl ?_
  refine xe_iadd (by decide +kernel) rfl ?_
  refine xe_i2l (by decide +kernel) rfl (xin_wr _) ?_
  obtain ⟨_, e108, h⟩ := xbnd h
  obtain ⟨M109, e107, h⟩ := xbnd h
  refine xs_cv (i := 286) (j := 56) (ar := [xZ (xwr ((x2) + (xwr ((72) * (x4))))), xI (y0)]) (rest := []) (r2 := xr_56) (by decide +kernel) (by decide +kernel) (by decide +kernel) xr_56_e rfl (by decide) (by decide) e108 ?_
  refine xc_v (k56 (d := d + 6)  hy0 (xin_N (xin_wr _)) e107) rfl ?_
  refine xe_goto (off := 42) (nx := 186) (by decide +kernel) (by decide) ?_
  refine xW_lv rfl (l := [(0, xR_ (x0))]) (xsb_of ⟨rfl, trivial⟩ (show [0, 2, 4].Nodup by decide)) ?_
  exact k54_186    h
def f54_121   (f : Nat) (x0 : Nat) (x1 : Int) (x2 : Int) (x4 : Int) (M : xj_M) : Option ((Nat ⊕ Unit) × xj_M) := (if ¬ (x1) = (11) then f54_133   f (x0) (x2) (x4) (4) (x0) M else f54_133   f (x0) (x2) (x4) (3) (x0) M)
theorem k54_121 {d f : Nat}     {x0 : Nat} {x1 : Int} {x2 : Int} {x4 : Int} {M : xj_M} {R : (Nat ⊕ Unit) × xj_M} (hx1 : xin x1) (hx2 : xin x2) (hx4 : xin x4) (h : f54_121   f x0 x1 x2 x4 M = some R) : xW (d + 7) (none, d + 7, none) xr_54 (121, [(0, xR_ x0), (1, xI x1), (2, xI x2), (4, xI x4)], [], M) (xQtv R) := by
  unfold f54_121 at h
  refine xe_alr (ins := .aload_n 0) (len := 1) (i := 0) (by decide +kernel) rfl rfl rfl rfl rfl ?_
  refine xe_ldn (ins := .iload_n 1) (len := 1) (by decide +kernel) rfl rfl rfl rfl ?_
  refine xe_bipush (n := 11) (by decide +kernel) (by decide) rfl ?_
  refine xe_icmpne (off := 7) (t := 132) (by decide +kernel) (by decide) rfl hx1 (show xin (11) by decide) (fun c111 => ?_) (fun c111 => ?_)
  · rw [if_pos c111] at h
    refine xe_iconst (n := 4) (by decide +kernel) rfl ?_
    refine xW_lv rfl (l := [(0, xR_ (x0)), (2, xI (x2)), (4, xI (x4))]) (xsb_of ⟨rfl, rfl, rfl, trivial⟩ (show [0, 1, 2, 4].Nodup by decide)) ?_
    exact k54_133   hx2 hx4 (show xin (4) by decide) h
  · rw [if_neg c111] at h
    refine xe_iconst (n := 3) (by decide +kernel) rfl ?_
    refine xe_goto (off := 4) (nx := 133) (by decide +kernel) (by decide) ?_
    refine xW_lv rfl (l := [(0, xR_ (x0)), (2, xI (x2)), (4, xI (x4))]) (xsb_of ⟨rfl, rfl, rfl, trivial⟩ (show [0, 1, 2, 4].Nodup by decide)) ?_
    exact k54_133   hx2 hx4 (show xin (3) by decide) h
def f54_116   (f : Nat) (x0 : Nat) (x1 : Int) (x2 : Int) (x3 : Int) (x4 : Int) (M : xj_M) : Option ((Nat ⊕ Unit) × xj_M) := ((xq_is 4 (x0) M).bind fun _ => ((f36 f (x0) (x3) M).bind fun R114 => xth R114 (fun _ => f54_121   f (x0) (x1) (x2) (x4) R114.2)))
theorem k54_116 {d f : Nat}     {x0 : Nat} {x1 : Int} {x2 : Int} {x3 : Int} {x4 : Int} {M : xj_M} {R : (Nat ⊕ Unit) × xj_M} (hx1 : xin x1) (hx2 : xin x2) (hx3 : xin x3) (hx4 : xin x4) (h : f54_116   f x0 x1 x2 x3 x4 M = some R) : xW (d + 7) (none, d + 7, none) xr_54 (116, [(0, xR_ x0), (1, xI x1), (2, xI x2), (3, xI x3), (4, xI x4)], [], M) (xQtv R) := by
  unfold f54_116 at h
  refine xe_alr (ins := .aload_n 0) (len := 1) (i := 0) (by decide +kernel) rfl rfl rfl rfl rfl ?_
  refine xe_ldn (ins := .iload_n 3) (len := 1) (by decide +kernel) rfl rfl rfl rfl ?_
  obtain ⟨_, e113, h⟩ := xbnd h
  obtain ⟨R114, e112, h⟩ := xbnd h
  refine xs2_cv (kd := 0) (jj := 36) (by decide) (i := 83) (j := 36) (ar := [xI (x3)]) (rest := []) (r2 := xr_36) (by decide +kernel) (by decide +kernel) (by decide +kernel) xr_36_e rfl (by decide) (by decide) e113 ?_
  refine xct_v (k36 (d := d + 1) hx3 e112) rfl (fun e1 g116 => ?_) (fun g116 => ?_)
  · rw [xth_l g116] at h; cases h; exact xK_thr rfl ⟨rfl, rfl⟩
  · rw [xth_r g116] at h
    refine xW_lv rfl (l := [(0, xR_ (x0)), (1, xI (x1)), (2, xI (x2)), (4, xI (x4))]) (xsb_of ⟨rfl, rfl, rfl, rfl, trivial⟩ (show [0, 1, 2, 3, 4].Nodup by decide)) ?_
    exact k54_121   hx1 hx2 hx4 h
def f54_62   (f : Nat) (x0 : Nat) (x1 : Int) (M : xj_M) : Option ((Nat ⊕ Unit) × xj_M) := ((xq_is 4 (x0) M).bind fun _ => ((f52 f (x0) M).bind fun R120 => xth R120 (fun v121 => ((xq_is 4 (x0) R120.2).bind fun _ => ((f38 f (x0) (58) R120.2).bind fun R126 => xth R126 (fun _ => ((xq_gr 4 0 (x0) R126.2).bind fun v130 => ((xq_gr 8 4 (v130) R126.2).bind fun v132 => ((xq_gi 4 1 (x0) R126.2).bind fun v134 => ((xq_ai 3 (v132) (v134) R126.2).bind fun v136 => ((xq_is 4 (x0) R126.2).bind fun _ => ((f52 f (x0) R126.2).bind fun R140 => xth R140 (fun v141 => (if (xrem (v141) (6)) < (xrem (v121) (6)) then f54_116   f (x0) (x1) (v121) (v136) (v141) R140.2 else (if (xdiv (v121) (6)) ≤ (xdiv (v141) (6)) then f54_121   f (x0) (x1) (v121) (v141) R140.2 else f54_116   f (x0) (x1) (v121) (v136) (v141) R140.2)))))))))))))))
theorem k54_62 {d f : Nat}     {x0 : Nat} {x1 : Int} {M : xj_M} {R : (Nat ⊕ Unit) × xj_M} (hx1 : xin x1) (h : f54_62   f x0 x1 M = some R) : xW (d + 7) (none, d + 7, none) xr_54 (62, [(0, xR_ x0), (1, xI x1)], [], M) (xQtv R) := by
  unfold f54_62 at h
  refine xe_alr (ins := .aload_n 0) (len := 1) (i := 0) (by decide +kernel) rfl rfl rfl rfl rfl ?_
  obtain ⟨_, e119, h⟩ := xbnd h
  obtain ⟨R120, e118, h⟩ := xbnd h
  refine xs2_cv (kd := 0) (jj := 52) (by decide) (i := 121) (j := 52) (ar := []) (rest := []) (r2 := xr_52) (by decide +kernel) (by decide +kernel) (by decide +kernel) xr_52_e rfl (by decide) (by decide) e119 ?_
  refine xct_i (k52 (d := d + 0)  e118) rfl (fun e1 g122 => ?_) (fun v121 g122 hi123 => ?_)
  · rw [xth_l g122] at h; cases h; exact xK_thr rfl ⟨rfl, rfl⟩
  · rw [xth_r g122] at h
    refine xe_isr (ins := .istore_n 2) (len := 1) (i := 2) (by decide +kernel) rfl rfl rfl (by decide) (xk_k (show ¬ (0 : Nat) = 2 by decide) (Or.inl (show ¬ (0 + 1 : Nat) = 2 by decide)) (xk_k (show ¬ (1 : Nat) = 2 by decide) (Or.inr (xI_cat _)) xk_n)) rfl ?_
    refine xe_alr (ins := .aload_n 0) (len := 1) (i := 0) (by decide +kernel) rfl rfl rfl rfl rfl ?_
    refine xe_bipush (n := 58) (by decide +kernel) (by decide) rfl ?_
    obtain ⟨_, e125, h⟩ := xbnd h
    obtain ⟨R126, e124, h⟩ := xbnd h
    refine xs2_cv (kd := 0) (jj := 38) (by decide) (i := 76) (j := 38) (ar := [xI (58)]) (rest := []) (r2 := xr_38) (by decide +kernel) (by decide +kernel) (by decide +kernel) xr_38_e rfl (by decide) (by decide) e125 ?_
    refine xct_v (k38 (d := d + 0) (show xin (58) by decide) e124) rfl (fun e1 g128 => ?_) (fun g128 => ?_)
    · rw [xth_l g128] at h; cases h; exact xK_thr rfl ⟨rfl, rfl⟩
    · rw [xth_r g128] at h
      refine xe_alr (ins := .aload_n 0) (len := 1) (i := 0) (by decide +kernel) rfl rfl rfl rfl rfl ?_
      obtain ⟨v130, e131, h⟩ := xbnd h
      refine xs_gr (i := 43) (c := 4) (k := 0) (by decide +kernel) (by decide) (by decide +kernel) e131 rfl ?_
      obtain ⟨v132, e133, h⟩ := xbnd h
      refine xs_gr (i := 80) (c := 8) (k := 4) (by decide +kernel) (by decide) (by decide +kernel) e133 rfl ?_
      refine xe_alr (ins := .aload_n 0) (len := 1) (i := 0) (by decide +kernel) rfl rfl rfl rfl rfl ?_
      obtain ⟨v134, e135, h⟩ := xbnd h
      refine xs_gi (i := 54) (c := 4) (k := 1) (by decide +kernel) (by decide) (by decide +kernel) e135 rfl ?_
      obtain ⟨v136, e137, h⟩ := xbnd h
      refine xs_iald rfl (by decide +kernel) (xq_gi_in e135) e137 rfl ?_
      refine xe_isr (ins := .istore_n 3) (len := 1) (i := 3) (by decide +kernel) rfl rfl rfl (by decide) (xk_k (show ¬ (2 : Nat) = 3 by decide) (Or.inr (xI_cat _)) (xk_k (show ¬ (0 : Nat) = 3 by decide) (Or.inl (show ¬ (0 + 1 : Nat) = 3 by decide)) (xk_k (show ¬ (1 : Nat) = 3 by decide) (Or.inl (show ¬ (1 + 1 : Nat) = 3 by decide)) xk_n))) rfl ?_
      refine xe_alr (ins := .aload_n 0) (len := 1) (i := 0) (by decide +kernel) rfl rfl rfl rfl rfl ?_
      obtain ⟨_, e139, h⟩ := xbnd h
      obtain ⟨R140, e138, h⟩ := xbnd h
      refine xs2_cv (kd := 0) (jj := 52) (by decide) (i := 121) (j := 52) (ar := []) (rest := []) (r2 := xr_52) (by decide +kernel) (by decide +kernel) (by decide +kernel) xr_52_e rfl (by decide) (by decide) e139 ?_
      refine xct_i (k52 (d := d + 0)  e138) rfl (fun e1 g142 => ?_) (fun v141 g142 hi143 => ?_)
      · rw [xth_l g142] at h; cases h; exact xK_thr rfl ⟨rfl, rfl⟩
      · rw [xth_r g142] at h
        refine xe_isr (ins := .istore 4) (len := 2) (i := 4) (by decide +kernel) rfl rfl rfl (by decide) (xk_k (show ¬ (3 : Nat) = 4 by decide) (Or.inr (xI_cat _)) (xk_k (show ¬ (2 : Nat) = 4 by decide) (Or.inl (show ¬ (2 + 1 : Nat) = 4 by decide)) (xk_k (show ¬ (0 : Nat) = 4 by decide) (Or.inl (show ¬ (0 + 1 : Nat) = 4 by decide)) (xk_k (show ¬ (1 : Nat) = 4 by decide) (Or.inl (show ¬ (1 + 1 : Nat) = 4 by decide)) xk_n)))) rfl ?_
        refine xe_ldn (ins := .iload 4) (len := 2) (by decide +kernel) rfl rfl rfl rfl ?_
        refine xe_bipush (n := 6) (by decide +kernel) (by decide) rfl ?_
        refine xe_irem (by decide +kernel) rfl (show xin (6) by decide) (by decide) ?_
        refine xe_ldn (ins := .iload_n 2) (len := 1) (by decide +kernel) rfl rfl rfl rfl ?_
        refine xe_bipush (n := 6) (by decide +kernel) (by decide) rfl ?_
        refine xe_irem (by decide +kernel) rfl (show xin (6) by decide) (by decide) ?_
        refine xe_icmplt (off := 15) (t := 116) (by decide +kernel) (by decide) rfl (xin_of _) (xin_of _) (fun c146 => ?_) (fun c146 => ?_)
        · rw [if_pos c146] at h
          refine xW_lv rfl (l := [(0, xR_ (x0)), (1, xI (x1)), (2, xI (v121)), (3, xI (v136)), (4, xI (v141))]) (xsb_of ⟨rfl, rfl, rfl, rfl, rfl, trivial⟩ (show [4, 3, 2, 0, 1].Nodup by decide)) ?_
          exact k54_116   hx1 hi123 (xq_ai_in e137) hi143 h
        · rw [if_neg c146] at h
          refine xe_ldn (ins := .iload 4) (len := 2) (by decide +kernel) rfl rfl rfl rfl ?_
          refine xe_bipush (n := 6) (by decide +kernel) (by decide) rfl ?_
          refine xe_idiv (by decide +kernel) rfl (show xin (6) by decide) (by decide) ?_
          refine xe_ldn (ins := .iload_n 2) (len := 1) (by decide +kernel) rfl rfl rfl rfl ?_
          refine xe_bipush (n := 6) (by decide +kernel) (by decide) rfl ?_
          refine xe_idiv (by decide +kernel) rfl (show xin (6) by decide) (by decide) ?_
          refine xe_icmpge (off := 8) (t := 121) (by decide +kernel) (by decide) rfl (xin_of _) (xin_of _) (fun c149 => ?_) (fun c149 => ?_)
          · rw [if_pos c149] at h
            refine xW_lv rfl (l := [(0, xR_ (x0)), (1, xI (x1)), (2, xI (v121)), (4, xI (v141))]) (xsb_of ⟨rfl, rfl, rfl, rfl, trivial⟩ (show [4, 3, 2, 0, 1].Nodup by decide)) ?_
            exact k54_121   hx1 hi123 hi143 h
          · rw [if_neg c149] at h
            refine xW_lv rfl (l := [(0, xR_ (x0)), (1, xI (x1)), (2, xI (v121)), (3, xI (v136)), (4, xI (v141))]) (xsb_of ⟨rfl, rfl, rfl, rfl, rfl, trivial⟩ (show [4, 3, 2, 0, 1].Nodup by decide)) ?_
            exact k54_116   hx1 hi123 (xq_ai_in e137) hi143 h
def f54_174   (f : Nat) (x0 : Nat) (x1 : Int) (x2 : Int) (x4 : Int) (M : xj_M) : Option ((Nat ⊕ Unit) × xj_M) := ((xq_is 4 (x0) M).bind fun _ => ((f56  f (x0) (xor_ (x1) (xshl (x4) (8))) (x2) M).bind fun M152 => f54_186   f (x0) M152))
theorem k54_174 {d f : Nat}     {x0 : Nat} {x1 : Int} {x2 : Int} {x4 : Int} {M : xj_M} {R : (Nat ⊕ Unit) × xj_M} (hx1 : xin x1) (hx2 : xiN x2) (hx4 : xin x4) (h : f54_174   f x0 x1 x2 x4 M = some R) : xW (d + 7) (none, d + 7, none) xr_54 (174, [(0, xR_ x0), (1, xI x1), (2, xZ x2), (4, xI x4)], [], M) (xQtv R) := by
  unfold f54_174 at h
  refine xe_alr (ins := .aload_n 0) (len := 1) (i := 0) (by decide +kernel) rfl rfl rfl rfl rfl ?_
  refine xe_ldn (ins := .iload_n 1) (len := 1) (by decide +kernel) rfl rfl rfl rfl ?_
  refine xe_ldn (ins := .iload 4) (len := 2) (by decide +kernel) rfl rfl rfl rfl ?_
  refine xe_bipush (n := 8) (by decide +kernel) (by decide) rfl ?_
  refine xe_ishl (by decide +kernel) rfl ?_
  refine xe_ior (by decide +kernel) rfl ?_
  refine xe_ldn (ins := .lload_n 2) (len := 1) (by decide +kernel) rfl rfl rfl rfl ?_
  obtain ⟨_, e151, h⟩ := xbnd h
  obtain ⟨M152, e150, h⟩ := xbnd h
  refine xs_cv (i := 286) (j := 56) (ar := [xZ (x2), xI (xor_ (x1) (xshl (x4) (8)))]) (rest := []) (r2 := xr_56) (by decide +kernel) (by decide +kernel) (by decide +kernel) xr_56_e rfl (by decide) (by decide) e151 ?_
  refine xc_v (k56 (d := d + 6)  (xin_of _) hx2 e150) rfl ?_
  refine xW_lv rfl (l := [(0, xR_ (x0))]) (xsb_of ⟨rfl, trivial⟩ (show [0, 1, 2, 4].Nodup by decide)) ?_
  exact k54_186    h
def f54_147   (f : Nat) (x0 : Nat) (x1 : Int) (M : xj_M) : Option ((Nat ⊕ Unit) × xj_M) := ((xq_is 4 (x0) M).bind fun _ => ((f47 f (x0) M).bind fun R156 => xth R156 (fun v157 => (if (x1) = (10) then f54_174   f (x0) (x1) (v157) (0) R156.2 else ((xq_is 4 (x0) R156.2).bind fun _ => ((f38 f (x0) (44) R156.2).bind fun R163 => xth R163 (fun _ => ((xq_is 4 (x0) R163.2).bind fun _ => ((f50 f (x0) (4) R163.2).bind fun R169 => xth R169 (fun v170 => f54_174   f (x0) (x1) (v157) (v170) R169.2))))))))))
theorem k54_147 {d f : Nat}     {x0 : Nat} {x1 : Int} {M : xj_M} {R : (Nat ⊕ Unit) × xj_M} (hx1 : xin x1) (h : f54_147   f x0 x1 M = some R) : xW (d + 7) (none, d + 7, none) xr_54 (147, [(0, xR_ x0), (1, xI x1)], [], M) (xQtv R) := by
  unfold f54_147 at h
  refine xe_alr (ins := .aload_n 0) (len := 1) (i := 0) (by decide +kernel) rfl rfl rfl rfl rfl ?_
  obtain ⟨_, e155, h⟩ := xbnd h
  obtain ⟨R156, e154, h⟩ := xbnd h
  refine xs2_cv (kd := 0) (jj := 47) (by decide) (i := 99) (j := 47) (ar := []) (rest := []) (r2 := xr_47) (by decide +kernel) (by decide +kernel) (by decide +kernel) xr_47_e rfl (by decide) (by decide) e155 ?_
  refine xct_l (k47 (d := d + 0)  e154) rfl (fun e1 g158 => ?_) (fun v157 g158 hi159 => ?_)
  · rw [xth_l g158] at h; cases h; exact xK_thr rfl ⟨rfl, rfl⟩
  · rw [xth_r g158] at h
    refine xe_lsr (ins := .lstore_n 2) (len := 1) (i := 2) (by decide +kernel) rfl rfl rfl (by decide) (xk2_k (show ¬ (0 : Nat) = 2 by decide) (show ¬ (0 : Nat) = 2 + 1 by decide) (Or.inl (show ¬ (0 + 1 : Nat) = 2 by decide)) (xk2_k (show ¬ (1 : Nat) = 2 by decide) (show ¬ (1 : Nat) = 2 + 1 by decide) (Or.inr (xI_cat _)) xk2_n)) rfl ?_
    refine xe_iconst (n := 0) (by decide +kernel) rfl ?_
    refine xe_isr (ins := .istore 4) (len := 2) (i := 4) (by decide +kernel) rfl rfl rfl (by decide) (xk_k (show ¬ (2 : Nat) = 4 by decide) (Or.inl (show ¬ (2 + 1 : Nat) = 4 by decide)) (xk_k (show ¬ (0 : Nat) = 4 by decide) (Or.inl (show ¬ (0 + 1 : Nat) = 4 by decide)) (xk_k (show ¬ (1 : Nat) = 4 by decide) (Or.inl (show ¬ (1 + 1 : Nat) = 4 by decide)) xk_n))) rfl ?_
    refine xe_ldn (ins := .iload_n 1) (len := 1) (by decide +kernel) rfl rfl rfl rfl ?_
    refine xe_bipush (n := 10) (by decide +kernel) (by decide) rfl ?_
    refine xe_icmpeq (off := 16) (t := 174) (by decide +kernel) (by decide) rfl hx1 (show xin (10) by decide) (fun c160 => ?_) (fun c160 => ?_)
    · rw [if_pos c160] at h
      refine xW_lv rfl (l := [(0, xR_ (x0)), (1, xI (x1)), (2, xZ (v157)), (4, xI (0))]) (xsb_of ⟨rfl, rfl, rfl, rfl, trivial⟩ (show [4, 2, 0, 1].Nodup by decide)) ?_
      exact k54_174   hx1 hi159 (show xin (0) by decide) h
    · rw [if_neg c160] at h
      refine xe_alr (ins := .aload_n 0) (len := 1) (i := 0) (by decide +kernel) rfl rfl rfl rfl rfl ?_
      refine xe_bipush (n := 44) (by decide +kernel) (by decide) rfl ?_
      obtain ⟨_, e162, h⟩ := xbnd h
      obtain ⟨R163, e161, h⟩ := xbnd h
      refine xs2_cv (kd := 0) (jj := 38) (by decide) (i := 76) (j := 38) (ar := [xI (44)]) (rest := []) (r2 := xr_38) (by decide +kernel) (by decide +kernel) (by decide +kernel) xr_38_e rfl (by decide) (by decide) e162 ?_
      refine xct_v (k38 (d := d + 0) (show xin (44) by decide) e161) rfl (fun e1 g165 => ?_) (fun g165 => ?_)
      · rw [xth_l g165] at h; cases h; exact xK_thr rfl ⟨rfl, rfl⟩
      · rw [xth_r g165] at h
        refine xe_alr (ins := .aload_n 0) (len := 1) (i := 0) (by decide +kernel) rfl rfl rfl rfl rfl ?_
        refine xe_iconst (n := 4) (by decide +kernel) rfl ?_
        obtain ⟨_, e168, h⟩ := xbnd h
        obtain ⟨R169, e167, h⟩ := xbnd h
        refine xs2_cv (kd := 0) (jj := 50) (by decide) (i := 165) (j := 50) (ar := [xI (4)]) (rest := []) (r2 := xr_50) (by decide +kernel) (by decide +kernel) (by decide +kernel) xr_50_e rfl (by decide) (by decide) e168 ?_
        refine xct_i (k50 (d := d + 0) (show xin (4) by decide) e167) rfl (fun e1 g171 => ?_) (fun v170 g171 hi172 => ?_)
        · rw [xth_l g171] at h; cases h; exact xK_thr rfl ⟨rfl, rfl⟩
        · rw [xth_r g171] at h
          refine xe_isr (ins := .istore 4) (len := 2) (i := 4) (by decide +kernel) rfl rfl rfl (by decide) (xk_d rfl (xk_k (show ¬ (2 : Nat) = 4 by decide) (Or.inl (show ¬ (2 + 1 : Nat) = 4 by decide)) (xk_k (show ¬ (0 : Nat) = 4 by decide) (Or.inl (show ¬ (0 + 1 : Nat) = 4 by decide)) (xk_k (show ¬ (1 : Nat) = 4 by decide) (Or.inl (show ¬ (1 + 1 : Nat) = 4 by decide)) xk_n)))) rfl ?_
          refine xW_lv rfl (l := [(0, xR_ (x0)), (1, xI (x1)), (2, xZ (v157)), (4, xI (v170))]) (xsb_of ⟨rfl, rfl, rfl, rfl, trivial⟩ (show [4, 2, 0, 1].Nodup by decide)) ?_
          exact k54_174   hx1 hi159 hi172 h
def f54_28   (f : Nat) (x0 : Nat) (x1 : Int) (M : xj_M) : Option ((Nat ⊕ Unit) × xj_M) := ((xq_is 4 (x0) M).bind fun _ => ((f38 f (x0) (40) M).bind fun R175 => xth R175 (fun _ => ((xq_gr 4 0 (x0) R175.2).bind fun v179 => ((xq_gr 8 3 (v179) R175.2).bind fun v181 => ((xq_gi 4 1 (x0) R175.2).bind fun v183 => ((xq_ai 3 (v181) (v183) R175.2).bind fun v185 => (if ¬ (v185) = (2) then f54_147   f (x0) (x1) R175.2 else (if (x1) = (11) then f54_62   f (x0) (x1) R175.2 else (if ¬ (x1) = (10) then f54_147   f (x0) (x1) R175.2 else f54_62   f (x0) (x1) R175.2))))))))))
theorem k54_28 {d f : Nat}     {x0 : Nat} {x1 : Int} {M : xj_M} {R : (Nat ⊕ Unit) × xj_M} (hx1 : xin x1) (h : f54_28   f x0 x1 M = some R) : xW (d + 7) (none, d + 7, none) xr_54 (28, [(0, xR_ x0), (1, xI x1)], [], M) (xQtv R) := by
  unfold f54_28 at h
  refine xe_alr (ins := .aload_n 0) (len := 1) (i := 0) (by decide +kernel) rfl rfl rfl rfl rfl ?_
  refine xe_bipush (n := 40) (by decide +kernel) (by decide) rfl ?_
  obtain ⟨_, e174, h⟩ := xbnd h
  obtain ⟨R175, e173, h⟩ := xbnd h
  refine xs2_cv (kd := 0) (jj := 38) (by decide) (i := 76) (j := 38) (ar := [xI (40)]) (rest := []) (r2 := xr_38) (by decide +kernel) (by decide +kernel) (by decide +kernel) xr_38_e rfl (by decide) (by decide) e174 ?_
  refine xct_v (k38 (d := d + 0) (show xin (40) by decide) e173) rfl (fun e1 g177 => ?_) (fun g177 => ?_)
  · rw [xth_l g177] at h; cases h; exact xK_thr rfl ⟨rfl, rfl⟩
  · rw [xth_r g177] at h
    refine xe_alr (ins := .aload_n 0) (len := 1) (i := 0) (by decide +kernel) rfl rfl rfl rfl rfl ?_
    obtain ⟨v179, e180, h⟩ := xbnd h
    refine xs_gr (i := 43) (c := 4) (k := 0) (by decide +kernel) (by decide) (by decide +kernel) e180 rfl ?_
    obtain ⟨v181, e182, h⟩ := xbnd h
    refine xs_gr (i := 51) (c := 8) (k := 3) (by decide +kernel) (by decide) (by decide +kernel) e182 rfl ?_
    refine xe_alr (ins := .aload_n 0) (len := 1) (i := 0) (by decide +kernel) rfl rfl rfl rfl rfl ?_
    obtain ⟨v183, e184, h⟩ := xbnd h
    refine xs_gi (i := 54) (c := 4) (k := 1) (by decide +kernel) (by decide) (by decide +kernel) e184 rfl ?_
    obtain ⟨v185, e186, h⟩ := xbnd h
    refine xs_iald rfl (by decide +kernel) (xq_gi_in e184) e186 rfl ?_
    refine xe_iconst (n := 2) (by decide +kernel) rfl ?_
    refine xe_icmpne (off := 100) (t := 147) (by decide +kernel) (by decide) rfl (xq_ai_in e186) (show xin (2) by decide) (fun c187 => ?_) (fun c187 => ?_)
    · rw [if_pos c187] at h
      refine xW_lv rfl (l := [(0, xR_ (x0)), (1, xI (x1))]) (xsb_of ⟨rfl, rfl, trivial⟩ (show [0, 1].Nodup by decide)) ?_
      exact k54_147   hx1 h
    · rw [if_neg c187] at h
      refine xe_ldn (ins := .iload_n 1) (len := 1) (by decide +kernel) rfl rfl rfl rfl ?_
      refine xe_bipush (n := 11) (by decide +kernel) (by decide) rfl ?_
      refine xe_icmpeq (off := 9) (t := 62) (by decide +kernel) (by decide) rfl hx1 (show xin (11) by decide) (fun c188 => ?_) (fun c188 => ?_)
      · rw [if_pos c188] at h
        refine xW_lv rfl (l := [(0, xR_ (x0)), (1, xI (x1))]) (xsb_of ⟨rfl, rfl, trivial⟩ (show [0, 1].Nodup by decide)) ?_
        exact k54_62   hx1 h
      · rw [if_neg c188] at h
        refine xe_ldn (ins := .iload_n 1) (len := 1) (by decide +kernel) rfl rfl rfl rfl ?_
        refine xe_bipush (n := 10) (by decide +kernel) (by decide) rfl ?_
        refine xe_icmpne (off := 88) (t := 147) (by decide +kernel) (by decide) rfl hx1 (show xin (10) by decide) (fun c189 => ?_) (fun c189 => ?_)
        · rw [if_pos c189] at h
          refine xW_lv rfl (l := [(0, xR_ (x0)), (1, xI (x1))]) (xsb_of ⟨rfl, rfl, trivial⟩ (show [0, 1].Nodup by decide)) ?_
          exact k54_147   hx1 h
        · rw [if_neg c189] at h
          refine xW_lv rfl (l := [(0, xR_ (x0)), (1, xI (x1))]) (xsb_of ⟨rfl, rfl, trivial⟩ (show [0, 1].Nodup by decide)) ?_
          exact k54_62   hx1 h
def f54  (f : Nat) (a0 : Nat) (a1 : Int) (M : xj_M) : Option ((Nat ⊕ Unit) × xj_M) := ((xq_is 4 (a0) M).bind fun _ => ((f37  f (a0) M).bind fun M192 => ((xq_is 4 (a0) M192).bind fun _ => ((f58  f (a0) M192).bind fun R196 => (if ¬ (R196.1) = (4) then f54_28   f (a0) (a1) R196.2 else ((xq_gr 4 0 (a0) R196.2).bind fun v199 => ((xq_gr 8 4 (v199) R196.2).bind fun v201 => ((xq_gi 4 1 (a0) R196.2).bind fun v203 => ((xq_ai 3 (v201) (v203) R196.2).bind fun v205 => ((xq_is 4 (a0) R196.2).bind fun _ => ((f36 f (a0) (v205) R196.2).bind fun R209 => xth R209 (fun _ => f54_28   f (a0) (a1) R209.2))))))))))))
theorem k54 {d f : Nat}   {a0 : Nat} {a1 : Int} {M : xj_M} {R : (Nat ⊕ Unit) × xj_M} (ha1 : xin a1) (h : f54  f a0 a1 M = some R) : xT (d + 8) 54 [xR_ a0, xI a1] M (xQtv R) := by
  refine xT_m xr_54_e (X := (none, d + 7, none)) rfl (xa_1 (xR_cat _) (xa_1 (xI_cat _) xa_n)) (by decide) ?_
  unfold f54 at h
  refine xe_alr (ins := .aload_n 0) (len := 1) (i := 0) (by decide +kernel) rfl rfl rfl rfl rfl ?_
  obtain ⟨_, e191, h⟩ := xbnd h
  obtain ⟨M192, e190, h⟩ := xbnd h
  refine xs_cv (i := 73) (j := 37) (ar := []) (rest := []) (r2 := xr_37) (by decide +kernel) (by decide +kernel) (by decide +kernel) xr_37_e rfl (by decide) (by decide) e191 ?_
  refine xc_v (k37 (d := d + 6)   e190) rfl ?_
  refine xe_alr (ins := .aload_n 0) (len := 1) (i := 0) (by decide +kernel) rfl rfl rfl rfl rfl ?_
  obtain ⟨_, e195, h⟩ := xbnd h
  obtain ⟨R196, e194, h⟩ := xbnd h
  refine xs_cv (i := 302) (j := 58) (ar := []) (rest := []) (r2 := xr_58) (by decide +kernel) (by decide +kernel) (by decide +kernel) xr_58_e rfl (by decide) (by decide) e195 ?_
  refine xc_i (k58 (d := d + 5)   e194) rfl (fun hi197 => ?_)
  refine xe_iconst (n := 4) (by decide +kernel) rfl ?_
  refine xe_icmpne (off := 19) (t := 28) (by decide +kernel) (by decide) rfl hi197 (show xin (4) by decide) (fun c198 => ?_) (fun c198 => ?_)
  · rw [if_pos c198] at h
    refine xW_lv rfl (l := [(0, xR_ (a0)), (1, xI (a1))]) (xsb_of ⟨rfl, rfl, trivial⟩ (show [0, 1].Nodup by decide)) ?_
    exact k54_28   ha1 h
  · rw [if_neg c198] at h
    refine xe_alr (ins := .aload_n 0) (len := 1) (i := 0) (by decide +kernel) rfl rfl rfl rfl rfl ?_
    refine xe_alr (ins := .aload_n 0) (len := 1) (i := 0) (by decide +kernel) rfl rfl rfl rfl rfl ?_
    obtain ⟨v199, e200, h⟩ := xbnd h
    refine xs_gr (i := 43) (c := 4) (k := 0) (by decide +kernel) (by decide) (by decide +kernel) e200 rfl ?_
    obtain ⟨v201, e202, h⟩ := xbnd h
    refine xs_gr (i := 80) (c := 8) (k := 4) (by decide +kernel) (by decide) (by decide +kernel) e202 rfl ?_
    refine xe_alr (ins := .aload_n 0) (len := 1) (i := 0) (by decide +kernel) rfl rfl rfl rfl rfl ?_
    obtain ⟨v203, e204, h⟩ := xbnd h
    refine xs_gi (i := 54) (c := 4) (k := 1) (by decide +kernel) (by decide) (by decide +kernel) e204 rfl ?_
    obtain ⟨v205, e206, h⟩ := xbnd h
    refine xs_iald rfl (by decide +kernel) (xq_gi_in e204) e206 rfl ?_
    obtain ⟨_, e208, h⟩ := xbnd h
    obtain ⟨R209, e207, h⟩ := xbnd h
    refine xs2_cv (kd := 0) (jj := 36) (by decide) (i := 83) (j := 36) (ar := [xI (v205)]) (rest := []) (r2 := xr_36) (by decide +kernel) (by decide +kernel) (by decide +kernel) xr_36_e rfl (by decide) (by decide) e208 ?_
    refine xct_v (k36 (d := d + 1) (xq_ai_in e206) e207) rfl (fun e1 g211 => ?_) (fun g211 => ?_)
    · rw [xth_l g211] at h; cases h; exact xK_thr rfl ⟨rfl, rfl⟩
    · rw [xth_r g211] at h
      refine xW_lv rfl (l := [(0, xR_ (a0)), (1, xI (a1))]) (xsb_of ⟨rfl, rfl, trivial⟩ (show [0, 1].Nodup by decide)) ?_
      exact k54_28   ha1 h
-- ChangeHouse$Reader.queryFault
def xr_63 : xj_mR := (4, yX4_queryFault, cX4_queryFault, 1, (Option.some Jvm.ClassFile.FieldType.int), 0, false, (7, 156), (1, 3))
set_option maxRecDepth 20000 in
theorem xr_63_e : xj_row 63 = some xr_63 := rfl
def f63_60   (f : Nat) (y0 : Int) (M : xj_M) : Option (Int × xj_M) := (some (y0, M))
theorem k63_60 {d f : Nat}     {y0 : Int} {M : xj_M} {R : Int × xj_M} (hy0 : xin y0) (h : f63_60   f y0 M = some R) : xW (d + 4) (none, d + 4, none) xr_63 (60, [], [xI y0], M) (xQi R) := by
  unfold f63_60 at h
  cases h
  exact xe_ret_i (ty := .int) (by decide +kernel) rfl rfl ⟨rfl, rfl, hy0⟩
def f63  (f : Nat) (a0 : Nat) (M : xj_M) : Option (Int × xj_M) := ((xq_is 4 (a0) M).bind fun _ => ((f66  f (a0) M).bind fun R103 => ((xq_pi 4 2 (a0) (R103.1) R103.2).bind fun M105 => ((xq_gi 4 2 (a0) M105).bind fun v107 => (if (v107) = (-1) then ((xq_is 4 (a0) M105).bind fun _ => ((f67  f (a0) M105).bind fun R112 => ((xq_pi 4 2 (a0) (R112.1) R112.2).bind fun M114 => ((xq_gi 4 2 (a0) M114).bind fun v116 => (if (v116) = (-1) then ((xq_gr 4 5 (a0) M114).bind fun v119 => ((xq_is 6 (v119) M114).bind fun _ => ((f95  f (v119) M114).bind fun R123 => ((xq_pi 4 2 (a0) (R123.1) R123.2).bind fun M125 => ((xq_gi 4 2 (a0) M125).bind fun v127 => (if (v127) = (-1) then f63_60   f (0) M125 else f63_60   f (4) M125)))))) else (some (3, M114))))))) else (some (2, M105)))))))
theorem k63 {d f : Nat}   {a0 : Nat} {M : xj_M} {R : Int × xj_M}  (h : f63  f a0 M = some R) : xT (d + 5) 63 [xR_ a0] M (xQi R) := by
  refine xT_m xr_63_e (X := (none, d + 4, none)) rfl (xa_1 (xR_cat _) xa_n) (by decide) ?_
  unfold f63 at h
  refine xe_alr (ins := .aload_n 0) (len := 1) (i := 0) (by decide +kernel) rfl rfl rfl rfl rfl ?_
  refine xe_alr (ins := .aload_n 0) (len := 1) (i := 0) (by decide +kernel) rfl rfl rfl rfl rfl ?_
  obtain ⟨_, e102, h⟩ := xbnd h
  obtain ⟨R103, e101, h⟩ := xbnd h
  refine xs_cv (i := 308) (j := 66) (ar := []) (rest := [xR_ (a0)]) (r2 := xr_66) (by decide +kernel) (by decide +kernel) (by decide +kernel) xr_66_e rfl (by decide) (by simp only [List.map_cons, List.map_nil, List.sum_cons, List.sum_nil, xR_cat, xI_cat, xZ_cat]; decide) e102 ?_
  refine xc_i (k66 (d := d + 3)   e101) rfl (fun hi104 => ?_)
  obtain ⟨M105, e106, h⟩ := xbnd h
  refine xs_p (i := 159) (c := 4) (k := 2) (by decide +kernel) (by decide +kernel) (by decide +kernel) e106 rfl ?_
  refine xe_alr (ins := .aload_n 0) (len := 1) (i := 0) (by decide +kernel) rfl rfl rfl rfl rfl ?_
  obtain ⟨v107, e108, h⟩ := xbnd h
  refine xs_gi (i := 159) (c := 4) (k := 2) (by decide +kernel) (by decide) (by decide +kernel) e108 rfl ?_
  refine xe_iconst (n := -1) (by decide +kernel) rfl ?_
  refine xe_icmpeq (off := 5) (t := 18) (by decide +kernel) (by decide) rfl (xq_gi_in e108) (show xin (-1) by decide) (fun c109 => ?_) (fun c109 => ?_)
  · rw [if_pos c109] at h
    refine xe_alr (ins := .aload_n 0) (len := 1) (i := 0) (by decide +kernel) rfl rfl rfl rfl rfl ?_
    refine xe_alr (ins := .aload_n 0) (len := 1) (i := 0) (by decide +kernel) rfl rfl rfl rfl rfl ?_
    obtain ⟨_, e111, h⟩ := xbnd h
    obtain ⟨R112, e110, h⟩ := xbnd h
    refine xs_cv (i := 311) (j := 67) (ar := []) (rest := [xR_ (a0)]) (r2 := xr_67) (by decide +kernel) (by decide +kernel) (by decide +kernel) xr_67_e rfl (by decide) (by simp only [List.map_cons, List.map_nil, List.sum_cons, List.sum_nil, xR_cat, xI_cat, xZ_cat]; decide) e111 ?_
    refine xc_i (k67 (d := d + 3)   e110) rfl (fun hi113 => ?_)
    obtain ⟨M114, e115, h⟩ := xbnd h
    refine xs_p (i := 159) (c := 4) (k := 2) (by decide +kernel) (by decide +kernel) (by decide +kernel) e115 rfl ?_
    refine xe_alr (ins := .aload_n 0) (len := 1) (i := 0) (by decide +kernel) rfl rfl rfl rfl rfl ?_
    obtain ⟨v116, e117, h⟩ := xbnd h
    refine xs_gi (i := 159) (c := 4) (k := 2) (by decide +kernel) (by decide) (by decide +kernel) e117 rfl ?_
    refine xe_iconst (n := -1) (by decide +kernel) rfl ?_
    refine xe_icmpeq (off := 5) (t := 36) (by decide +kernel) (by decide) rfl (xq_gi_in e117) (show xin (-1) by decide) (fun c118 => ?_) (fun c118 => ?_)
    · rw [if_pos c118] at h
      refine xe_alr (ins := .aload_n 0) (len := 1) (i := 0) (by decide +kernel) rfl rfl rfl rfl rfl ?_
      refine xe_alr (ins := .aload_n 0) (len := 1) (i := 0) (by decide +kernel) rfl rfl rfl rfl rfl ?_
      obtain ⟨v119, e120, h⟩ := xbnd h
      refine xs_gr (i := 86) (c := 4) (k := 5) (by decide +kernel) (by decide) (by decide +kernel) e120 rfl ?_
      obtain ⟨_, e122, h⟩ := xbnd h
      obtain ⟨R123, e121, h⟩ := xbnd h
      refine xs_cv (i := 314) (j := 95) (ar := []) (rest := [xR_ (a0)]) (r2 := xr_95) (by decide +kernel) (by decide +kernel) (by decide +kernel) xr_95_e rfl (by decide) (by simp only [List.map_cons, List.map_nil, List.sum_cons, List.sum_nil, xR_cat, xI_cat, xZ_cat]; decide) e122 ?_
      refine xc_i (k95 (d := d + 0)   e121) rfl (fun hi124 => ?_)
      obtain ⟨M125, e126, h⟩ := xbnd h
      refine xs_p (i := 159) (c := 4) (k := 2) (by decide +kernel) (by decide +kernel) (by decide +kernel) e126 rfl ?_
      refine xe_alr (ins := .aload_n 0) (len := 1) (i := 0) (by decide +kernel) rfl rfl rfl rfl rfl ?_
      obtain ⟨v127, e128, h⟩ := xbnd h
      refine xs_gi (i := 159) (c := 4) (k := 2) (by decide +kernel) (by decide) (by decide +kernel) e128 rfl ?_
      refine xe_iconst (n := -1) (by decide +kernel) rfl ?_
      refine xe_icmpeq (off := 7) (t := 59) (by decide +kernel) (by decide) rfl (xq_gi_in e128) (show xin (-1) by decide) (fun c129 => ?_) (fun c129 => ?_)
      · rw [if_pos c129] at h
        refine xe_iconst (n := 0) (by decide +kernel) rfl ?_
        refine xW_lv rfl (l := []) (xsb_of trivial (show [0].Nodup by decide)) ?_
        exact k63_60   (show xin (0) by decide) h
      · rw [if_neg c129] at h
        refine xe_iconst (n := 4) (by decide +kernel) rfl ?_
        refine xe_goto (off := 4) (nx := 60) (by decide +kernel) (by decide) ?_
        refine xW_lv rfl (l := []) (xsb_of trivial (show [0].Nodup by decide)) ?_
        exact k63_60   (show xin (4) by decide) h
    · rw [if_neg c118] at h
      refine xe_iconst (n := 3) (by decide +kernel) rfl ?_
      cases h
      exact xe_ret_i (ty := .int) (by decide +kernel) rfl rfl ⟨rfl, rfl, (show xin (3) by decide)⟩
  · rw [if_neg c109] at h
    refine xe_iconst (n := 2) (by decide +kernel) rfl ?_
    cases h
    exact xe_ret_i (ty := .int) (by decide +kernel) rfl rfl ⟨rfl, rfl, (show xin (2) by decide)⟩
-- ChangeHouse$Rows.meeting
def xr_85 : xj_mR := (5, yX5_meeting, cX5_meeting, 11, (Option.some Jvm.ClassFile.FieldType.int), 3, false, (7, 209), (1, 6))
set_option maxRecDepth 20000 in
theorem xr_85_e : xj_row 85 = some xr_85 := rfl
def f85_182   (f : Nat) (y0 : Int) (M : xj_M) : Option (Int × xj_M) := (some (y0, M))
theorem k85_182 {d f : Nat}     {y0 : Int} {M : xj_M} {R : Int × xj_M} (hy0 : xin y0) (h : f85_182   f y0 M = some R) : xW (d + 3) (none, d + 3, none) xr_85 (182, [], [xI y0], M) (xQi R) := by
  unfold f85_182 at h
  cases h
  exact xe_ret_i (ty := .int) (by decide +kernel) rfl rfl ⟨rfl, rfl, hy0⟩
def f85_210  (r11 : Nat → Nat → Nat → Int → Nat → Int → Int → xj_M → Option (Int × xj_M)) (f : Nat) (x0 : Nat) (x1 : Nat) (x2 : Nat) (x3 : Int) (x4 : Nat) (x5 : Int) (y0 : Int) (y1 : Int) (M : xj_M) : Option (Int × xj_M) := r11 (x0) (x1) (x2) (x3) (x4) (x5) (xwr ((y1) + (y0))) M
theorem k85_210 {d f : Nat}  {r11 : Nat → Nat → Nat → Int → Nat → Int → Int → xj_M → Option (Int × xj_M)}  (hr11 : ∀ {x0 : Nat} {x1 : Nat} {x2 : Nat} {x3 : Int} {x4 : Nat} {x5 : Int} {x6 : Int} {M : xj_M} {R : Int × xj_M}, xin x3 → xin x5 → xin x6 → r11 x0 x1 x2 x3 x4 x5 x6 M = some R → xW (d + 3) (none, d + 3, none) xr_85 (11, [(0, xR_ x0), (1, xR_ x1), (2, xR_ x2), (3, xI x3), (4, xR_ x4), (5, xI x5), (6, xI x6)], [], M) (xQi R)) {x0 : Nat} {x1 : Nat} {x2 : Nat} {x3 : Int} {x4 : Nat} {x5 : Int} {y0 : Int} {y1 : Int} {M : xj_M} {R : Int × xj_M} (hx3 : xin x3) (hx5 : xin x5) (hy0 : xin y0) (hy1 : xin y1) (h : f85_210  r11 f x0 x1 x2 x3 x4 x5 y0 y1 M = some R) : xW (d + 3) (none, d + 3, none) xr_85 (210, [(0, xR_ x0), (1, xR_ x1), (2, xR_ x2), (3, xI x3), (4, xR_ x4), (5, xI x5)], [xI y0, xI y1], M) (xQi R) := by
  unfold f85_210 at h
  refine xe_iadd (by decide +kernel) rfl ?_
  refine xe_isr (ins := .istore 6) (len := 2) (i := 6) (by decide +kernel) rfl rfl rfl (by decide) (xk_k (show ¬ (0 : Nat) = 6 by decide) (Or.inl (show ¬ (0 + 1 : Nat) = 6 by decide)) (xk_k (show ¬ (1 : Nat) = 6 by decide) (Or.inl (show ¬ (1 + 1 : Nat) = 6 by decide)) (xk_k (show ¬ (2 : Nat) = 6 by decide) (Or.inl (show ¬ (2 + 1 : Nat) = 6 by decide)) (xk_k (show ¬ (3 : Nat) = 6 by decide) (Or.inl (show ¬ (3 + 1 : Nat) = 6 by decide)) (xk_k (show ¬ (4 : Nat) = 6 by decide) (Or.inl (show ¬ (4 + 1 : Nat) = 6 by decide)) (xk_k (show ¬ (5 : Nat) = 6 by decide) (Or.inr (xI_cat _)) xk_n)))))) rfl ?_
  refine xe_goto (off := -202) (nx := 11) (by decide +kernel) (by decide) ?_
  refine xW_lv rfl (l := [(0, xR_ (x0)), (1, xR_ (x1)), (2, xR_ (x2)), (3, xI (x3)), (4, xR_ (x4)), (5, xI (x5)), (6, xI (xwr ((y1) + (y0))))]) (xsb_of ⟨rfl, rfl, rfl, rfl, rfl, rfl, rfl, trivial⟩ (show [6, 0, 1, 2, 3, 4, 5].Nodup by decide)) ?_
  exact hr11 hx3 hx5 (xin_wr _) h
def f85_195  (r11 : Nat → Nat → Nat → Int → Nat → Int → Int → xj_M → Option (Int × xj_M)) (f : Nat) (x0 : Nat) (x1 : Nat) (x2 : Nat) (x3 : Int) (x4 : Nat) (x6 : Int) (x7 : Int) (y0 : Int) (y1 : Int) (M : xj_M) : Option (Int × xj_M) := (if (x7) < 0 then f85_210  r11 f (x0) (x1) (x2) (x3) (x4) (xwr ((y1) + (y0))) (0) (x6) M else f85_210  r11 f (x0) (x1) (x2) (x3) (x4) (xwr ((y1) + (y0))) (1) (x6) M)
theorem k85_195 {d f : Nat}  {r11 : Nat → Nat → Nat → Int → Nat → Int → Int → xj_M → Option (Int × xj_M)}  (hr11 : ∀ {x0 : Nat} {x1 : Nat} {x2 : Nat} {x3 : Int} {x4 : Nat} {x5 : Int} {x6 : Int} {M : xj_M} {R : Int × xj_M}, xin x3 → xin x5 → xin x6 → r11 x0 x1 x2 x3 x4 x5 x6 M = some R → xW (d + 3) (none, d + 3, none) xr_85 (11, [(0, xR_ x0), (1, xR_ x1), (2, xR_ x2), (3, xI x3), (4, xR_ x4), (5, xI x5), (6, xI x6)], [], M) (xQi R)) {x0 : Nat} {x1 : Nat} {x2 : Nat} {x3 : Int} {x4 : Nat} {x6 : Int} {x7 : Int} {y0 : Int} {y1 : Int} {M : xj_M} {R : Int × xj_M} (hx3 : xin x3) (hx6 : xin x6) (hx7 : xin x7) (hy0 : xin y0) (hy1 : xin y1) (h : f85_195  r11 f x0 x1 x2 x3 x4 x6 x7 y0 y1 M = some R) : xW (d + 3) (none, d + 3, none) xr_85 (195, [(0, xR_ x0), (1, xR_ x1), (2, xR_ x2), (3, xI x3), (4, xR_ x4), (6, xI x6), (7, xI x7)], [xI y0, xI y1], M) (xQi R) := by
  unfold f85_195 at h
  refine xe_iadd (by decide +kernel) rfl ?_
  refine xe_isr (ins := .istore 5) (len := 2) (i := 5) (by decide +kernel) rfl rfl rfl (by decide) (xk_k (show ¬ (0 : Nat) = 5 by decide) (Or.inl (show ¬ (0 + 1 : Nat) = 5 by decide)) (xk_k (show ¬ (1 : Nat) = 5 by decide) (Or.inl (show ¬ (1 + 1 : Nat) = 5 by decide)) (xk_k (show ¬ (2 : Nat) = 5 by decide) (Or.inl (show ¬ (2 + 1 : Nat) = 5 by decide)) (xk_k (show ¬ (3 : Nat) = 5 by decide) (Or.inl (show ¬ (3 + 1 : Nat) = 5 by decide)) (xk_k (show ¬ (4 : Nat) = 5 by decide) (Or.inr (xR_cat _)) (xk_k (show ¬ (6 : Nat) = 5 by decide) (Or.inl (show ¬ (6 + 1 : Nat) = 5 by decide)) (xk_k (show ¬ (7 : Nat) = 5 by decide) (Or.inl (show ¬ (7 + 1 : Nat) = 5 by decide)) xk_n))))))) rfl ?_
  refine xe_ldn (ins := .iload 6) (len := 2) (by decide +kernel) rfl rfl rfl rfl ?_
  refine xe_ldn (ins := .iload 7) (len := 2) (by decide +kernel) rfl rfl rfl rfl ?_
  refine xe_iflt (off := 7) (t := 209) (by decide +kernel) (by decide) rfl hx7 (fun c101 => ?_) (fun c101 => ?_)
  · rw [if_pos c101] at h
    refine xe_iconst (n := 0) (by decide +kernel) rfl ?_
    refine xW_lv rfl (l := [(0, xR_ (x0)), (1, xR_ (x1)), (2, xR_ (x2)), (3, xI (x3)), (4, xR_ (x4)), (5, xI (xwr ((y1) + (y0))))]) (xsb_of ⟨rfl, rfl, rfl, rfl, rfl, rfl, trivial⟩ (show [5, 0, 1, 2, 3, 4, 6, 7].Nodup by decide)) ?_
    exact k85_210  hr11 hx3 (xin_wr _) (show xin (0) by decide) hx6 h
  · rw [if_neg c101] at h
    refine xe_iconst (n := 1) (by decide +kernel) rfl ?_
    refine xe_goto (off := 4) (nx := 210) (by decide +kernel) (by decide) ?_
    refine xW_lv rfl (l := [(0, xR_ (x0)), (1, xR_ (x1)), (2, xR_ (x2)), (3, xI (x3)), (4, xR_ (x4)), (5, xI (xwr ((y1) + (y0))))]) (xsb_of ⟨rfl, rfl, rfl, rfl, rfl, rfl, trivial⟩ (show [5, 0, 1, 2, 3, 4, 6, 7].Nodup by decide)) ?_
    exact k85_210  hr11 hx3 (xin_wr _) (show xin (1) by decide) hx6 h
def f85_183  (r11 : Nat → Nat → Nat → Int → Nat → Int → Int → xj_M → Option (Int × xj_M)) (f : Nat) (x0 : Nat) (x1 : Nat) (x2 : Nat) (x3 : Int) (x4 : Nat) (x5 : Int) (x6 : Int) (x7 : Int) (M : xj_M) : Option (Int × xj_M) := (if 0 < (x7) then f85_195  r11 f (x0) (x1) (x2) (x3) (x4) (x6) (x7) (0) (x5) M else f85_195  r11 f (x0) (x1) (x2) (x3) (x4) (x6) (x7) (1) (x5) M)
theorem k85_183 {d f : Nat}  {r11 : Nat → Nat → Nat → Int → Nat → Int → Int → xj_M → Option (Int × xj_M)}  (hr11 : ∀ {x0 : Nat} {x1 : Nat} {x2 : Nat} {x3 : Int} {x4 : Nat} {x5 : Int} {x6 : Int} {M : xj_M} {R : Int × xj_M}, xin x3 → xin x5 → xin x6 → r11 x0 x1 x2 x3 x4 x5 x6 M = some R → xW (d + 3) (none, d + 3, none) xr_85 (11, [(0, xR_ x0), (1, xR_ x1), (2, xR_ x2), (3, xI x3), (4, xR_ x4), (5, xI x5), (6, xI x6)], [], M) (xQi R)) {x0 : Nat} {x1 : Nat} {x2 : Nat} {x3 : Int} {x4 : Nat} {x5 : Int} {x6 : Int} {x7 : Int} {M : xj_M} {R : Int × xj_M} (hx3 : xin x3) (hx5 : xin x5) (hx6 : xin x6) (hx7 : xin x7) (h : f85_183  r11 f x0 x1 x2 x3 x4 x5 x6 x7 M = some R) : xW (d + 3) (none, d + 3, none) xr_85 (183, [(0, xR_ x0), (1, xR_ x1), (2, xR_ x2), (3, xI x3), (4, xR_ x4), (5, xI x5), (6, xI x6), (7, xI x7)], [], M) (xQi R) := by
  unfold f85_183 at h
  refine xe_ldn (ins := .iload 5) (len := 2) (by decide +kernel) rfl rfl rfl rfl ?_
  refine xe_ldn (ins := .iload 7) (len := 2) (by decide +kernel) rfl rfl rfl rfl ?_
  refine xe_ifgt (off := 7) (t := 194) (by decide +kernel) (by decide) rfl hx7 (fun c102 => ?_) (fun c102 => ?_)
  · rw [if_pos c102] at h
    refine xe_iconst (n := 0) (by decide +kernel) rfl ?_
    refine xW_lv rfl (l := [(0, xR_ (x0)), (1, xR_ (x1)), (2, xR_ (x2)), (3, xI (x3)), (4, xR_ (x4)), (6, xI (x6)), (7, xI (x7))]) (xsb_of ⟨rfl, rfl, rfl, rfl, rfl, rfl, rfl, trivial⟩ (show [0, 1, 2, 3, 4, 5, 6, 7].Nodup by decide)) ?_
    exact k85_195  hr11 hx3 hx6 hx7 (show xin (0) by decide) hx5 h
  · rw [if_neg c102] at h
    refine xe_iconst (n := 1) (by decide +kernel) rfl ?_
    refine xe_goto (off := 4) (nx := 195) (by decide +kernel) (by decide) ?_
    refine xW_lv rfl (l := [(0, xR_ (x0)), (1, xR_ (x1)), (2, xR_ (x2)), (3, xI (x3)), (4, xR_ (x4)), (6, xI (x6)), (7, xI (x7))]) (xsb_of ⟨rfl, rfl, rfl, rfl, rfl, rfl, rfl, trivial⟩ (show [0, 1, 2, 3, 4, 5, 6, 7].Nodup by decide)) ?_
    exact k85_195  hr11 hx3 hx6 hx7 (show xin (1) by decide) hx5 h
def f85_118  (r11 : Nat → Nat → Nat → Int → Nat → Int → Int → xj_M → Option (Int × xj_M)) (f : Nat) (x0 : Nat) (x1 : Nat) (x2 : Nat) (x3 : Int) (x4 : Nat) (x5 : Int) (x6 : Int) (x7 : Int) (x8 : Int) (x9 : Int) (M : xj_M) : Option (Int × xj_M) := ((xq_is 5 (x1) M).bind fun _ => ((f75  f (x1) (x4) (x3) M).bind fun R105 => ((xq_is 5 (x0) R105.2).bind fun _ => ((f86  f (x0) (x8) (x2) (x9) R105.2).bind fun R109 => (if ¬ (R109.1) = 0 then f85_183  r11 f (x0) (x1) (x2) (x3) (x4) (x5) (x6) (x7) R109.2 else ((xq_is 5 (x1) R109.2).bind fun _ => ((f86  f (x1) (R105.1) (x2) (x9) R109.2).bind fun R114 => (if ¬ (R114.1) = 0 then f85_183  r11 f (x0) (x1) (x2) (x3) (x4) (x5) (x6) (x7) R114.2 else ((xq_is 5 (x0) R114.2).bind fun _ => ((f86  f (x0) (x8) (x1) (R105.1) R114.2).bind fun R119 => (if ¬ (R119.1) = 0 then f85_183  r11 f (x0) (x1) (x2) (x3) (x4) (x5) (x6) (x7) R119.2 else (if (x8) = (-1) then f85_182   f (xwr ((2) * (x9))) R119.2 else f85_182   f (xwr ((xwr ((2) * (x8))) + (1))) R119.2))))))))))))
theorem k85_118 {d f : Nat}  {r11 : Nat → Nat → Nat → Int → Nat → Int → Int → xj_M → Option (Int × xj_M)}  (hr11 : ∀ {x0 : Nat} {x1 : Nat} {x2 : Nat} {x3 : Int} {x4 : Nat} {x5 : Int} {x6 : Int} {M : xj_M} {R : Int × xj_M}, xin x3 → xin x5 → xin x6 → r11 x0 x1 x2 x3 x4 x5 x6 M = some R → xW (d + 3) (none, d + 3, none) xr_85 (11, [(0, xR_ x0), (1, xR_ x1), (2, xR_ x2), (3, xI x3), (4, xR_ x4), (5, xI x5), (6, xI x6)], [], M) (xQi R)) {x0 : Nat} {x1 : Nat} {x2 : Nat} {x3 : Int} {x4 : Nat} {x5 : Int} {x6 : Int} {x7 : Int} {x8 : Int} {x9 : Int} {M : xj_M} {R : Int × xj_M} (hx3 : xin x3) (hx5 : xin x5) (hx6 : xin x6) (hx7 : xin x7) (hx8 : xin x8) (hx9 : xin x9) (h : f85_118  r11 f x0 x1 x2 x3 x4 x5 x6 x7 x8 x9 M = some R) : xW (d + 3) (none, d + 3, none) xr_85 (118, [(0, xR_ x0), (1, xR_ x1), (2, xR_ x2), (3, xI x3), (4, xR_ x4), (5, xI x5), (6, xI x6), (7, xI x7), (8, xI x8), (9, xI x9)], [], M) (xQi R) := by
  unfold f85_118 at h
  refine xe_alr (ins := .aload_n 1) (len := 1) (i := 1) (by decide +kernel) rfl rfl rfl rfl rfl ?_
  refine xe_alr (ins := .aload 4) (len := 2) (i := 4) (by decide +kernel) rfl rfl rfl rfl rfl ?_
  refine xe_ldn (ins := .iload_n 3) (len := 1) (by decide +kernel) rfl rfl rfl rfl ?_
  obtain ⟨_, e104, h⟩ := xbnd h
  obtain ⟨R105, e103, h⟩ := xbnd h
  refine xs_cv (i := 65) (j := 75) (ar := [xI (x3), xR_ (x4)]) (rest := []) (r2 := xr_75) (by decide +kernel) (by decide +kernel) (by decide +kernel) xr_75_e rfl (by decide) (by decide) e104 ?_
  refine xc_i (k75 (d := d + 0)  hx3 e103) rfl (fun hi106 => ?_)
  refine xe_isr (ins := .istore 10) (len := 2) (i := 10) (by decide +kernel) rfl rfl rfl (by decide) (xk_k (show ¬ (0 : Nat) = 10 by decide) (Or.inl (show ¬ (0 + 1 : Nat) = 10 by decide)) (xk_k (show ¬ (1 : Nat) = 10 by decide) (Or.inl (show ¬ (1 + 1 : Nat) = 10 by decide)) (xk_k (show ¬ (2 : Nat) = 10 by decide) (Or.inl (show ¬ (2 + 1 : Nat) = 10 by decide)) (xk_k (show ¬ (3 : Nat) = 10 by decide) (Or.inl (show ¬ (3 + 1 : Nat) = 10 by decide)) (xk_k (show ¬ (4 : Nat) = 10 by decide) (Or.inl (show ¬ (4 + 1 : Nat) = 10 by decide)) (xk_k (show ¬ (5 : Nat) = 10 by decide) (Or.inl (show ¬ (5 + 1 : Nat) = 10 by decide)) (xk_k (show ¬ (6 : Nat) = 10 by decide) (Or.inl (show ¬ (6 + 1 : Nat) = 10 by decide)) (xk_k (show ¬ (7 : Nat) = 10 by decide) (Or.inl (show ¬ (7 + 1 : Nat) = 10 by decide)) (xk_k (show ¬ (8 : Nat) = 10 by decide) (Or.inl (show ¬ (8 + 1 : Nat) = 10 by decide)) (xk_k (show ¬ (9 : Nat) = 10 by decide) (Or.inr (xI_cat _)) xk_n)))))))))) rfl ?_
  refine xe_alr (ins := .aload_n 0) (len := 1) (i := 0) (by decide +kernel) rfl rfl rfl rfl rfl ?_
  refine xe_ldn (ins := .iload 8) (len := 2) (by decide +kernel) rfl rfl rfl rfl ?_
  refine xe_alr (ins := .aload_n 2) (len := 1) (i := 2) (by decide +kernel) rfl rfl rfl rfl rfl ?_
  refine xe_ldn (ins := .iload 9) (len := 2) (by decide +kernel) rfl rfl rfl rfl ?_
  obtain ⟨_, e108, h⟩ := xbnd h
  obtain ⟨R109, e107, h⟩ := xbnd h
  refine xs_cv (i := 69) (j := 86) (ar := [xI (x9), xR_ (x2), xI (x8)]) (rest := []) (r2 := xr_86) (by decide +kernel) (by decide +kernel) (by decide +kernel) xr_86_e rfl (by decide) (by decide) e108 ?_
  refine xc_i (k86 (d := d + 1)  hx8 hx9 e107) rfl (fun hi110 => ?_)
  refine xe_ifne (off := 47) (t := 183) (by decide +kernel) (by decide) rfl hi110 (fun c111 => ?_) (fun c111 => ?_)
  · rw [if_pos c111] at h
    refine xW_lv rfl (l := [(0, xR_ (x0)), (1, xR_ (x1)), (2, xR_ (x2)), (3, xI (x3)), (4, xR_ (x4)), (5, xI (x5)), (6, xI (x6)), (7, xI (x7))]) (xsb_of ⟨rfl, rfl, rfl, rfl, rfl, rfl, rfl, rfl, trivial⟩ (show [10, 0, 1, 2, 3, 4, 5, 6, 7, 8, 9].Nodup by decide)) ?_
    exact k85_183  hr11 hx3 hx5 hx6 hx7 h
  · rw [if_neg c111] at h
    refine xe_alr (ins := .aload_n 1) (len := 1) (i := 1) (by decide +kernel) rfl rfl rfl rfl rfl ?_
    refine xe_ldn (ins := .iload 10) (len := 2) (by decide +kernel) rfl rfl rfl rfl ?_
    refine xe_alr (ins := .aload_n 2) (len := 1) (i := 2) (by decide +kernel) rfl rfl rfl rfl rfl ?_
    refine xe_ldn (ins := .iload 9) (len := 2) (by decide +kernel) rfl rfl rfl rfl ?_
    obtain ⟨_, e113, h⟩ := xbnd h
    obtain ⟨R114, e112, h⟩ := xbnd h
    refine xs_cv (i := 69) (j := 86) (ar := [xI (x9), xR_ (x2), xI (R105.1)]) (rest := []) (r2 := xr_86) (by decide +kernel) (by decide +kernel) (by decide +kernel) xr_86_e rfl (by decide) (by decide) e113 ?_
    refine xc_i (k86 (d := d + 1)  hi106 hx9 e112) rfl (fun hi115 => ?_)
    refine xe_ifne (off := 35) (t := 183) (by decide +kernel) (by decide) rfl hi115 (fun c116 => ?_) (fun c116 => ?_)
    · rw [if_pos c116] at h
      refine xW_lv rfl (l := [(0, xR_ (x0)), (1, xR_ (x1)), (2, xR_ (x2)), (3, xI (x3)), (4, xR_ (x4)), (5, xI (x5)), (6, xI (x6)), (7, xI (x7))]) (xsb_of ⟨rfl, rfl, rfl, rfl, rfl, rfl, rfl, rfl, trivial⟩ (show [10, 0, 1, 2, 3, 4, 5, 6, 7, 8, 9].Nodup by decide)) ?_
      exact k85_183  hr11 hx3 hx5 hx6 hx7 h
    · rw [if_neg c116] at h
      refine xe_alr (ins := .aload_n 0) (len := 1) (i := 0) (by decide +kernel) rfl rfl rfl rfl rfl ?_
      refine xe_ldn (ins := .iload 8) (len := 2) (by decide +kernel) rfl rfl rfl rfl ?_
      refine xe_alr (ins := .aload_n 1) (len := 1) (i := 1) (by decide +kernel) rfl rfl rfl rfl rfl ?_
      refine xe_ldn (ins := .iload 10) (len := 2) (by decide +kernel) rfl rfl rfl rfl ?_
      obtain ⟨_, e118, h⟩ := xbnd h
      obtain ⟨R119, e117, h⟩ := xbnd h
      refine xs_cv (i := 69) (j := 86) (ar := [xI (R105.1), xR_ (x1), xI (x8)]) (rest := []) (r2 := xr_86) (by decide +kernel) (by decide +kernel) (by decide +kernel) xr_86_e rfl (by decide) (by decide) e118 ?_
      refine xc_i (k86 (d := d + 1)  hx8 hi106 e117) rfl (fun hi120 => ?_)
      refine xe_ifne (off := 23) (t := 183) (by decide +kernel) (by decide) rfl hi120 (fun c121 => ?_) (fun c121 => ?_)
      · rw [if_pos c121] at h
        refine xW_lv rfl (l := [(0, xR_ (x0)), (1, xR_ (x1)), (2, xR_ (x2)), (3, xI (x3)), (4, xR_ (x4)), (5, xI (x5)), (6, xI (x6)), (7, xI (x7))]) (xsb_of ⟨rfl, rfl, rfl, rfl, rfl, rfl, rfl, rfl, trivial⟩ (show [10, 0, 1, 2, 3, 4, 5, 6, 7, 8, 9].Nodup by decide)) ?_
        exact k85_183  hr11 hx3 hx5 hx6 hx7 h
      · rw [if_neg c121] at h
        refine xe_ldn (ins := .iload 8) (len := 2) (by decide +kernel) rfl rfl rfl rfl ?_
        refine xe_iconst (n := -1) (by decide +kernel) rfl ?_
        refine xe_icmpeq (off := 12) (t := 178) (by decide +kernel) (by decide) rfl hx8 (show xin (-1) by decide) (fun c122 => ?_) (fun c122 => ?_)
        · rw [if_pos c122] at h
          refine xe_iconst (n := 2) (by decide +kernel) rfl ?_
          refine xe_ldn (ins := .iload 9) (len := 2) (by decide +kernel) rfl rfl rfl rfl ?_
          refine xe_imul (by decide +kernel) rfl ?_
          refine xW_lv rfl (l := []) (xsb_of trivial (show [10, 0, 1, 2, 3, 4, 5, 6, 7, 8, 9].Nodup by decide)) ?_
          exact k85_182   (xin_wr _) h
        · rw [if_neg c122] at h
          refine xe_iconst (n := 2) (by decide +kernel) rfl ?_
          refine xe_ldn (ins := .iload 8) (len := 2) (by decide +kernel) rfl rfl rfl rfl ?_
          refine xe_imul (by decide +kernel) rfl ?_
          refine xe_iconst (n := 1) (by decide +kernel) rfl ?_
          refine xe_iadd (by decide +kernel) rfl ?_
          refine xe_goto (off := 7) (nx := 182) (by decide +kernel) (by decide) ?_
          refine xW_lv rfl (l := []) (xsb_of trivial (show [10, 0, 1, 2, 3, 4, 5, 6, 7, 8, 9].Nodup by decide)) ?_
          exact k85_182   (xin_wr _) h
def f85_91  (r11 : Nat → Nat → Nat → Int → Nat → Int → Int → xj_M → Option (Int × xj_M)) (f : Nat) (x0 : Nat) (x1 : Nat) (x2 : Nat) (x3 : Int) (x4 : Nat) (x5 : Int) (x6 : Int) (x7 : Int) (x8 : Int) (y0 : Int) (M : xj_M) : Option (Int × xj_M) := (if (x8) = (-1) then ((xq_is 5 (x2) M).bind fun _ => ((f78  f (x2) (y0) (x4) M).bind fun M126 => f85_118  r11 f (x0) (x1) (x2) (x3) (x4) (x5) (x6) (x7) (x8) (y0) M126)) else ((xq_is 5 (x0) M).bind fun _ => ((f78  f (x0) (x8) (x4) M).bind fun M130 => f85_118  r11 f (x0) (x1) (x2) (x3) (x4) (x5) (x6) (x7) (x8) (y0) M130)))
theorem k85_91 {d f : Nat}  {r11 : Nat → Nat → Nat → Int → Nat → Int → Int → xj_M → Option (Int × xj_M)}  (hr11 : ∀ {x0 : Nat} {x1 : Nat} {x2 : Nat} {x3 : Int} {x4 : Nat} {x5 : Int} {x6 : Int} {M : xj_M} {R : Int × xj_M}, xin x3 → xin x5 → xin x6 → r11 x0 x1 x2 x3 x4 x5 x6 M = some R → xW (d + 3) (none, d + 3, none) xr_85 (11, [(0, xR_ x0), (1, xR_ x1), (2, xR_ x2), (3, xI x3), (4, xR_ x4), (5, xI x5), (6, xI x6)], [], M) (xQi R)) {x0 : Nat} {x1 : Nat} {x2 : Nat} {x3 : Int} {x4 : Nat} {x5 : Int} {x6 : Int} {x7 : Int} {x8 : Int} {y0 : Int} {M : xj_M} {R : Int × xj_M} (hx3 : xin x3) (hx5 : xin x5) (hx6 : xin x6) (hx7 : xin x7) (hx8 : xin x8) (hy0 : xin y0) (h : f85_91  r11 f x0 x1 x2 x3 x4 x5 x6 x7 x8 y0 M = some R) : xW (d + 3) (none, d + 3, none) xr_85 (91, [(0, xR_ x0), (1, xR_ x1), (2, xR_ x2), (3, xI x3), (4, xR_ x4), (5, xI x5), (6, xI x6), (7, xI x7), (8, xI x8)], [xI y0], M) (xQi R) := by
  unfold f85_91 at h
  refine xe_isr (ins := .istore 9) (len := 2) (i := 9) (by decide +kernel) rfl rfl rfl (by decide) (xk_k (show ¬ (0 : Nat) = 9 by decide) (Or.inl (show ¬ (0 + 1 : Nat) = 9 by decide)) (xk_k (show ¬ (1 : Nat) = 9 by decide) (Or.inl (show ¬ (1 + 1 : Nat) = 9 by decide)) (xk_k (show ¬ (2 : Nat) = 9 by decide) (Or.inl (show ¬ (2 + 1 : Nat) = 9 by decide)) (xk_k (show ¬ (3 : Nat) = 9 by decide) (Or.inl (show ¬ (3 + 1 : Nat) = 9 by decide)) (xk_k (show ¬ (4 : Nat) = 9 by decide) (Or.inl (show ¬ (4 + 1 : Nat) = 9 by decide)) (xk_k (show ¬ (5 : Nat) = 9 by decide) (Or.inl (show ¬ (5 + 1 : Nat) = 9 by decide)) (xk_k (show ¬ (6 : Nat) = 9 by decide) (Or.inl (show ¬ (6 + 1 : Nat) = 9 by decide)) (xk_k (show ¬ (7 : Nat) = 9 by decide) (Or.inl (show ¬ (7 + 1 : Nat) = 9 by decide)) (xk_k (show ¬ (8 : Nat) = 9 by decide) (Or.inr (xI_cat _)) xk_n))))))))) rfl ?_
  refine xe_ldn (ins := .iload 8) (len := 2) (by decide +kernel) rfl rfl rfl rfl ?_
  refine xe_iconst (n := -1) (by decide +kernel) rfl ?_
  refine xe_icmpeq (off := 14) (t := 110) (by decide +kernel) (by decide) rfl hx8 (show xin (-1) by decide) (fun c123 => ?_) (fun c123 => ?_)
  · rw [if_pos c123] at h
    refine xe_alr (ins := .aload_n 2) (len := 1) (i := 2) (by decide +kernel) rfl rfl rfl rfl rfl ?_
    refine xe_ldn (ins := .iload 9) (len := 2) (by decide +kernel) rfl rfl rfl rfl ?_
    refine xe_alr (ins := .aload 4) (len := 2) (i := 4) (by decide +kernel) rfl rfl rfl rfl rfl ?_
    obtain ⟨_, e125, h⟩ := xbnd h
    obtain ⟨M126, e124, h⟩ := xbnd h
    refine xs_cv (i := 61) (j := 78) (ar := [xR_ (x4), xI (y0)]) (rest := []) (r2 := xr_78) (by decide +kernel) (by decide +kernel) (by decide +kernel) xr_78_e rfl (by decide) (by decide) e125 ?_
    refine xc_v (k78 (d := d + 2)  hy0 e124) rfl ?_
    refine xW_lv rfl (l := [(0, xR_ (x0)), (1, xR_ (x1)), (2, xR_ (x2)), (3, xI (x3)), (4, xR_ (x4)), (5, xI (x5)), (6, xI (x6)), (7, xI (x7)), (8, xI (x8)), (9, xI (y0))]) (xsb_of ⟨rfl, rfl, rfl, rfl, rfl, rfl, rfl, rfl, rfl, rfl, trivial⟩ (show [9, 0, 1, 2, 3, 4, 5, 6, 7, 8].Nodup by decide)) ?_
    exact k85_118  hr11 hx3 hx5 hx6 hx7 hx8 hy0 h
  · rw [if_neg c123] at h
    refine xe_alr (ins := .aload_n 0) (len := 1) (i := 0) (by decide +kernel) rfl rfl rfl rfl rfl ?_
    refine xe_ldn (ins := .iload 8) (len := 2) (by decide +kernel) rfl rfl rfl rfl ?_
    refine xe_alr (ins := .aload 4) (len := 2) (i := 4) (by decide +kernel) rfl rfl rfl rfl rfl ?_
    obtain ⟨_, e129, h⟩ := xbnd h
    obtain ⟨M130, e128, h⟩ := xbnd h
    refine xs_cv (i := 61) (j := 78) (ar := [xR_ (x4), xI (x8)]) (rest := []) (r2 := xr_78) (by decide +kernel) (by decide +kernel) (by decide +kernel) xr_78_e rfl (by decide) (by decide) e129 ?_
    refine xc_v (k78 (d := d + 2)  hx8 e128) rfl ?_
    refine xe_goto (off := 11) (nx := 118) (by decide +kernel) (by decide) ?_
    refine xW_lv rfl (l := [(0, xR_ (x0)), (1, xR_ (x1)), (2, xR_ (x2)), (3, xI (x3)), (4, xR_ (x4)), (5, xI (x5)), (6, xI (x6)), (7, xI (x7)), (8, xI (x8)), (9, xI (y0))]) (xsb_of ⟨rfl, rfl, rfl, rfl, rfl, rfl, rfl, rfl, rfl, rfl, trivial⟩ (show [9, 0, 1, 2, 3, 4, 5, 6, 7, 8].Nodup by decide)) ?_
    exact k85_118  hr11 hx3 hx5 hx6 hx7 hx8 hy0 h
def f85_78  (r11 : Nat → Nat → Nat → Int → Nat → Int → Int → xj_M → Option (Int × xj_M)) (f : Nat) (x0 : Nat) (x1 : Nat) (x2 : Nat) (x3 : Int) (x4 : Nat) (x5 : Int) (x6 : Int) (x7 : Int) (y0 : Int) (M : xj_M) : Option (Int × xj_M) := (if (x7) < 0 then f85_91  r11 f (x0) (x1) (x2) (x3) (x4) (x5) (x6) (x7) (y0) (-1) M else f85_91  r11 f (x0) (x1) (x2) (x3) (x4) (x5) (x6) (x7) (y0) (x6) M)
theorem k85_78 {d f : Nat}  {r11 : Nat → Nat → Nat → Int → Nat → Int → Int → xj_M → Option (Int × xj_M)}  (hr11 : ∀ {x0 : Nat} {x1 : Nat} {x2 : Nat} {x3 : Int} {x4 : Nat} {x5 : Int} {x6 : Int} {M : xj_M} {R : Int × xj_M}, xin x3 → xin x5 → xin x6 → r11 x0 x1 x2 x3 x4 x5 x6 M = some R → xW (d + 3) (none, d + 3, none) xr_85 (11, [(0, xR_ x0), (1, xR_ x1), (2, xR_ x2), (3, xI x3), (4, xR_ x4), (5, xI x5), (6, xI x6)], [], M) (xQi R)) {x0 : Nat} {x1 : Nat} {x2 : Nat} {x3 : Int} {x4 : Nat} {x5 : Int} {x6 : Int} {x7 : Int} {y0 : Int} {M : xj_M} {R : Int × xj_M} (hx3 : xin x3) (hx5 : xin x5) (hx6 : xin x6) (hx7 : xin x7) (hy0 : xin y0) (h : f85_78  r11 f x0 x1 x2 x3 x4 x5 x6 x7 y0 M = some R) : xW (d + 3) (none, d + 3, none) xr_85 (78, [(0, xR_ x0), (1, xR_ x1), (2, xR_ x2), (3, xI x3), (4, xR_ x4), (5, xI x5), (6, xI x6), (7, xI x7)], [xI y0], M) (xQi R) := by
  unfold f85_78 at h
  refine xe_isr (ins := .istore 8) (len := 2) (i := 8) (by decide +kernel) rfl rfl rfl (by decide) (xk_k (show ¬ (0 : Nat) = 8 by decide) (Or.inl (show ¬ (0 + 1 : Nat) = 8 by decide)) (xk_k (show ¬ (1 : Nat) = 8 by decide) (Or.inl (show ¬ (1 + 1 : Nat) = 8 by decide)) (xk_k (show ¬ (2 : Nat) = 8 by decide) (Or.inl (show ¬ (2 + 1 : Nat) = 8 by decide)) (xk_k (show ¬ (3 : Nat) = 8 by decide) (Or.inl (show ¬ (3 + 1 : Nat) = 8 by decide)) (xk_k (show ¬ (4 : Nat) = 8 by decide) (Or.inl (show ¬ (4 + 1 : Nat) = 8 by decide)) (xk_k (show ¬ (5 : Nat) = 8 by decide) (Or.inl (show ¬ (5 + 1 : Nat) = 8 by decide)) (xk_k (show ¬ (6 : Nat) = 8 by decide) (Or.inl (show ¬ (6 + 1 : Nat) = 8 by decide)) (xk_k (show ¬ (7 : Nat) = 8 by decide) (Or.inr (xI_cat _)) xk_n)))))))) rfl ?_
  refine xe_ldn (ins := .iload 7) (len := 2) (by decide +kernel) rfl rfl rfl rfl ?_
  refine xe_iflt (off := 8) (t := 90) (by decide +kernel) (by decide) rfl hx7 (fun c132 => ?_) (fun c132 => ?_)
  · rw [if_pos c132] at h
    refine xe_iconst (n := -1) (by decide +kernel) rfl ?_
    refine xW_lv rfl (l := [(0, xR_ (x0)), (1, xR_ (x1)), (2, xR_ (x2)), (3, xI (x3)), (4, xR_ (x4)), (5, xI (x5)), (6, xI (x6)), (7, xI (x7)), (8, xI (y0))]) (xsb_of ⟨rfl, rfl, rfl, rfl, rfl, rfl, rfl, rfl, rfl, trivial⟩ (show [8, 0, 1, 2, 3, 4, 5, 6, 7].Nodup by decide)) ?_
    exact k85_91  hr11 hx3 hx5 hx6 hx7 hy0 (show xin (-1) by decide) h
  · rw [if_neg c132] at h
    refine xe_ldn (ins := .iload 6) (len := 2) (by decide +kernel) rfl rfl rfl rfl ?_
    refine xe_goto (off := 4) (nx := 91) (by decide +kernel) (by decide) ?_
    refine xW_lv rfl (l := [(0, xR_ (x0)), (1, xR_ (x1)), (2, xR_ (x2)), (3, xI (x3)), (4, xR_ (x4)), (5, xI (x5)), (6, xI (x6)), (7, xI (x7)), (8, xI (y0))]) (xsb_of ⟨rfl, rfl, rfl, rfl, rfl, rfl, rfl, rfl, rfl, trivial⟩ (show [8, 0, 1, 2, 3, 4, 5, 6, 7].Nodup by decide)) ?_
    exact k85_91  hr11 hx3 hx5 hx6 hx7 hy0 hx6 h
def f85_65  (r11 : Nat → Nat → Nat → Int → Nat → Int → Int → xj_M → Option (Int × xj_M)) (f : Nat) (x0 : Nat) (x1 : Nat) (x2 : Nat) (x3 : Int) (x4 : Nat) (x5 : Int) (x6 : Int) (y0 : Int) (M : xj_M) : Option (Int × xj_M) := (if 0 < (y0) then f85_78  r11 f (x0) (x1) (x2) (x3) (x4) (x5) (x6) (y0) (-1) M else f85_78  r11 f (x0) (x1) (x2) (x3) (x4) (x5) (x6) (y0) (x5) M)
theorem k85_65 {d f : Nat}  {r11 : Nat → Nat → Nat → Int → Nat → Int → Int → xj_M → Option (Int × xj_M)}  (hr11 : ∀ {x0 : Nat} {x1 : Nat} {x2 : Nat} {x3 : Int} {x4 : Nat} {x5 : Int} {x6 : Int} {M : xj_M} {R : Int × xj_M}, xin x3 → xin x5 → xin x6 → r11 x0 x1 x2 x3 x4 x5 x6 M = some R → xW (d + 3) (none, d + 3, none) xr_85 (11, [(0, xR_ x0), (1, xR_ x1), (2, xR_ x2), (3, xI x3), (4, xR_ x4), (5, xI x5), (6, xI x6)], [], M) (xQi R)) {x0 : Nat} {x1 : Nat} {x2 : Nat} {x3 : Int} {x4 : Nat} {x5 : Int} {x6 : Int} {y0 : Int} {M : xj_M} {R : Int × xj_M} (hx3 : xin x3) (hx5 : xin x5) (hx6 : xin x6) (hy0 : xin y0) (h : f85_65  r11 f x0 x1 x2 x3 x4 x5 x6 y0 M = some R) : xW (d + 3) (none, d + 3, none) xr_85 (65, [(0, xR_ x0), (1, xR_ x1), (2, xR_ x2), (3, xI x3), (4, xR_ x4), (5, xI x5), (6, xI x6)], [xI y0], M) (xQi R) := by
  unfold f85_65 at h
  refine xe_isr (ins := .istore 7) (len := 2) (i := 7) (by decide +kernel) rfl rfl rfl (by decide) (xk_k (show ¬ (0 : Nat) = 7 by decide) (Or.inl (show ¬ (0 + 1 : Nat) = 7 by decide)) (xk_k (show ¬ (1 : Nat) = 7 by decide) (Or.inl (show ¬ (1 + 1 : Nat) = 7 by decide)) (xk_k (show ¬ (2 : Nat) = 7 by decide) (Or.inl (show ¬ (2 + 1 : Nat) = 7 by decide)) (xk_k (show ¬ (3 : Nat) = 7 by decide) (Or.inl (show ¬ (3 + 1 : Nat) = 7 by decide)) (xk_k (show ¬ (4 : Nat) = 7 by decide) (Or.inl (show ¬ (4 + 1 : Nat) = 7 by decide)) (xk_k (show ¬ (5 : Nat) = 7 by decide) (Or.inl (show ¬ (5 + 1 : Nat) = 7 by decide)) (xk_k (show ¬ (6 : Nat) = 7 by decide) (Or.inr (xI_cat _)) xk_n))))))) rfl ?_
  refine xe_ldn (ins := .iload 7) (len := 2) (by decide +kernel) rfl rfl rfl rfl ?_
  refine xe_ifgt (off := 8) (t := 77) (by decide +kernel) (by decide) rfl hy0 (fun c133 => ?_) (fun c133 => ?_)
  · rw [if_pos c133] at h
    refine xe_iconst (n := -1) (by decide +kernel) rfl ?_
    refine xW_lv rfl (l := [(0, xR_ (x0)), (1, xR_ (x1)), (2, xR_ (x2)), (3, xI (x3)), (4, xR_ (x4)), (5, xI (x5)), (6, xI (x6)), (7, xI (y0))]) (xsb_of ⟨rfl, rfl, rfl, rfl, rfl, rfl, rfl, rfl, trivial⟩ (show [7, 0, 1, 2, 3, 4, 5, 6].Nodup by decide)) ?_
    exact k85_78  hr11 hx3 hx5 hx6 hy0 (show xin (-1) by decide) h
  · rw [if_neg c133] at h
    refine xe_ldn (ins := .iload 5) (len := 2) (by decide +kernel) rfl rfl rfl rfl ?_
    refine xe_goto (off := 4) (nx := 78) (by decide +kernel) (by decide) ?_
    refine xW_lv rfl (l := [(0, xR_ (x0)), (1, xR_ (x1)), (2, xR_ (x2)), (3, xI (x3)), (4, xR_ (x4)), (5, xI (x5)), (6, xI (x6)), (7, xI (y0))]) (xsb_of ⟨rfl, rfl, rfl, rfl, rfl, rfl, rfl, rfl, trivial⟩ (show [7, 0, 1, 2, 3, 4, 5, 6].Nodup by decide)) ?_
    exact k85_78  hr11 hx3 hx5 hx6 hy0 hx5 h
def f85_29  (r11 : Nat → Nat → Nat → Int → Nat → Int → Int → xj_M → Option (Int × xj_M)) (f : Nat) (x0 : Nat) (x1 : Nat) (x2 : Nat) (x3 : Int) (x4 : Nat) (x5 : Int) (x6 : Int) (M : xj_M) : Option (Int × xj_M) := ((xq_gi 5 1 (x0) M).bind fun v134 => (if (x5) < (v134) then ((xq_gi 5 1 (x2) M).bind fun v137 => (if (x6) < (v137) then ((xq_is 5 (x0) M).bind fun _ => ((f72  f (x0) (x5) (x2) (x6) (x3) M).bind fun R142 => f85_65  r11 f (x0) (x1) (x2) (x3) (x4) (x5) (x6) (R142.1) R142.2)) else f85_65  r11 f (x0) (x1) (x2) (x3) (x4) (x5) (x6) (-1) M)) else f85_65  r11 f (x0) (x1) (x2) (x3) (x4) (x5) (x6) (1) M))
theorem k85_29 {d f : Nat}  {r11 : Nat → Nat → Nat → Int → Nat → Int → Int → xj_M → Option (Int × xj_M)}  (hr11 : ∀ {x0 : Nat} {x1 : Nat} {x2 : Nat} {x3 : Int} {x4 : Nat} {x5 : Int} {x6 : Int} {M : xj_M} {R : Int × xj_M}, xin x3 → xin x5 → xin x6 → r11 x0 x1 x2 x3 x4 x5 x6 M = some R → xW (d + 3) (none, d + 3, none) xr_85 (11, [(0, xR_ x0), (1, xR_ x1), (2, xR_ x2), (3, xI x3), (4, xR_ x4), (5, xI x5), (6, xI x6)], [], M) (xQi R)) {x0 : Nat} {x1 : Nat} {x2 : Nat} {x3 : Int} {x4 : Nat} {x5 : Int} {x6 : Int} {M : xj_M} {R : Int × xj_M} (hx3 : xin x3) (hx5 : xin x5) (hx6 : xin x6) (h : f85_29  r11 f x0 x1 x2 x3 x4 x5 x6 M = some R) : xW (d + 3) (none, d + 3, none) xr_85 (29, [(0, xR_ x0), (1, xR_ x1), (2, xR_ x2), (3, xI x3), (4, xR_ x4), (5, xI x5), (6, xI x6)], [], M) (xQi R) := by
  unfold f85_29 at h
  refine xe_ldn (ins := .iload 5) (len := 2) (by decide +kernel) rfl rfl rfl rfl ?_
  refine xe_alr (ins := .aload_n 0) (len := 1) (i := 0) (by decide +kernel) rfl rfl rfl rfl rfl ?_
  obtain ⟨v134, e135, h⟩ := xbnd h
  refine xs_gi (i := 23) (c := 5) (k := 1) (by decide +kernel) (by decide) (by decide +kernel) e135 rfl ?_
  refine xe_icmplt (off := 7) (t := 42) (by decide +kernel) (by decide) rfl hx5 (xq_gi_in e135) (fun c136 => ?_) (fun c136 => ?_)
  · rw [if_pos c136] at h
    refine xe_ldn (ins := .iload 6) (len := 2) (by decide +kernel) rfl rfl rfl rfl ?_
    refine xe_alr (ins := .aload_n 2) (len := 1) (i := 2) (by decide +kernel) rfl rfl rfl rfl rfl ?_
    obtain ⟨v137, e138, h⟩ := xbnd h
    refine xs_gi (i := 23) (c := 5) (k := 1) (by decide +kernel) (by decide) (by decide +kernel) e138 rfl ?_
    refine xe_icmplt (off := 7) (t := 55) (by decide +kernel) (by decide) rfl hx6 (xq_gi_in e138) (fun c139 => ?_) (fun c139 => ?_)
    · rw [if_pos c139] at h
      refine xe_alr (ins := .aload_n 0) (len := 1) (i := 0) (by decide +kernel) rfl rfl rfl rfl rfl ?_
      refine xe_ldn (ins := .iload 5) (len := 2) (by decide +kernel) rfl rfl rfl rfl ?_
      refine xe_alr (ins := .aload_n 2) (len := 1) (i := 2) (by decide +kernel) rfl rfl rfl rfl rfl ?_
      refine xe_ldn (ins := .iload 6) (len := 2) (by decide +kernel) rfl rfl rfl rfl ?_
      refine xe_ldn (ins := .iload_n 3) (len := 1) (by decide +kernel) rfl rfl rfl rfl ?_
      obtain ⟨_, e141, h⟩ := xbnd h
      obtain ⟨R142, e140, h⟩ := xbnd h
      refine xs_cv (i := 57) (j := 72) (ar := [xI (x3), xI (x6), xR_ (x2), xI (x5)]) (rest := []) (r2 := xr_72) (by decide +kernel) (by decide +kernel) (by decide +kernel) xr_72_e rfl (by decide) (by decide) e141 ?_
      refine xc_i (k72 (d := d + 2)  hx5 hx6 hx3 e140) rfl (fun hi143 => ?_)
      refine xW_lv rfl (l := [(0, xR_ (x0)), (1, xR_ (x1)), (2, xR_ (x2)), (3, xI (x3)), (4, xR_ (x4)), (5, xI (x5)), (6, xI (x6))]) (xsb_of ⟨rfl, rfl, rfl, rfl, rfl, rfl, rfl, trivial⟩ (show [0, 1, 2, 3, 4, 5, 6].Nodup by decide)) ?_
      exact k85_65  hr11 hx3 hx5 hx6 hi143 h
    · rw [if_neg c139] at h
      refine xe_iconst (n := -1) (by decide +kernel) rfl ?_
      refine xe_goto (off := 13) (nx := 65) (by decide +kernel) (by decide) ?_
      refine xW_lv rfl (l := [(0, xR_ (x0)), (1, xR_ (x1)), (2, xR_ (x2)), (3, xI (x3)), (4, xR_ (x4)), (5, xI (x5)), (6, xI (x6))]) (xsb_of ⟨rfl, rfl, rfl, rfl, rfl, rfl, rfl, trivial⟩ (show [0, 1, 2, 3, 4, 5, 6].Nodup by decide)) ?_
      exact k85_65  hr11 hx3 hx5 hx6 (show xin (-1) by decide) h
  · rw [if_neg c136] at h
    refine xe_iconst (n := 1) (by decide +kernel) rfl ?_
    refine xe_goto (off := 26) (nx := 65) (by decide +kernel) (by decide) ?_
    refine xW_lv rfl (l := [(0, xR_ (x0)), (1, xR_ (x1)), (2, xR_ (x2)), (3, xI (x3)), (4, xR_ (x4)), (5, xI (x5)), (6, xI (x6))]) (xsb_of ⟨rfl, rfl, rfl, rfl, rfl, rfl, rfl, trivial⟩ (show [0, 1, 2, 3, 4, 5, 6].Nodup by decide)) ?_
    exact k85_65  hr11 hx3 hx5 hx6 (show xin (1) by decide) h
def f85_11b  (r11 : Nat → Nat → Nat → Int → Nat → Int → Int → xj_M → Option (Int × xj_M)) (f : Nat) (x0 : Nat) (x1 : Nat) (x2 : Nat) (x3 : Int) (x4 : Nat) (x5 : Int) (x6 : Int) (M : xj_M) : Option (Int × xj_M) := ((xq_gi 5 1 (x0) M).bind fun v144 => (if (x5) < (v144) then f85_29  r11 f (x0) (x1) (x2) (x3) (x4) (x5) (x6) M else ((xq_gi 5 1 (x2) M).bind fun v147 => (if (v147) ≤ (x6) then (some (-1, M)) else f85_29  r11 f (x0) (x1) (x2) (x3) (x4) (x5) (x6) M))))
theorem k85_11b {d f : Nat}  {r11 : Nat → Nat → Nat → Int → Nat → Int → Int → xj_M → Option (Int × xj_M)}  (hr11 : ∀ {x0 : Nat} {x1 : Nat} {x2 : Nat} {x3 : Int} {x4 : Nat} {x5 : Int} {x6 : Int} {M : xj_M} {R : Int × xj_M}, xin x3 → xin x5 → xin x6 → r11 x0 x1 x2 x3 x4 x5 x6 M = some R → xW (d + 3) (none, d + 3, none) xr_85 (11, [(0, xR_ x0), (1, xR_ x1), (2, xR_ x2), (3, xI x3), (4, xR_ x4), (5, xI x5), (6, xI x6)], [], M) (xQi R)) {x0 : Nat} {x1 : Nat} {x2 : Nat} {x3 : Int} {x4 : Nat} {x5 : Int} {x6 : Int} {M : xj_M} {R : Int × xj_M} (hx3 : xin x3) (hx5 : xin x5) (hx6 : xin x6) (h : f85_11b  r11 f x0 x1 x2 x3 x4 x5 x6 M = some R) : xW (d + 3) (none, d + 3, none) xr_85 (11, [(0, xR_ x0), (1, xR_ x1), (2, xR_ x2), (3, xI x3), (4, xR_ x4), (5, xI x5), (6, xI x6)], [], M) (xQi R) := by
  unfold f85_11b at h
  refine xe_ldn (ins := .iload 5) (len := 2) (by decide +kernel) rfl rfl rfl rfl ?_
  refine xe_alr (ins := .aload_n 0) (len := 1) (i := 0) (by decide +kernel) rfl rfl rfl rfl rfl ?_
  obtain ⟨v144, e145, h⟩ := xbnd h
  refine xs_gi (i := 23) (c := 5) (k := 1) (by decide +kernel) (by decide) (by decide +kernel) e145 rfl ?_
  refine xe_icmplt (off := 12) (t := 29) (by decide +kernel) (by decide) rfl hx5 (xq_gi_in e145) (fun c146 => ?_) (fun c146 => ?_)
  · rw [if_pos c146] at h
    refine xW_lv rfl (l := [(0, xR_ (x0)), (1, xR_ (x1)), (2, xR_ (x2)), (3, xI (x3)), (4, xR_ (x4)), (5, xI (x5)), (6, xI (x6))]) (xsb_of ⟨rfl, rfl, rfl, rfl, rfl, rfl, rfl, trivial⟩ (show [0, 1, 2, 3, 4, 5, 6].Nodup by decide)) ?_
    exact k85_29  hr11 hx3 hx5 hx6 h
  · rw [if_neg c146] at h
    refine xe_ldn (ins := .iload 6) (len := 2) (by decide +kernel) rfl rfl rfl rfl ?_
    refine xe_alr (ins := .aload_n 2) (len := 1) (i := 2) (by decide +kernel) rfl rfl rfl rfl rfl ?_
    obtain ⟨v147, e148, h⟩ := xbnd h
    refine xs_gi (i := 23) (c := 5) (k := 1) (by decide +kernel) (by decide) (by decide +kernel) e148 rfl ?_
    refine xe_icmpge (off := 190) (t := 216) (by decide +kernel) (by decide) rfl hx6 (xq_gi_in e148) (fun c149 => ?_) (fun c149 => ?_)
    · rw [if_pos c149] at h
      refine xe_iconst (n := -1) (by decide +kernel) rfl ?_
      cases h
      exact xe_ret_i (ty := .int) (by decide +kernel) rfl rfl ⟨rfl, rfl, (show xin (-1) by decide)⟩
    · rw [if_neg c149] at h
      refine xW_lv rfl (l := [(0, xR_ (x0)), (1, xR_ (x1)), (2, xR_ (x2)), (3, xI (x3)), (4, xR_ (x4)), (5, xI (x5)), (6, xI (x6))]) (xsb_of ⟨rfl, rfl, rfl, rfl, rfl, rfl, rfl, trivial⟩ (show [0, 1, 2, 3, 4, 5, 6].Nodup by decide)) ?_
      exact k85_29  hr11 hx3 hx5 hx6 h
def f85_11   (f : Nat) : Nat → Nat → Nat → Nat → Int → Nat → Int → Int → xj_M → Option (Int × xj_M)
  | 0, _, _, _, _, _, _, _, _ => none
  | n + 1, x0, x1, x2, x3, x4, x5, x6, M => f85_11b   (f85_11   f n) f x0 x1 x2 x3 x4 x5 x6 M
theorem k85_11 {d f : Nat}     : ∀ {n : Nat} {x0 : Nat} {x1 : Nat} {x2 : Nat} {x3 : Int} {x4 : Nat} {x5 : Int} {x6 : Int} {M : xj_M} {R : Int × xj_M}, xin x3 → xin x5 → xin x6 → f85_11   f n x0 x1 x2 x3 x4 x5 x6 M = some R → xW (d + 3) (none, d + 3, none) xr_85 (11, [(0, xR_ x0), (1, xR_ x1), (2, xR_ x2), (3, xI x3), (4, xR_ x4), (5, xI x5), (6, xI x6)], [], M) (xQi R) := by
  intro n
  induction n with
  | zero => intros; rename_i h; cases h
  | succ n ih => intros; rename_i h; exact k85_11b   ih (by assumption) (by assumption) (by assumption) h
def f85  (f : Nat) (a0 : Nat) (a1 : Nat) (a2 : Nat) (a3 : Int) (M : xj_M) : Option (Int × xj_M) := ((xq_na 4 (4) M).bind fun p150 => f85_11   f f (a0) (a1) (a2) (a3) (p150.1) (0) (0) p150.2)
theorem k85 {d f : Nat}   {a0 : Nat} {a1 : Nat} {a2 : Nat} {a3 : Int} {M : xj_M} {R : Int × xj_M} (ha3 : xin a3) (h : f85  f a0 a1 a2 a3 M = some R) : xT (d + 4) 85 [xR_ a0, xR_ a1, xR_ a2, xI a3] M (xQi R) := by
  refine xT_m xr_85_e (X := (none, d + 3, none)) rfl (xa_1 (xR_cat _) (xa_1 (xR_cat _) (xa_1 (xR_cat _) (xa_1 (xI_cat _) xa_n)))) (by decide) ?_
  unfold f85 at h
  refine xe_iconst (n := 4) (by decide +kernel) rfl ?_
  obtain ⟨p150, e151, h⟩ := xbnd h
  refine xs_na (kk := 4) (ty := .long) (x := p150.1) (M1 := p150.2) (by decide +kernel) rfl (show xin (4) by decide) e151 rfl ?_
  refine xe_asr (ins := .astore 4) (len := 2) (i := 4) (by decide +kernel) rfl rfl rfl (by decide) (xk_k (show ¬ (0 : Nat) = 4 by decide) (Or.inl (show ¬ (0 + 1 : Nat) = 4 by decide)) (xk_k (show ¬ (1 : Nat) = 4 by decide) (Or.inl (show ¬ (1 + 1 : Nat) = 4 by decide)) (xk_k (show ¬ (2 : Nat) = 4 by decide) (Or.inl (show ¬ (2 + 1 : Nat) = 4 by decide)) (xk_k (show ¬ (3 : Nat) = 4 by decide) (Or.inr (xI_cat _)) xk_n)))) rfl ?_
  refine xe_iconst (n := 0) (by decide +kernel) rfl ?_
  refine xe_isr (ins := .istore 5) (len := 2) (i := 5) (by decide +kernel) rfl rfl rfl (by decide) (xk_k (show ¬ (4 : Nat) = 5 by decide) (Or.inr (xR_cat _)) (xk_k (show ¬ (0 : Nat) = 5 by decide) (Or.inl (show ¬ (0 + 1 : Nat) = 5 by decide)) (xk_k (show ¬ (1 : Nat) = 5 by decide) (Or.inl (show ¬ (1 + 1 : Nat) = 5 by decide)) (xk_k (show ¬ (2 : Nat) = 5 by decide) (Or.inl (show ¬ (2 + 1 : Nat) = 5 by decide)) (xk_k (show ¬ (3 : Nat) = 5 by decide) (Or.inl (show ¬ (3 + 1 : Nat) = 5 by decide)) xk_n))))) rfl ?_
  refine xe_iconst (n := 0) (by decide +kernel) rfl ?_
  refine xe_isr (ins := .istore 6) (len := 2) (i := 6) (by decide +kernel) rfl rfl rfl (by decide) (xk_k (show ¬ (5 : Nat) = 6 by decide) (Or.inr (xI_cat _)) (xk_k (show ¬ (4 : Nat) = 6 by decide) (Or.inl (show ¬ (4 + 1 : Nat) = 6 by decide)) (xk_k (show ¬ (0 : Nat) = 6 by decide) (Or.inl (show ¬ (0 + 1 : Nat) = 6 by decide)) (xk_k (show ¬ (1 : Nat) = 6 by decide) (Or.inl (show ¬ (1 + 1 : Nat) = 6 by decide)) (xk_k (show ¬ (2 : Nat) = 6 by decide) (Or.inl (show ¬ (2 + 1 : Nat) = 6 by decide)) (xk_k (show ¬ (3 : Nat) = 6 by decide) (Or.inl (show ¬ (3 + 1 : Nat) = 6 by decide)) xk_n)))))) rfl ?_
  refine xW_lv rfl (l := [(0, xR_ (a0)), (1, xR_ (a1)), (2, xR_ (a2)), (3, xI (a3)), (4, xR_ (p150.1)), (5, xI (0)), (6, xI (0))]) (xsb_of ⟨rfl, rfl, rfl, rfl, rfl, rfl, rfl, trivial⟩ (show [6, 5, 4, 0, 1, 2, 3].Nodup by decide)) ?_
  exact k85_11   ha3 (show xin (0) by decide) (show xin (0) by decide) h
-- ChangeHouse$Rule.makePlan
def xr_96 : xj_mR := (6, yX6_makePlan, cX6_makePlan, 8, (Option.none : Option Jvm.ClassFile.FieldType), 0, false, (5, 164), (1, 26))
set_option maxRecDepth 20000 in
theorem xr_96_e : xj_row 96 = some xr_96 := rfl
def f96_92  (r6 : Nat → Int → Int → Int → xj_M → Option (xj_M)) (r23 : Nat → Int → Int → Int → Int → Int → Int → xj_M → Option (xj_M)) (f : Nat) (x0 : Nat) (x1 : Int) (x2 : Int) (x3 : Int) (x4 : Int) (x5 : Int) (x6 : Int) (M : xj_M) : Option (xj_M) := r23 (x0) (x1) (x2) (x3) (x4) (x5) (xwr ((x6) + (1))) M
theorem k96_92 {d f : Nat}  {r6 : Nat → Int → Int → Int → xj_M → Option (xj_M)} {r23 : Nat → Int → Int → Int → Int → Int → Int → xj_M → Option (xj_M)}  (hr6 : ∀ {x0 : Nat} {x1 : Int} {x2 : Int} {x3 : Int} {M : xj_M} {R : xj_M}, xin x1 → xin x2 → xin x3 → r6 x0 x1 x2 x3 M = some R → xW (d + 3) (none, d + 3, none) xr_96 (6, [(0, xR_ x0), (1, xI x1), (2, xI x2), (3, xI x3)], [], M) (xQv R)) (hr23 : ∀ {x0 : Nat} {x1 : Int} {x2 : Int} {x3 : Int} {x4 : Int} {x5 : Int} {x6 : Int} {M : xj_M} {R : xj_M}, xin x1 → xin x2 → xin x3 → xin x4 → xin x5 → xin x6 → r23 x0 x1 x2 x3 x4 x5 x6 M = some R → xW (d + 3) (none, d + 3, none) xr_96 (23, [(0, xR_ x0), (1, xI x1), (2, xI x2), (3, xI x3), (4, xI x4), (5, xI x5), (6, xI x6)], [], M) (xQv R)) {x0 : Nat} {x1 : Int} {x2 : Int} {x3 : Int} {x4 : Int} {x5 : Int} {x6 : Int} {M : xj_M} {R : xj_M} (hx1 : xin x1) (hx2 : xin x2) (hx3 : xin x3) (hx4 : xin x4) (hx5 : xin x5) (hx6 : xin x6) (h : f96_92  r6 r23 f x0 x1 x2 x3 x4 x5 x6 M = some R) : xW (d + 3) (none, d + 3, none) xr_96 (92, [(0, xR_ x0), (1, xI x1), (2, xI x2), (3, xI x3), (4, xI x4), (5, xI x5), (6, xI x6)], [], M) (xQv R) := by
  unfold f96_92 at h
  refine xe_iincr (i := 6) (n := 1) (by decide +kernel) (by decide) rfl (xk_k (show ¬ (0 : Nat) = 6 by decide) (Or.inl (show ¬ (0 + 1 : Nat) = 6 by decide)) (xk_k (show ¬ (1 : Nat) = 6 by decide) (Or.inl (show ¬ (1 + 1 : Nat) = 6 by decide)) (xk_k (show ¬ (2 : Nat) = 6 by decide) (Or.inl (show ¬ (2 + 1 : Nat) = 6 by decide)) (xk_k (show ¬ (3 : Nat) = 6 by decide) (Or.inl (show ¬ (3 + 1 : Nat) = 6 by decide)) (xk_k (show ¬ (4 : Nat) = 6 by decide) (Or.inl (show ¬ (4 + 1 : Nat) = 6 by decide)) (xk_k (show ¬ (5 : Nat) = 6 by decide) (Or.inr (xI_cat _)) (xk_d rfl xk_n))))))) rfl ?_
  refine xe_goto (off := -72) (nx := 23) (by decide +kernel) (by decide) ?_
  refine xW_lv rfl (l := [(0, xR_ (x0)), (1, xI (x1)), (2, xI (x2)), (3, xI (x3)), (4, xI (x4)), (5, xI (x5)), (6, xI (xwr ((x6) + (1))))]) (xsb_of ⟨rfl, rfl, rfl, rfl, rfl, rfl, rfl, trivial⟩ (show [6, 0, 1, 2, 3, 4, 5].Nodup by decide)) ?_
  exact hr23 hx1 hx2 hx3 hx4 hx5 (xin_wr _) h
def f96_75  (r6 : Nat → Int → Int → Int → xj_M → Option (xj_M)) (r23 : Nat → Int → Int → Int → Int → Int → Int → xj_M → Option (xj_M)) (f : Nat) (x0 : Nat) (x1 : Int) (x2 : Int) (x3 : Int) (x4 : Int) (x5 : Int) (x6 : Int) (y0 : Int) (M : xj_M) : Option (xj_M) := (if (y0) ≤ (x5) then f96_92  r6 r23 f (x0) (x1) (x2) (x3) (x4) (x5) (x6) M else f96_92  r6 r23 f (x0) (x1) (x2) (x3) (x6) (y0) (x6) M)
theorem k96_75 {d f : Nat}  {r6 : Nat → Int → Int → Int → xj_M → Option (xj_M)} {r23 : Nat → Int → Int → Int → Int → Int → Int → xj_M → Option (xj_M)}  (hr6 : ∀ {x0 : Nat} {x1 : Int} {x2 : Int} {x3 : Int} {M : xj_M} {R : xj_M}, xin x1 → xin x2 → xin x3 → r6 x0 x1 x2 x3 M = some R → xW (d + 3) (none, d + 3, none) xr_96 (6, [(0, xR_ x0), (1, xI x1), (2, xI x2), (3, xI x3)], [], M) (xQv R)) (hr23 : ∀ {x0 : Nat} {x1 : Int} {x2 : Int} {x3 : Int} {x4 : Int} {x5 : Int} {x6 : Int} {M : xj_M} {R : xj_M}, xin x1 → xin x2 → xin x3 → xin x4 → xin x5 → xin x6 → r23 x0 x1 x2 x3 x4 x5 x6 M = some R → xW (d + 3) (none, d + 3, none) xr_96 (23, [(0, xR_ x0), (1, xI x1), (2, xI x2), (3, xI x3), (4, xI x4), (5, xI x5), (6, xI x6)], [], M) (xQv R)) {x0 : Nat} {x1 : Int} {x2 : Int} {x3 : Int} {x4 : Int} {x5 : Int} {x6 : Int} {y0 : Int} {M : xj_M} {R : xj_M} (hx1 : xin x1) (hx2 : xin x2) (hx3 : xin x3) (hx4 : xin x4) (hx5 : xin x5) (hx6 : xin x6) (hy0 : xin y0) (h : f96_75  r6 r23 f x0 x1 x2 x3 x4 x5 x6 y0 M = some R) : xW (d + 3) (none, d + 3, none) xr_96 (75, [(0, xR_ x0), (1, xI x1), (2, xI x2), (3, xI x3), (4, xI x4), (5, xI x5), (6, xI x6)], [xI y0], M) (xQv R) := by
  unfold f96_75 at h
  refine xe_isr (ins := .istore 7) (len := 2) (i := 7) (by decide +kernel) rfl rfl rfl (by decide) (xk_k (show ¬ (0 : Nat) = 7 by decide) (Or.inl (show ¬ (0 + 1 : Nat) = 7 by decide)) (xk_k (show ¬ (1 : Nat) = 7 by decide) (Or.inl (show ¬ (1 + 1 : Nat) = 7 by decide)) (xk_k (show ¬ (2 : Nat) = 7 by decide) (Or.inl (show ¬ (2 + 1 : Nat) = 7 by decide)) (xk_k (show ¬ (3 : Nat) = 7 by decide) (Or.inl (show ¬ (3 + 1 : Nat) = 7 by decide)) (xk_k (show ¬ (4 : Nat) = 7 by decide) (Or.inl (show ¬ (4 + 1 : Nat) = 7 by decide)) (xk_k (show ¬ (5 : Nat) = 7 by decide) (Or.inl (show ¬ (5 + 1 : Nat) = 7 by decide)) (xk_k (show ¬ (6 : Nat) = 7 by decide) (Or.inr (xI_cat _)) xk_n))))))) rfl ?_
  refine xe_ldn (ins := .iload 7) (len := 2) (by decide +kernel) rfl rfl rfl rfl ?_
  refine xe_ldn (ins := .iload 5) (len := 2) (by decide +kernel) rfl rfl rfl rfl ?_
  refine xe_icmple (off := 11) (t := 92) (by decide +kernel) (by decide) rfl hy0 hx5 (fun c101 => ?_) (fun c101 => ?_)
  · rw [if_pos c101] at h
    refine xW_lv rfl (l := [(0, xR_ (x0)), (1, xI (x1)), (2, xI (x2)), (3, xI (x3)), (4, xI (x4)), (5, xI (x5)), (6, xI (x6))]) (xsb_of ⟨rfl, rfl, rfl, rfl, rfl, rfl, rfl, trivial⟩ (show [7, 0, 1, 2, 3, 4, 5, 6].Nodup by decide)) ?_
    exact k96_92  hr6 hr23 hx1 hx2 hx3 hx4 hx5 hx6 h
  · rw [if_neg c101] at h
    refine xe_ldn (ins := .iload 6) (len := 2) (by decide +kernel) rfl rfl rfl rfl ?_
    refine xe_isr (ins := .istore 4) (len := 2) (i := 4) (by decide +kernel) rfl rfl rfl (by decide) (xk_k (show ¬ (7 : Nat) = 4 by decide) (Or.inl (show ¬ (7 + 1 : Nat) = 4 by decide)) (xk_k (show ¬ (0 : Nat) = 4 by decide) (Or.inl (show ¬ (0 + 1 : Nat) = 4 by decide)) (xk_k (show ¬ (1 : Nat) = 4 by decide) (Or.inl (show ¬ (1 + 1 : Nat) = 4 by decide)) (xk_k (show ¬ (2 : Nat) = 4 by decide) (Or.inl (show ¬ (2 + 1 : Nat) = 4 by decide)) (xk_k (show ¬ (3 : Nat) = 4 by decide) (Or.inr (xI_cat _)) (xk_d rfl (xk_k (show ¬ (5 : Nat) = 4 by decide) (Or.inl (show ¬ (5 + 1 : Nat) = 4 by decide)) (xk_k (show ¬ (6 : Nat) = 4 by decide) (Or.inl (show ¬ (6 + 1 : Nat) = 4 by decide)) xk_n)))))))) rfl ?_
    refine xe_ldn (ins := .iload 7) (len := 2) (by decide +kernel) rfl rfl rfl rfl ?_
    refine xe_isr (ins := .istore 5) (len := 2) (i := 5) (by decide +kernel) rfl rfl rfl (by decide) (xk_k (show ¬ (4 : Nat) = 5 by decide) (Or.inr (xI_cat _)) (xk_k (show ¬ (7 : Nat) = 5 by decide) (Or.inl (show ¬ (7 + 1 : Nat) = 5 by decide)) (xk_k (show ¬ (0 : Nat) = 5 by decide) (Or.inl (show ¬ (0 + 1 : Nat) = 5 by decide)) (xk_k (show ¬ (1 : Nat) = 5 by decide) (Or.inl (show ¬ (1 + 1 : Nat) = 5 by decide)) (xk_k (show ¬ (2 : Nat) = 5 by decide) (Or.inl (show ¬ (2 + 1 : Nat) = 5 by decide)) (xk_k (show ¬ (3 : Nat) = 5 by decide) (Or.inl (show ¬ (3 + 1 : Nat) = 5 by decide)) (xk_d rfl (xk_k (show ¬ (6 : Nat) = 5 by decide) (Or.inl (show ¬ (6 + 1 : Nat) = 5 by decide)) xk_n)))))))) rfl ?_
    refine xW_lv rfl (l := [(0, xR_ (x0)), (1, xI (x1)), (2, xI (x2)), (3, xI (x3)), (4, xI (x6)), (5, xI (y0)), (6, xI (x6))]) (xsb_of ⟨rfl, rfl, rfl, rfl, rfl, rfl, rfl, trivial⟩ (show [5, 4, 7, 0, 1, 2, 3, 6].Nodup by decide)) ?_
    exact k96_92  hr6 hr23 hx1 hx2 hx3 hx6 hy0 hx6 h
def f96_127  (r6 : Nat → Int → Int → Int → xj_M → Option (xj_M)) (f : Nat) (x0 : Nat) (x1 : Int) (x2 : Int) (x3 : Int) (M : xj_M) : Option (xj_M) := r6 (x0) (x1) (x2) (xwr ((x3) + (1))) M
theorem k96_127 {d f : Nat}  {r6 : Nat → Int → Int → Int → xj_M → Option (xj_M)}  (hr6 : ∀ {x0 : Nat} {x1 : Int} {x2 : Int} {x3 : Int} {M : xj_M} {R : xj_M}, xin x1 → xin x2 → xin x3 → r6 x0 x1 x2 x3 M = some R → xW (d + 3) (none, d + 3, none) xr_96 (6, [(0, xR_ x0), (1, xI x1), (2, xI x2), (3, xI x3)], [], M) (xQv R)) {x0 : Nat} {x1 : Int} {x2 : Int} {x3 : Int} {M : xj_M} {R : xj_M} (hx1 : xin x1) (hx2 : xin x2) (hx3 : xin x3) (h : f96_127  r6 f x0 x1 x2 x3 M = some R) : xW (d + 3) (none, d + 3, none) xr_96 (127, [(0, xR_ x0), (1, xI x1), (2, xI x2), (3, xI x3)], [], M) (xQv R) := by
  unfold f96_127 at h
  refine xe_iincr (i := 3) (n := 1) (by decide +kernel) (by decide) rfl (xk_k (show ¬ (0 : Nat) = 3 by decide) (Or.inl (show ¬ (0 + 1 : Nat) = 3 by decide)) (xk_k (show ¬ (1 : Nat) = 3 by decide) (Or.inl (show ¬ (1 + 1 : Nat) = 3 by decide)) (xk_k (show ¬ (2 : Nat) = 3 by decide) (Or.inr (xI_cat _)) (xk_d rfl xk_n)))) rfl ?_
  refine xe_goto (off := -124) (nx := 6) (by decide +kernel) (by decide) ?_
  refine xW_lv rfl (l := [(0, xR_ (x0)), (1, xI (x1)), (2, xI (x2)), (3, xI (xwr ((x3) + (1))))]) (xsb_of ⟨rfl, rfl, rfl, rfl, trivial⟩ (show [3, 0, 1, 2].Nodup by decide)) ?_
  exact hr6 hx1 hx2 (xin_wr _) h
def f96_23b  (r6 : Nat → Int → Int → Int → xj_M → Option (xj_M)) (r23 : Nat → Int → Int → Int → Int → Int → Int → xj_M → Option (xj_M)) (f : Nat) (x0 : Nat) (x1 : Int) (x2 : Int) (x3 : Int) (x4 : Int) (x5 : Int) (x6 : Int) (M : xj_M) : Option (xj_M) := ((xq_gi 6 8 (x0) M).bind fun v102 => (if (v102) ≤ (x6) then (if (x4) = (-1) then f96_127  r6 f (x0) (x1) (x2) (x3) M else ((xq_gr 6 18 (x0) M).bind fun v106 => ((xq_si (v106) (x3) (x4) M).bind fun M108 => ((xq_is 6 (x0) M108).bind fun _ => ((f94  f (x0) (x4) (x2) M108).bind fun R112 => f96_127  r6 f (x0) (xor_ (x1) (xshl (1) (x4))) (R112.1) (x3) R112.2))))) else (if ¬ (xand (xshr (x1) (x6)) (1)) = 0 then f96_92  r6 r23 f (x0) (x1) (x2) (x3) (x4) (x5) (x6) M else ((xq_is 6 (x0) M).bind fun _ => ((f94  f (x0) (x6) (x2) M).bind fun R117 => (if (R117.1) = (-1) then f96_92  r6 r23 f (x0) (x1) (x2) (x3) (x4) (x5) (x6) R117.2 else ((xq_gr 6 9 (x0) R117.2).bind fun v120 => ((xq_ai 3 (v120) (x6) R117.2).bind fun v122 => (if ¬ (v122) = (15) then f96_75  r6 r23 f (x0) (x1) (x2) (x3) (x4) (x5) (x6) (5) R117.2 else ((xq_is 6 (x0) R117.2).bind fun _ => ((f97  f (x0) (x6) (x2) R117.2).bind fun R127 => f96_75  r6 r23 f (x0) (x1) (x2) (x3) (x4) (x5) (x6) (R127.1) R127.2)))))))))))
theorem k96_23b {d f : Nat}  {r6 : Nat → Int → Int → Int → xj_M → Option (xj_M)} {r23 : Nat → Int → Int → Int → Int → Int → Int → xj_M → Option (xj_M)}  (hr6 : ∀ {x0 : Nat} {x1 : Int} {x2 : Int} {x3 : Int} {M : xj_M} {R : xj_M}, xin x1 → xin x2 → xin x3 → r6 x0 x1 x2 x3 M = some R → xW (d + 3) (none, d + 3, none) xr_96 (6, [(0, xR_ x0), (1, xI x1), (2, xI x2), (3, xI x3)], [], M) (xQv R)) (hr23 : ∀ {x0 : Nat} {x1 : Int} {x2 : Int} {x3 : Int} {x4 : Int} {x5 : Int} {x6 : Int} {M : xj_M} {R : xj_M}, xin x1 → xin x2 → xin x3 → xin x4 → xin x5 → xin x6 → r23 x0 x1 x2 x3 x4 x5 x6 M = some R → xW (d + 3) (none, d + 3, none) xr_96 (23, [(0, xR_ x0), (1, xI x1), (2, xI x2), (3, xI x3), (4, xI x4), (5, xI x5), (6, xI x6)], [], M) (xQv R)) {x0 : Nat} {x1 : Int} {x2 : Int} {x3 : Int} {x4 : Int} {x5 : Int} {x6 : Int} {M : xj_M} {R : xj_M} (hx1 : xin x1) (hx2 : xin x2) (hx3 : xin x3) (hx4 : xin x4) (hx5 : xin x5) (hx6 : xin x6) (h : f96_23b  r6 r23 f x0 x1 x2 x3 x4 x5 x6 M = some R) : xW (d + 3) (none, d + 3, none) xr_96 (23, [(0, xR_ x0), (1, xI x1), (2, xI x2), (3, xI x3), (4, xI x4), (5, xI x5), (6, xI x6)], [], M) (xQv R) := by
  unfold f96_23b at h
  refine xe_ldn (ins := .iload 6) (len := 2) (by decide +kernel) rfl rfl rfl rfl ?_
  refine xe_alr (ins := .aload_n 0) (len := 1) (i := 0) (by decide +kernel) rfl rfl rfl rfl rfl ?_
  obtain ⟨v102, e103, h⟩ := xbnd h
  refine xs_gi (i := 68) (c := 6) (k := 8) (by decide +kernel) (by decide) (by decide +kernel) e103 rfl ?_
  refine xe_icmpge (off := 69) (t := 98) (by decide +kernel) (by decide) rfl hx6 (xq_gi_in e103) (fun c104 => ?_) (fun c104 => ?_)
  · rw [if_pos c104] at h
    refine xe_ldn (ins := .iload 4) (len := 2) (by decide +kernel) rfl rfl rfl rfl ?_
    refine xe_iconst (n := -1) (by decide +kernel) rfl ?_
    refine xe_icmpeq (off := 26) (t := 127) (by decide +kernel) (by decide) rfl hx4 (show xin (-1) by decide) (fun c105 => ?_) (fun c105 => ?_)
    · rw [if_pos c105] at h
      refine xW_lv rfl (l := [(0, xR_ (x0)), (1, xI (x1)), (2, xI (x2)), (3, xI (x3))]) (xsb_of ⟨rfl, rfl, rfl, rfl, trivial⟩ (show [0, 1, 2, 3, 4, 5, 6].Nodup by decide)) ?_
      exact k96_127  hr6 hx1 hx2 hx3 h
    · rw [if_neg c105] at h
      refine xe_alr (ins := .aload_n 0) (len := 1) (i := 0) (by decide +kernel) rfl rfl rfl rfl rfl ?_
      obtain ⟨v106, e107, h⟩ := xbnd h
      refine xs_gr (i := 44) (c := 6) (k := 18) (by decide +kernel) (by decide) (by decide +kernel) e107 rfl ?_
      refine xe_ldn (ins := .iload_n 3) (len := 1) (by decide +kernel) rfl rfl rfl rfl ?_
      refine xe_ldn (ins := .iload 4) (len := 2) (by decide +kernel) rfl rfl rfl rfl ?_
      obtain ⟨M108, e109, h⟩ := xbnd h
      refine xs_iast (by decide +kernel) hx3 e109 rfl ?_
      refine xe_ldn (ins := .iload_n 1) (len := 1) (by decide +kernel) rfl rfl rfl rfl ?_
      refine xe_iconst (n := 1) (by decide +kernel) rfl ?_
      refine xe_ldn (ins := .iload 4) (len := 2) (by decide +kernel) rfl rfl rfl rfl ?_
      refine xe_ishl (by decide +kernel) rfl ?_
      refine xe_ior (by decide +kernel) rfl ?_
      refine xe_isr (ins := .istore_n 1) (len := 1) (i := 1) (by decide +kernel) rfl rfl rfl (by decide) (xk_k (show ¬ (0 : Nat) = 1 by decide) (Or.inr (xR_cat _)) (xk_d rfl (xk_k (show ¬ (2 : Nat) = 1 by decide) (Or.inl (show ¬ (2 + 1 : Nat) = 1 by decide)) (xk_k (show ¬ (3 : Nat) = 1 by decide) (Or.inl (show ¬ (3 + 1 : Nat) = 1 by decide)) (xk_k (show ¬ (4 : Nat) = 1 by decide) (Or.inl (show ¬ (4 + 1 : Nat) = 1 by decide)) (xk_k (show ¬ (5 : Nat) = 1 by decide) (Or.inl (show ¬ (5 + 1 : Nat) = 1 by decide)) (xk_k (show ¬ (6 : Nat) = 1 by decide) (Or.inl (show ¬ (6 + 1 : Nat) = 1 by decide)) xk_n))))))) rfl ?_
      refine xe_alr (ins := .aload_n 0) (len := 1) (i := 0) (by decide +kernel) rfl rfl rfl rfl rfl ?_
      refine xe_ldn (ins := .iload 4) (len := 2) (by decide +kernel) rfl rfl rfl rfl ?_
      refine xe_ldn (ins := .iload_n 2) (len := 1) (by decide +kernel) rfl rfl rfl rfl ?_
      obtain ⟨_, e111, h⟩ := xbnd h
      obtain ⟨R112, e110, h⟩ := xbnd h
      refine xs_cv (i := 85) (j := 94) (ar := [xI (x2), xI (x4)]) (rest := []) (r2 := xr_94) (by decide +kernel) (by decide +kernel) (by decide +kernel) xr_94_e rfl (by decide) (by decide) e111 ?_
      refine xc_i (k94 (d := d + 0)  hx4 hx2 e110) rfl (fun hi113 => ?_)
      refine xe_isr (ins := .istore_n 2) (len := 1) (i := 2) (by decide +kernel) rfl rfl rfl (by decide) (xk_k (show ¬ (1 : Nat) = 2 by decide) (Or.inr (xI_cat _)) (xk_k (show ¬ (0 : Nat) = 2 by decide) (Or.inl (show ¬ (0 + 1 : Nat) = 2 by decide)) (xk_d rfl (xk_k (show ¬ (3 : Nat) = 2 by decide) (Or.inl (show ¬ (3 + 1 : Nat) = 2 by decide)) (xk_k (show ¬ (4 : Nat) = 2 by decide) (Or.inl (show ¬ (4 + 1 : Nat) = 2 by decide)) (xk_k (show ¬ (5 : Nat) = 2 by decide) (Or.inl (show ¬ (5 + 1 : Nat) = 2 by decide)) (xk_k (show ¬ (6 : Nat) = 2 by decide) (Or.inl (show ¬ (6 + 1 : Nat) = 2 by decide)) xk_n))))))) rfl ?_
      refine xW_lv rfl (l := [(0, xR_ (x0)), (1, xI (xor_ (x1) (xshl (1) (x4)))), (2, xI (R112.1)), (3, xI (x3))]) (xsb_of ⟨rfl, rfl, rfl, rfl, trivial⟩ (show [2, 1, 0, 3, 4, 5, 6].Nodup by decide)) ?_
      exact k96_127  hr6 (xin_of _) hi113 hx3 h
  · rw [if_neg c104] at h
    refine xe_ldn (ins := .iload_n 1) (len := 1) (by decide +kernel) rfl rfl rfl rfl ?_
    refine xe_ldn (ins := .iload 6) (len := 2) (by decide +kernel) rfl rfl rfl rfl ?_
    refine xe_ishr (by decide +kernel) rfl ?_
    refine xe_iconst (n := 1) (by decide +kernel) rfl ?_
    refine xe_iand (by decide +kernel) rfl ?_
    refine xe_ifne (off := 54) (t := 92) (by decide +kernel) (by decide) rfl (xin_of _) (fun c114 => ?_) (fun c114 => ?_)
    · rw [if_pos c114] at h
      refine xW_lv rfl (l := [(0, xR_ (x0)), (1, xI (x1)), (2, xI (x2)), (3, xI (x3)), (4, xI (x4)), (5, xI (x5)), (6, xI (x6))]) (xsb_of ⟨rfl, rfl, rfl, rfl, rfl, rfl, rfl, trivial⟩ (show [0, 1, 2, 3, 4, 5, 6].Nodup by decide)) ?_
      exact k96_92  hr6 hr23 hx1 hx2 hx3 hx4 hx5 hx6 h
    · rw [if_neg c114] at h
      refine xe_alr (ins := .aload_n 0) (len := 1) (i := 0) (by decide +kernel) rfl rfl rfl rfl rfl ?_
      refine xe_ldn (ins := .iload 6) (len := 2) (by decide +kernel) rfl rfl rfl rfl ?_
      refine xe_ldn (ins := .iload_n 2) (len := 1) (by decide +kernel) rfl rfl rfl rfl ?_
      obtain ⟨_, e116, h⟩ := xbnd h
      obtain ⟨R117, e115, h⟩ := xbnd h
      refine xs_cv (i := 85) (j := 94) (ar := [xI (x2), xI (x6)]) (rest := []) (r2 := xr_94) (by decide +kernel) (by decide +kernel) (by decide +kernel) xr_94_e rfl (by decide) (by decide) e116 ?_
      refine xc_i (k94 (d := d + 0)  hx6 hx2 e115) rfl (fun hi118 => ?_)
      refine xe_iconst (n := -1) (by decide +kernel) rfl ?_
      refine xe_icmpeq (off := 43) (t := 92) (by decide +kernel) (by decide) rfl hi118 (show xin (-1) by decide) (fun c119 => ?_) (fun c119 => ?_)
      · rw [if_pos c119] at h
        refine xW_lv rfl (l := [(0, xR_ (x0)), (1, xI (x1)), (2, xI (x2)), (3, xI (x3)), (4, xI (x4)), (5, xI (x5)), (6, xI (x6))]) (xsb_of ⟨rfl, rfl, rfl, rfl, rfl, rfl, rfl, trivial⟩ (show [0, 1, 2, 3, 4, 5, 6].Nodup by decide)) ?_
        exact k96_92  hr6 hr23 hx1 hx2 hx3 hx4 hx5 hx6 h
      · rw [if_neg c119] at h
        refine xe_alr (ins := .aload_n 0) (len := 1) (i := 0) (by decide +kernel) rfl rfl rfl rfl rfl ?_
        obtain ⟨v120, e121, h⟩ := xbnd h
        refine xs_gr (i := 22) (c := 6) (k := 9) (by decide +kernel) (by decide) (by decide +kernel) e121 rfl ?_
        refine xe_ldn (ins := .iload 6) (len := 2) (by decide +kernel) rfl rfl rfl rfl ?_
        obtain ⟨v122, e123, h⟩ := xbnd h
        refine xs_iald rfl (by decide +kernel) hx6 e123 rfl ?_
        refine xe_bipush (n := 15) (by decide +kernel) (by decide) rfl ?_
        refine xe_icmpne (off := 13) (t := 74) (by decide +kernel) (by decide) rfl (xq_ai_in e123) (show xin (15) by decide) (fun c124 => ?_) (fun c124 => ?_)
        · rw [if_pos c124] at h
          refine xe_iconst (n := 5) (by decide +kernel) rfl ?_
          refine xW_lv rfl (l := [(0, xR_ (x0)), (1, xI (x1)), (2, xI (x2)), (3, xI (x3)), (4, xI (x4)), (5, xI (x5)), (6, xI (x6))]) (xsb_of ⟨rfl, rfl, rfl, rfl, rfl, rfl, rfl, trivial⟩ (show [0, 1, 2, 3, 4, 5, 6].Nodup by decide)) ?_
          exact k96_75  hr6 hr23 hx1 hx2 hx3 hx4 hx5 hx6 (show xin (5) by decide) h
        · rw [if_neg c124] at h
          refine xe_alr (ins := .aload_n 0) (len := 1) (i := 0) (by decide +kernel) rfl rfl rfl rfl rfl ?_
          refine xe_ldn (ins := .iload 6) (len := 2) (by decide +kernel) rfl rfl rfl rfl ?_
          refine xe_ldn (ins := .iload_n 2) (len := 1) (by decide +kernel) rfl rfl rfl rfl ?_
          obtain ⟨_, e126, h⟩ := xbnd h
          obtain ⟨R127, e125, h⟩ := xbnd h
          refine xs_cv (i := 92) (j := 97) (ar := [xI (x2), xI (x6)]) (rest := []) (r2 := xr_97) (by decide +kernel) (by decide +kernel) (by decide +kernel) xr_97_e rfl (by decide) (by decide) e126 ?_
          refine xc_i (k97 (d := d + 2)  hx6 hx2 e125) rfl (fun hi128 => ?_)
          refine xe_goto (off := 4) (nx := 75) (by decide +kernel) (by decide) ?_
          refine xW_lv rfl (l := [(0, xR_ (x0)), (1, xI (x1)), (2, xI (x2)), (3, xI (x3)), (4, xI (x4)), (5, xI (x5)), (6, xI (x6))]) (xsb_of ⟨rfl, rfl, rfl, rfl, rfl, rfl, rfl, trivial⟩ (show [0, 1, 2, 3, 4, 5, 6].Nodup by decide)) ?_
          exact k96_75  hr6 hr23 hx1 hx2 hx3 hx4 hx5 hx6 hi128 h
def f96_23  (r6 : Nat → Int → Int → Int → xj_M → Option (xj_M)) (f : Nat) : Nat → Nat → Int → Int → Int → Int → Int → Int → xj_M → Option (xj_M)
  | 0, _, _, _, _, _, _, _, _ => none
  | n + 1, x0, x1, x2, x3, x4, x5, x6, M => f96_23b  r6 (f96_23  r6 f n) f x0 x1 x2 x3 x4 x5 x6 M
theorem k96_23 {d f : Nat}  {r6 : Nat → Int → Int → Int → xj_M → Option (xj_M)}  (hr6 : ∀ {x0 : Nat} {x1 : Int} {x2 : Int} {x3 : Int} {M : xj_M} {R : xj_M}, xin x1 → xin x2 → xin x3 → r6 x0 x1 x2 x3 M = some R → xW (d + 3) (none, d + 3, none) xr_96 (6, [(0, xR_ x0), (1, xI x1), (2, xI x2), (3, xI x3)], [], M) (xQv R)) : ∀ {n : Nat} {x0 : Nat} {x1 : Int} {x2 : Int} {x3 : Int} {x4 : Int} {x5 : Int} {x6 : Int} {M : xj_M} {R : xj_M}, xin x1 → xin x2 → xin x3 → xin x4 → xin x5 → xin x6 → f96_23  r6 f n x0 x1 x2 x3 x4 x5 x6 M = some R → xW (d + 3) (none, d + 3, none) xr_96 (23, [(0, xR_ x0), (1, xI x1), (2, xI x2), (3, xI x3), (4, xI x4), (5, xI x5), (6, xI x6)], [], M) (xQv R) := by
  intro n
  induction n with
  | zero => intros; rename_i h; cases h
  | succ n ih => intros; rename_i h; exact k96_23b  hr6 ih (by assumption) (by assumption) (by assumption) (by assumption) (by assumption) (by assumption) h
def f96_170b  (r170 : Nat → Int → Int → xj_M → Option (xj_M)) (f : Nat) (x0 : Nat) (x3 : Int) (x4 : Int) (M : xj_M) : Option (xj_M) := (if (x4) < 0 then (some M) else ((xq_gr 6 19 (x0) M).bind fun v130 => ((xq_si (v130) (x4) (x3) M).bind fun M132 => ((xq_gr 6 18 (x0) M132).bind fun v134 => ((xq_ai 3 (v134) (x4) M132).bind fun v136 => ((xq_is 6 (x0) M132).bind fun _ => ((f93  f (x0) (v136) M132).bind fun R140 => r170 (x0) (xor_ (x3) (R140.1)) (xwr ((x4) + (-1))) R140.2)))))))
theorem k96_170b {d f : Nat}  {r170 : Nat → Int → Int → xj_M → Option (xj_M)}  (hr170 : ∀ {x0 : Nat} {x3 : Int} {x4 : Int} {M : xj_M} {R : xj_M}, xin x3 → xin x4 → r170 x0 x3 x4 M = some R → xW (d + 3) (none, d + 3, none) xr_96 (170, [(0, xR_ x0), (3, xI x3), (4, xI x4)], [], M) (xQv R)) {x0 : Nat} {x3 : Int} {x4 : Int} {M : xj_M} {R : xj_M} (hx3 : xin x3) (hx4 : xin x4) (h : f96_170b  r170 f x0 x3 x4 M = some R) : xW (d + 3) (none, d + 3, none) xr_96 (170, [(0, xR_ x0), (3, xI x3), (4, xI x4)], [], M) (xQv R) := by
  unfold f96_170b at h
  refine xe_ldn (ins := .iload 4) (len := 2) (by decide +kernel) rfl rfl rfl rfl ?_
  refine xe_iflt (off := 31) (t := 203) (by decide +kernel) (by decide) rfl hx4 (fun c129 => ?_) (fun c129 => ?_)
  · rw [if_pos c129] at h
    cases h
    exact xe_ret_v (by decide +kernel) rfl ⟨rfl, rfl⟩
  · rw [if_neg c129] at h
    refine xe_alr (ins := .aload_n 0) (len := 1) (i := 0) (by decide +kernel) rfl rfl rfl rfl rfl ?_
    obtain ⟨v130, e131, h⟩ := xbnd h
    refine xs_gr (i := 47) (c := 6) (k := 19) (by decide +kernel) (by decide) (by decide +kernel) e131 rfl ?_
    refine xe_ldn (ins := .iload 4) (len := 2) (by decide +kernel) rfl rfl rfl rfl ?_
    refine xe_ldn (ins := .iload_n 3) (len := 1) (by decide +kernel) rfl rfl rfl rfl ?_
    obtain ⟨M132, e133, h⟩ := xbnd h
    refine xs_iast (by decide +kernel) hx4 e133 rfl ?_
    refine xe_ldn (ins := .iload_n 3) (len := 1) (by decide +kernel) rfl rfl rfl rfl ?_
    refine xe_alr (ins := .aload_n 0) (len := 1) (i := 0) (by decide +kernel) rfl rfl rfl rfl rfl ?_
    refine xe_alr (ins := .aload_n 0) (len := 1) (i := 0) (by decide +kernel) rfl rfl rfl rfl rfl ?_
    obtain ⟨v134, e135, h⟩ := xbnd h
    refine xs_gr (i := 44) (c := 6) (k := 18) (by decide +kernel) (by decide) (by decide +kernel) e135 rfl ?_
    refine xe_ldn (ins := .iload 4) (len := 2) (by decide +kernel) rfl rfl rfl rfl ?_
    obtain ⟨v136, e137, h⟩ := xbnd h
    refine xs_iald rfl (by decide +kernel) hx4 e137 rfl ?_
    obtain ⟨_, e139, h⟩ := xbnd h
    obtain ⟨R140, e138, h⟩ := xbnd h
    refine xs_cv (i := 79) (j := 93) (ar := [xI (v136)]) (rest := [xI (x3)]) (r2 := xr_93) (by decide +kernel) (by decide +kernel) (by decide +kernel) xr_93_e rfl (by decide) (by simp only [List.map_cons, List.map_nil, List.sum_cons, List.sum_nil, xR_cat, xI_cat, xZ_cat]; decide) e139 ?_
    refine xc_i (k93 (d := d + 1)  (xq_ai_in e137) e138) rfl (fun hi141 => ?_)
    refine xe_ior (by decide +kernel) rfl ?_
    refine xe_isr (ins := .istore_n 3) (len := 1) (i := 3) (by decide +kernel) rfl rfl rfl (by decide) (xk_k (show ¬ (0 : Nat) = 3 by decide) (Or.inl (show ¬ (0 + 1 : Nat) = 3 by decide)) (xk_d rfl (xk_k (show ¬ (4 : Nat) = 3 by decide) (Or.inl (show ¬ (4 + 1 : Nat) = 3 by decide)) xk_n))) rfl ?_
    refine xe_iincr (i := 4) (n := -1) (by decide +kernel) (by decide) rfl (xk_k (show ¬ (3 : Nat) = 4 by decide) (Or.inr (xI_cat _)) (xk_k (show ¬ (0 : Nat) = 4 by decide) (Or.inl (show ¬ (0 + 1 : Nat) = 4 by decide)) (xk_d rfl xk_n))) rfl ?_
    refine xe_goto (off := -30) (nx := 170) (by decide +kernel) (by decide) ?_
    refine xW_lv rfl (l := [(0, xR_ (x0)), (3, xI (xor_ (x3) (R140.1))), (4, xI (xwr ((x4) + (-1))))]) (xsb_of ⟨rfl, rfl, rfl, trivial⟩ (show [4, 3, 0].Nodup by decide)) ?_
    exact hr170 (xin_of _) (xin_wr _) h
def f96_170   (f : Nat) : Nat → Nat → Int → Int → xj_M → Option (xj_M)
  | 0, _, _, _, _ => none
  | n + 1, x0, x3, x4, M => f96_170b   (f96_170   f n) f x0 x3 x4 M
theorem k96_170 {d f : Nat}     : ∀ {n : Nat} {x0 : Nat} {x3 : Int} {x4 : Int} {M : xj_M} {R : xj_M}, xin x3 → xin x4 → f96_170   f n x0 x3 x4 M = some R → xW (d + 3) (none, d + 3, none) xr_96 (170, [(0, xR_ x0), (3, xI x3), (4, xI x4)], [], M) (xQv R) := by
  intro n
  induction n with
  | zero => intros; rename_i h; cases h
  | succ n ih => intros; rename_i h; exact k96_170b   ih (by assumption) (by assumption) h
def f96_138b  (r138 : Nat → Int → Int → xj_M → Option (xj_M)) (f : Nat) (x0 : Nat) (x3 : Int) (x4 : Int) (M : xj_M) : Option (xj_M) := ((xq_gi 6 2 (x0) M).bind fun v142 => (if (v142) ≤ (x4) then ((xq_gi 6 8 (x0) M).bind fun v145 => f96_170   f f (x0) (x3) (xwr ((v145) - (1))) M) else ((xq_is 6 (x0) M).bind fun _ => ((f92  f (x0) (x4) M).bind fun R149 => r138 (x0) (xor_ (x3) (R149.1)) (xwr ((x4) + (1))) R149.2))))
theorem k96_138b {d f : Nat}  {r138 : Nat → Int → Int → xj_M → Option (xj_M)}  (hr138 : ∀ {x0 : Nat} {x3 : Int} {x4 : Int} {M : xj_M} {R : xj_M}, xin x3 → xin x4 → r138 x0 x3 x4 M = some R → xW (d + 3) (none, d + 3, none) xr_96 (138, [(0, xR_ x0), (3, xI x3), (4, xI x4)], [], M) (xQv R)) {x0 : Nat} {x3 : Int} {x4 : Int} {M : xj_M} {R : xj_M} (hx3 : xin x3) (hx4 : xin x4) (h : f96_138b  r138 f x0 x3 x4 M = some R) : xW (d + 3) (none, d + 3, none) xr_96 (138, [(0, xR_ x0), (3, xI x3), (4, xI x4)], [], M) (xQv R) := by
  unfold f96_138b at h
  refine xe_ldn (ins := .iload 4) (len := 2) (by decide +kernel) rfl rfl rfl rfl ?_
  refine xe_alr (ins := .aload_n 0) (len := 1) (i := 0) (by decide +kernel) rfl rfl rfl rfl rfl ?_
  obtain ⟨v142, e143, h⟩ := xbnd h
  refine xs_gi (i := 95) (c := 6) (k := 2) (by decide +kernel) (by decide) (by decide +kernel) e143 rfl ?_
  refine xe_icmpge (off := 18) (t := 162) (by decide +kernel) (by decide) rfl hx4 (xq_gi_in e143) (fun c144 => ?_) (fun c144 => ?_)
  · rw [if_pos c144] at h
    refine xe_alr (ins := .aload_n 0) (len := 1) (i := 0) (by decide +kernel) rfl rfl rfl rfl rfl ?_
    obtain ⟨v145, e146, h⟩ := xbnd h
    refine xs_gi (i := 68) (c := 6) (k := 8) (by decide +kernel) (by decide) (by decide +kernel) e146 rfl ?_
    refine xe_iconst (n := 1) (by decide +kernel) rfl ?_
    refine xe_isub (by decide +kernel) rfl ?_
    refine xe_isr (ins := .istore 4) (len := 2) (i := 4) (by decide +kernel) rfl rfl rfl (by decide) (xk_k (show ¬ (0 : Nat) = 4 by decide) (Or.inl (show ¬ (0 + 1 : Nat) = 4 by decide)) (xk_k (show ¬ (3 : Nat) = 4 by decide) (Or.inr (xI_cat _)) (xk_d rfl xk_n))) rfl ?_
    refine xW_lv rfl (l := [(0, xR_ (x0)), (3, xI (x3)), (4, xI (xwr ((v145) - (1))))]) (xsb_of ⟨rfl, rfl, rfl, trivial⟩ (show [4, 0, 3].Nodup by decide)) ?_
    exact k96_170   hx3 (xin_wr _) h
  · rw [if_neg c144] at h
    refine xe_ldn (ins := .iload_n 3) (len := 1) (by decide +kernel) rfl rfl rfl rfl ?_
    refine xe_alr (ins := .aload_n 0) (len := 1) (i := 0) (by decide +kernel) rfl rfl rfl rfl rfl ?_
    refine xe_ldn (ins := .iload 4) (len := 2) (by decide +kernel) rfl rfl rfl rfl ?_
    obtain ⟨_, e148, h⟩ := xbnd h
    obtain ⟨R149, e147, h⟩ := xbnd h
    refine xs_cv (i := 75) (j := 92) (ar := [xI (x4)]) (rest := [xI (x3)]) (r2 := xr_92) (by decide +kernel) (by decide +kernel) (by decide +kernel) xr_92_e rfl (by decide) (by simp only [List.map_cons, List.map_nil, List.sum_cons, List.sum_nil, xR_cat, xI_cat, xZ_cat]; decide) e148 ?_
    refine xc_i (k92 (d := d + 2)  hx4 e147) rfl (fun hi150 => ?_)
    refine xe_ior (by decide +kernel) rfl ?_
    refine xe_isr (ins := .istore_n 3) (len := 1) (i := 3) (by decide +kernel) rfl rfl rfl (by decide) (xk_k (show ¬ (0 : Nat) = 3 by decide) (Or.inl (show ¬ (0 + 1 : Nat) = 3 by decide)) (xk_d rfl (xk_k (show ¬ (4 : Nat) = 3 by decide) (Or.inl (show ¬ (4 + 1 : Nat) = 3 by decide)) xk_n))) rfl ?_
    refine xe_iincr (i := 4) (n := 1) (by decide +kernel) (by decide) rfl (xk_k (show ¬ (3 : Nat) = 4 by decide) (Or.inr (xI_cat _)) (xk_k (show ¬ (0 : Nat) = 4 by decide) (Or.inl (show ¬ (0 + 1 : Nat) = 4 by decide)) (xk_d rfl xk_n))) rfl ?_
    refine xe_goto (off := -21) (nx := 138) (by decide +kernel) (by decide) ?_
    refine xW_lv rfl (l := [(0, xR_ (x0)), (3, xI (xor_ (x3) (R149.1))), (4, xI (xwr ((x4) + (1))))]) (xsb_of ⟨rfl, rfl, rfl, trivial⟩ (show [4, 3, 0].Nodup by decide)) ?_
    exact hr138 (xin_of _) (xin_wr _) h
def f96_138   (f : Nat) : Nat → Nat → Int → Int → xj_M → Option (xj_M)
  | 0, _, _, _, _ => none
  | n + 1, x0, x3, x4, M => f96_138b   (f96_138   f n) f x0 x3 x4 M
theorem k96_138 {d f : Nat}     : ∀ {n : Nat} {x0 : Nat} {x3 : Int} {x4 : Int} {M : xj_M} {R : xj_M}, xin x3 → xin x4 → f96_138   f n x0 x3 x4 M = some R → xW (d + 3) (none, d + 3, none) xr_96 (138, [(0, xR_ x0), (3, xI x3), (4, xI x4)], [], M) (xQv R) := by
  intro n
  induction n with
  | zero => intros; rename_i h; cases h
  | succ n ih => intros; rename_i h; exact k96_138b   ih (by assumption) (by assumption) h
def f96_6b  (r6 : Nat → Int → Int → Int → xj_M → Option (xj_M)) (f : Nat) (x0 : Nat) (x1 : Int) (x2 : Int) (x3 : Int) (M : xj_M) : Option (xj_M) := ((xq_gi 6 8 (x0) M).bind fun v151 => (if (v151) ≤ (x3) then f96_138   f f (x0) (0) (0) M else f96_23  r6 f f (x0) (x1) (x2) (x3) (-1) (-1) (0) M))
theorem k96_6b {d f : Nat}  {r6 : Nat → Int → Int → Int → xj_M → Option (xj_M)}  (hr6 : ∀ {x0 : Nat} {x1 : Int} {x2 : Int} {x3 : Int} {M : xj_M} {R : xj_M}, xin x1 → xin x2 → xin x3 → r6 x0 x1 x2 x3 M = some R → xW (d + 3) (none, d + 3, none) xr_96 (6, [(0, xR_ x0), (1, xI x1), (2, xI x2), (3, xI x3)], [], M) (xQv R)) {x0 : Nat} {x1 : Int} {x2 : Int} {x3 : Int} {M : xj_M} {R : xj_M} (hx1 : xin x1) (hx2 : xin x2) (hx3 : xin x3) (h : f96_6b  r6 f x0 x1 x2 x3 M = some R) : xW (d + 3) (none, d + 3, none) xr_96 (6, [(0, xR_ x0), (1, xI x1), (2, xI x2), (3, xI x3)], [], M) (xQv R) := by
  unfold f96_6b at h
  refine xe_ldn (ins := .iload_n 3) (len := 1) (by decide +kernel) rfl rfl rfl rfl ?_
  refine xe_alr (ins := .aload_n 0) (len := 1) (i := 0) (by decide +kernel) rfl rfl rfl rfl rfl ?_
  obtain ⟨v151, e152, h⟩ := xbnd h
  refine xs_gi (i := 68) (c := 6) (k := 8) (by decide +kernel) (by decide) (by decide +kernel) e152 rfl ?_
  refine xe_icmpge (off := 122) (t := 133) (by decide +kernel) (by decide) rfl hx3 (xq_gi_in e152) (fun c153 => ?_) (fun c153 => ?_)
  · rw [if_pos c153] at h
    refine xe_iconst (n := 0) (by decide +kernel) rfl ?_
    refine xe_isr (ins := .istore_n 3) (len := 1) (i := 3) (by decide +kernel) rfl rfl rfl (by decide) (xk_k (show ¬ (0 : Nat) = 3 by decide) (Or.inl (show ¬ (0 + 1 : Nat) = 3 by decide)) (xk_k (show ¬ (1 : Nat) = 3 by decide) (Or.inl (show ¬ (1 + 1 : Nat) = 3 by decide)) (xk_k (show ¬ (2 : Nat) = 3 by decide) (Or.inr (xI_cat _)) (xk_d rfl xk_n)))) rfl ?_
    refine xe_iconst (n := 0) (by decide +kernel) rfl ?_
    refine xe_isr (ins := .istore 4) (len := 2) (i := 4) (by decide +kernel) rfl rfl rfl (by decide) (xk_k (show ¬ (3 : Nat) = 4 by decide) (Or.inr (xI_cat _)) (xk_k (show ¬ (0 : Nat) = 4 by decide) (Or.inl (show ¬ (0 + 1 : Nat) = 4 by decide)) (xk_k (show ¬ (1 : Nat) = 4 by decide) (Or.inl (show ¬ (1 + 1 : Nat) = 4 by decide)) (xk_k (show ¬ (2 : Nat) = 4 by decide) (Or.inl (show ¬ (2 + 1 : Nat) = 4 by decide)) xk_n)))) rfl ?_
    refine xW_lv rfl (l := [(0, xR_ (x0)), (3, xI (0)), (4, xI (0))]) (xsb_of ⟨rfl, rfl, rfl, trivial⟩ (show [4, 3, 0, 1, 2].Nodup by decide)) ?_
    exact k96_138   (show xin (0) by decide) (show xin (0) by decide) h
  · rw [if_neg c153] at h
    refine xe_iconst (n := -1) (by decide +kernel) rfl ?_
    refine xe_isr (ins := .istore 4) (len := 2) (i := 4) (by decide +kernel) rfl rfl rfl (by decide) (xk_k (show ¬ (0 : Nat) = 4 by decide) (Or.inl (show ¬ (0 + 1 : Nat) = 4 by decide)) (xk_k (show ¬ (1 : Nat) = 4 by decide) (Or.inl (show ¬ (1 + 1 : Nat) = 4 by decide)) (xk_k (show ¬ (2 : Nat) = 4 by decide) (Or.inl (show ¬ (2 + 1 : Nat) = 4 by decide)) (xk_k (show ¬ (3 : Nat) = 4 by decide) (Or.inr (xI_cat _)) xk_n)))) rfl ?_
    refine xe_iconst (n := -1) (by decide +kernel) rfl ?_
    refine xe_isr (ins := .istore 5) (len := 2) (i := 5) (by decide +kernel) rfl rfl rfl (by decide) (xk_k (show ¬ (4 : Nat) = 5 by decide) (Or.inr (xI_cat _)) (xk_k (show ¬ (0 : Nat) = 5 by decide) (Or.inl (show ¬ (0 + 1 : Nat) = 5 by decide)) (xk_k (show ¬ (1 : Nat) = 5 by decide) (Or.inl (show ¬ (1 + 1 : Nat) = 5 by decide)) (xk_k (show ¬ (2 : Nat) = 5 by decide) (Or.inl (show ¬ (2 + 1 : Nat) = 5 by decide)) (xk_k (show ¬ (3 : Nat) = 5 by decide) (Or.inl (show ¬ (3 + 1 : Nat) = 5 by decide)) xk_n))))) rfl ?_
    refine xe_iconst (n := 0) (by decide +kernel) rfl ?_
    refine xe_isr (ins := .istore 6) (len := 2) (i := 6) (by decide +kernel) rfl rfl rfl (by decide) (xk_k (show ¬ (5 : Nat) = 6 by decide) (Or.inr (xI_cat _)) (xk_k (show ¬ (4 : Nat) = 6 by decide) (Or.inl (show ¬ (4 + 1 : Nat) = 6 by decide)) (xk_k (show ¬ (0 : Nat) = 6 by decide) (Or.inl (show ¬ (0 + 1 : Nat) = 6 by decide)) (xk_k (show ¬ (1 : Nat) = 6 by decide) (Or.inl (show ¬ (1 + 1 : Nat) = 6 by decide)) (xk_k (show ¬ (2 : Nat) = 6 by decide) (Or.inl (show ¬ (2 + 1 : Nat) = 6 by decide)) (xk_k (show ¬ (3 : Nat) = 6 by decide) (Or.inl (show ¬ (3 + 1 : Nat) = 6 by decide)) xk_n)))))) rfl ?_
    refine xW_lv rfl (l := [(0, xR_ (x0)), (1, xI (x1)), (2, xI (x2)), (3, xI (x3)), (4, xI (-1)), (5, xI (-1)), (6, xI (0))]) (xsb_of ⟨rfl, rfl, rfl, rfl, rfl, rfl, rfl, trivial⟩ (show [6, 5, 4, 0, 1, 2, 3].Nodup by decide)) ?_
    exact k96_23  hr6 hx1 hx2 hx3 (show xin (-1) by decide) (show xin (-1) by decide) (show xin (0) by decide) h
def f96_6   (f : Nat) : Nat → Nat → Int → Int → Int → xj_M → Option (xj_M)
  | 0, _, _, _, _, _ => none
  | n + 1, x0, x1, x2, x3, M => f96_6b   (f96_6   f n) f x0 x1 x2 x3 M
theorem k96_6 {d f : Nat}     : ∀ {n : Nat} {x0 : Nat} {x1 : Int} {x2 : Int} {x3 : Int} {M : xj_M} {R : xj_M}, xin x1 → xin x2 → xin x3 → f96_6   f n x0 x1 x2 x3 M = some R → xW (d + 3) (none, d + 3, none) xr_96 (6, [(0, xR_ x0), (1, xI x1), (2, xI x2), (3, xI x3)], [], M) (xQv R) := by
  intro n
  induction n with
  | zero => intros; rename_i h; cases h
  | succ n ih => intros; rename_i h; exact k96_6b   ih (by assumption) (by assumption) (by assumption) h
def f96  (f : Nat) (a0 : Nat) (M : xj_M) : Option (xj_M) := f96_6   f f (a0) (0) (0) (0) M
theorem k96 {d f : Nat}   {a0 : Nat} {M : xj_M} {R : xj_M}  (h : f96  f a0 M = some R) : xT (d + 4) 96 [xR_ a0] M (xQv R) := by
  refine xT_m xr_96_e (X := (none, d + 3, none)) rfl (xa_1 (xR_cat _) xa_n) (by decide) ?_
  unfold f96 at h
  refine xe_iconst (n := 0) (by decide +kernel) rfl ?_
  refine xe_isr (ins := .istore_n 1) (len := 1) (i := 1) (by decide +kernel) rfl rfl rfl (by decide) (xk_k (show ¬ (0 : Nat) = 1 by decide) (Or.inr (xR_cat _)) xk_n) rfl ?_
  refine xe_iconst (n := 0) (by decide +kernel) rfl ?_
  refine xe_isr (ins := .istore_n 2) (len := 1) (i := 2) (by decide +kernel) rfl rfl rfl (by decide) (xk_k (show ¬ (1 : Nat) = 2 by decide) (Or.inr (xI_cat _)) (xk_k (show ¬ (0 : Nat) = 2 by decide) (Or.inl (show ¬ (0 + 1 : Nat) = 2 by decide)) xk_n)) rfl ?_
  refine xe_iconst (n := 0) (by decide +kernel) rfl ?_
  refine xe_isr (ins := .istore_n 3) (len := 1) (i := 3) (by decide +kernel) rfl rfl rfl (by decide) (xk_k (show ¬ (2 : Nat) = 3 by decide) (Or.inr (xI_cat _)) (xk_k (show ¬ (1 : Nat) = 3 by decide) (Or.inl (show ¬ (1 + 1 : Nat) = 3 by decide)) (xk_k (show ¬ (0 : Nat) = 3 by decide) (Or.inl (show ¬ (0 + 1 : Nat) = 3 by decide)) xk_n))) rfl ?_
  refine xW_lv rfl (l := [(0, xR_ (a0)), (1, xI (0)), (2, xI (0)), (3, xI (0))]) (xsb_of ⟨rfl, rfl, rfl, rfl, trivial⟩ (show [3, 2, 1, 0].Nodup by decide)) ?_
  exact k96_6   (show xin (0) by decide) (show xin (0) by decide) (show xin (0) by decide) h
