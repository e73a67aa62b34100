/-! Mirrors (written by mk_mir.py) -/
-- ChangeHouseModel.holds
def xr_279 : xj_mR := (15, yX15_holds, cX15_holds, 3, (Option.some Jvm.ClassFile.FieldType.boolean), 0, false, (9, 207), (1, 12))
set_option maxRecDepth 20000 in
theorem xr_279_e : xj_row 279 = some xr_279 := rfl
def f279_74  (r2 : Nat → Int → xj_M → Option (Int × xj_M)) (f : Nat) (x0 : Nat) (x1 : Int) (M : xj_M) : Option (Int × xj_M) := r2 (x0) (xwr ((x1) + (1))) M
theorem k279_74 {d f : Nat}  {r2 : Nat → Int → xj_M → Option (Int × xj_M)}  (hr2 : ∀ {x0 : Nat} {x1 : Int} {M : xj_M} {R : Int × xj_M}, xin x1 → r2 x0 x1 M = some R → xW (d + 4) (none, d + 4, none) xr_279 (2, [(0, xR_ x0), (1, xI x1)], [], M) (xQi R)) {x0 : Nat} {x1 : Int} {M : xj_M} {R : Int × xj_M} (hx1 : xin x1) (h : f279_74  r2 f x0 x1 M = some R) : xW (d + 4) (none, d + 4, none) xr_279 (74, [(0, xR_ x0), (1, xI x1)], [], M) (xQi R) := by
  unfold f279_74 at h
  refine xe_iincr (i := 1) (n := 1) (by decide +kernel) (by decide) rfl (xk_k (show ¬ (0 : Nat) = 1 by decide) (Or.inr (xR_cat _)) (xk_d rfl xk_n)) rfl ?_
  refine xe_goto (off := -75) (nx := 2) (by decide +kernel) (by decide) ?_
  refine xW_lv rfl (l := [(0, xR_ (x0)), (1, xI (xwr ((x1) + (1))))]) (xsb_of ⟨rfl, rfl, trivial⟩ (show [1, 0].Nodup by decide)) ?_
  exact hr2 (xin_wr _) h
def f279_51  (r2 : Nat → Int → xj_M → Option (Int × xj_M)) (f : Nat) (x0 : Nat) (x1 : Int) (x2 : Int) (M : xj_M) : Option (Int × xj_M) := ((xq_gr 15 29 (x0) M).bind fun v101 => ((xq_gr 14 27 (v101) M).bind fun v103 => ((xq_ai 3 (v103) (x2) M).bind fun v105 => (if ¬ (v105) = (3) then f279_74  r2 f (x0) (x1) M else ((xq_is 15 (x0) M).bind fun _ => ((f281  f (x0) (x2) M).bind fun R110 => (if ¬ (R110.1) = 0 then f279_74  r2 f (x0) (x1) R110.2 else (some (0, R110.2)))))))))
theorem k279_51 {d f : Nat}  {r2 : Nat → Int → xj_M → Option (Int × xj_M)}  (hr2 : ∀ {x0 : Nat} {x1 : Int} {M : xj_M} {R : Int × xj_M}, xin x1 → r2 x0 x1 M = some R → xW (d + 4) (none, d + 4, none) xr_279 (2, [(0, xR_ x0), (1, xI x1)], [], M) (xQi R)) {x0 : Nat} {x1 : Int} {x2 : Int} {M : xj_M} {R : Int × xj_M} (hx1 : xin x1) (hx2 : xin x2) (h : f279_51  r2 f x0 x1 x2 M = some R) : xW (d + 4) (none, d + 4, none) xr_279 (51, [(0, xR_ x0), (1, xI x1), (2, xI x2)], [], M) (xQi R) := by
  unfold f279_51 at h
  refine xe_alr (ins := .aload_n 0) (len := 1) (i := 0) (by decide +kernel) rfl rfl rfl rfl rfl ?_
  obtain ⟨v101, e102, h⟩ := xbnd h
  refine xs_gr (i := 439) (c := 15) (k := 29) (by decide +kernel) (by decide) (by decide +kernel) e102 rfl ?_
  obtain ⟨v103, e104, h⟩ := xbnd h
  refine xs_gr (i := 357) (c := 14) (k := 27) (by decide +kernel) (by decide) (by decide +kernel) e104 rfl ?_
  refine xe_ldn (ins := .iload_n 2) (len := 1) (by decide +kernel) rfl rfl rfl rfl ?_
  obtain ⟨v105, e106, h⟩ := xbnd h
  refine xs_iald rfl (by decide +kernel) hx2 e106 rfl ?_
  refine xe_iconst (n := 3) (by decide +kernel) rfl ?_
  refine xe_icmpne (off := 13) (t := 74) (by decide +kernel) (by decide) rfl (xq_ai_in e106) (show xin (3) by decide) (fun c107 => ?_) (fun c107 => ?_)
  · rw [if_pos c107] at h
    refine xW_lv rfl (l := [(0, xR_ (x0)), (1, xI (x1))]) (xsb_of ⟨rfl, rfl, trivial⟩ (show [0, 1, 2].Nodup by decide)) ?_
    exact k279_74  hr2 hx1 h
  · rw [if_neg c107] at h
    refine xe_alr (ins := .aload_n 0) (len := 1) (i := 0) (by decide +kernel) rfl rfl rfl rfl rfl ?_
    refine xe_ldn (ins := .iload_n 2) (len := 1) (by decide +kernel) rfl rfl rfl rfl ?_
    obtain ⟨_, e109, h⟩ := xbnd h
    obtain ⟨R110, e108, h⟩ := xbnd h
    refine xs_cv (i := 536) (j := 281) (ar := [xI (x2)]) (rest := []) (r2 := xr_281) (by decide +kernel) (by decide +kernel) (by decide +kernel) xr_281_e rfl (by decide) (by decide) e109 ?_
    refine xc_i (k281 (d := d + 0)  hx2 e108) rfl (fun hi111 => ?_)
    refine xe_ifne (off := 5) (t := 74) (by decide +kernel) (by decide) rfl hi111 (fun c112 => ?_) (fun c112 => ?_)
    · rw [if_pos c112] at h
      refine xW_lv rfl (l := [(0, xR_ (x0)), (1, xI (x1))]) (xsb_of ⟨rfl, rfl, trivial⟩ (show [0, 1, 2].Nodup by decide)) ?_
      exact k279_74  hr2 hx1 h
    · rw [if_neg c112] at h
      refine xe_iconst (n := 0) (by decide +kernel) rfl ?_
      cases h
      exact xe_ret_i (ty := .boolean) (by decide +kernel) rfl (by decide) ⟨rfl, rfl, (show xin (0) by decide)⟩
def f279_2b  (r2 : Nat → Int → xj_M → Option (Int × xj_M)) (f : Nat) (x0 : Nat) (x1 : Int) (M : xj_M) : Option (Int × xj_M) := ((xq_gr 15 29 (x0) M).bind fun v113 => ((xq_gr 14 21 (v113) M).bind fun v115 => ((xq_gi 15 39 (x0) M).bind fun v117 => ((xq_ai 3 (v115) (v117) M).bind fun v119 => (if (v119) ≤ (x1) then (some (1, M)) else ((xq_gi 15 39 (x0) M).bind fun v122 => ((xq_gr 15 29 (x0) M).bind fun v124 => ((xq_gr 14 27 (v124) M).bind fun v126 => ((xq_ai 3 (v126) (xwr ((xwr ((v122) * (8))) + (x1))) M).bind fun v128 => (if ¬ (v128) = (2) then f279_51  r2 f (x0) (x1) (xwr ((xwr ((v122) * (8))) + (x1))) M else ((xq_is 15 (x0) M).bind fun _ => ((f280  f (x0) (xwr ((xwr ((v122) * (8))) + (x1))) M).bind fun R133 => (if (R133.1) = 0 then f279_51  r2 f (x0) (x1) (xwr ((xwr ((v122) * (8))) + (x1))) R133.2 else (some (0, R133.2)))))))))))))))
theorem k279_2b {d f : Nat}  {r2 : Nat → Int → xj_M → Option (Int × xj_M)}  (hr2 : ∀ {x0 : Nat} {x1 : Int} {M : xj_M} {R : Int × xj_M}, xin x1 → r2 x0 x1 M = some R → xW (d + 4) (none, d + 4, none) xr_279 (2, [(0, xR_ x0), (1, xI x1)], [], M) (xQi R)) {x0 : Nat} {x1 : Int} {M : xj_M} {R : Int × xj_M} (hx1 : xin x1) (h : f279_2b  r2 f x0 x1 M = some R) : xW (d + 4) (none, d + 4, none) xr_279 (2, [(0, xR_ x0), (1, xI x1)], [], M) (xQi R) := by
  unfold f279_2b at h
  refine xe_ldn (ins := .iload_n 1) (len := 1) (by decide +kernel) rfl rfl rfl rfl ?_
  refine xe_alr (ins := .aload_n 0) (len := 1) (i := 0) (by decide +kernel) rfl rfl rfl rfl rfl ?_
  obtain ⟨v113, e114, h⟩ := xbnd h
  refine xs_gr (i := 439) (c := 15) (k := 29) (by decide +kernel) (by decide) (by decide +kernel) e114 rfl ?_
  obtain ⟨v115, e116, h⟩ := xbnd h
  refine xs_gr (i := 268) (c := 14) (k := 21) (by decide +kernel) (by decide) (by decide +kernel) e116 rfl ?_
  refine xe_alr (ins := .aload_n 0) (len := 1) (i := 0) (by decide +kernel) rfl rfl rfl rfl rfl ?_
  obtain ⟨v117, e118, h⟩ := xbnd h
  refine xs_gi (i := 501) (c := 15) (k := 39) (by decide +kernel) (by decide) (by decide +kernel) e118 rfl ?_
  obtain ⟨v119, e120, h⟩ := xbnd h
  refine xs_iald rfl (by decide +kernel) (xq_gi_in e118) e120 rfl ?_
  refine xe_icmpge (off := 65) (t := 80) (by decide +kernel) (by decide) rfl hx1 (xq_ai_in e120) (fun c121 => ?_) (fun c121 => ?_)
  · rw [if_pos c121] at h
    refine xe_iconst (n := 1) (by decide +kernel) rfl ?_
    cases h
    exact xe_ret_i (ty := .boolean) (by decide +kernel) rfl (by decide) ⟨rfl, rfl, (show xin (1) by decide)⟩
  · rw [if_neg c121] at h
    refine xe_alr (ins := .aload_n 0) (len := 1) (i := 0) (by decide +kernel) rfl rfl rfl rfl rfl ?_
    obtain ⟨v122, e123, h⟩ := xbnd h
    refine xs_gi (i := 501) (c := 15) (k := 39) (by decide +kernel) (by decide) (by decide +kernel) e123 rfl ?_
    refine xe_bipush (n := 8) (by decide +kernel) (by decide) rfl ?_
    refine xe_imul (by decide +kernel) rfl ?_
    refine xe_ldn (ins := .iload_n 1) (len := 1) (by decide +kernel) rfl rfl rfl rfl ?_
    refine xe_iadd (by decide +kernel) rfl ?_
    refine xe_isr (ins := .istore_n 2) (len := 1) (i := 2) (by decide +kernel) rfl rfl rfl (by decide) (xk_k (show ¬ (0 : Nat) = 2 by decide) (Or.inl (show ¬ (0 + 1 : Nat) = 2 by decide)) (xk_k (show ¬ (1 : Nat) = 2 by decide) (Or.inr (xI_cat _)) xk_n)) rfl ?_
    refine xe_alr (ins := .aload_n 0) (len := 1) (i := 0) (by decide +kernel) rfl rfl rfl rfl rfl ?_
    obtain ⟨v124, e125, h⟩ := xbnd h
    refine xs_gr (i := 439) (c := 15) (k := 29) (by decide +kernel) (by decide) (by decide +kernel) e125 rfl ?_
    obtain ⟨v126, e127, h⟩ := xbnd h
    refine xs_gr (i := 357) (c := 14) (k := 27) (by decide +kernel) (by decide) (by decide +kernel) e127 rfl ?_
    refine xe_ldn (ins := .iload_n 2) (len := 1) (by decide +kernel) rfl rfl rfl rfl ?_
    obtain ⟨v128, e129, h⟩ := xbnd h
    refine xs_iald rfl (by decide +kernel) (xin_wr _) e129 rfl ?_
    refine xe_iconst (n := 2) (by decide +kernel) rfl ?_
    refine xe_icmpne (off := 13) (t := 51) (by decide +kernel) (by decide) rfl (xq_ai_in e129) (show xin (2) by decide) (fun c130 => ?_) (fun c130 => ?_)
    · rw [if_pos c130] at h
      refine xW_lv rfl (l := [(0, xR_ (x0)), (1, xI (x1)), (2, xI (xwr ((xwr ((v122) * (8))) + (x1))))]) (xsb_of ⟨rfl, rfl, rfl, trivial⟩ (show [2, 0, 1].Nodup by decide)) ?_
      exact k279_51  hr2 hx1 (xin_wr _) h
    · rw [if_neg c130] at h
      refine xe_alr (ins := .aload_n 0) (len := 1) (i := 0) (by decide +kernel) rfl rfl rfl rfl rfl ?_
      refine xe_ldn (ins := .iload_n 2) (len := 1) (by decide +kernel) rfl rfl rfl rfl ?_
      obtain ⟨_, e132, h⟩ := xbnd h
      obtain ⟨R133, e131, h⟩ := xbnd h
      refine xs_cv (i := 533) (j := 280) (ar := [xI (xwr ((xwr ((v122) * (8))) + (x1)))]) (rest := []) (r2 := xr_280) (by decide +kernel) (by decide +kernel) (by decide +kernel) xr_280_e rfl (by decide) (by decide) e132 ?_
      refine xc_i (k280 (d := d + 1)  (xin_wr _) e131) rfl (fun hi134 => ?_)
      refine xe_ifeq (off := 5) (t := 51) (by decide +kernel) (by decide) rfl hi134 (fun c135 => ?_) (fun c135 => ?_)
      · rw [if_pos c135] at h
        refine xW_lv rfl (l := [(0, xR_ (x0)), (1, xI (x1)), (2, xI (xwr ((xwr ((v122) * (8))) + (x1))))]) (xsb_of ⟨rfl, rfl, rfl, trivial⟩ (show [2, 0, 1].Nodup by decide)) ?_
        exact k279_51  hr2 hx1 (xin_wr _) h
      · rw [if_neg c135] at h
        refine xe_iconst (n := 0) (by decide +kernel) rfl ?_
        cases h
        exact xe_ret_i (ty := .boolean) (by decide +kernel) rfl (by decide) ⟨rfl, rfl, (show xin (0) by decide)⟩
def f279_2   (f : Nat) : Nat → Nat → Int → xj_M → Option (Int × xj_M)
  | 0, _, _, _ => none
  | n + 1, x0, x1, M => f279_2b   (f279_2   f n) f x0 x1 M
theorem k279_2 {d f : Nat}     : ∀ {n : Nat} {x0 : Nat} {x1 : Int} {M : xj_M} {R : Int × xj_M}, xin x1 → f279_2   f n x0 x1 M = some R → xW (d + 4) (none, d + 4, none) xr_279 (2, [(0, xR_ x0), (1, xI x1)], [], M) (xQi R) := by
  intro n
  induction n with
  | zero => intros; rename_i h; cases h
  | succ n ih => intros; rename_i h; exact k279_2b   ih (by assumption) h
def f279  (f : Nat) (a0 : Nat) (M : xj_M) : Option (Int × xj_M) := f279_2   f f (a0) (0) M
theorem k279 {d f : Nat}   {a0 : Nat} {M : xj_M} {R : Int × xj_M}  (h : f279  f a0 M = some R) : xT (d + 5) 279 [xR_ a0] M (xQi R) := by
  refine xT_m xr_279_e (X := (none, d + 4, none)) rfl (xa_1 (xR_cat _) xa_n) (by decide) ?_
  unfold f279 at h
  refine xe_iconst (n := 0) (by decide +kernel) rfl ?_
  refine xe_isr (ins := .istore_n 1) (len := 1) (i := 1) (by decide +kernel) rfl rfl rfl (by decide) (xk_k (show ¬ (0 : Nat) = 1 by decide) (Or.inr (xR_cat _)) xk_n) rfl ?_
  refine xW_lv rfl (l := [(0, xR_ (a0)), (1, xI (0))]) (xsb_of ⟨rfl, rfl, trivial⟩ (show [1, 0].Nodup by decide)) ?_
  exact k279_2   (show xin (0) by decide) h
/-- String.indexOf -/
def xr_387 : xj_mR := (18, yJ0_indexOf_0f7a4, cJ0_indexOf_0f7a4, 2, (Option.some Jvm.ClassFile.FieldType.int), 1, false, (4, 4), (1, 13))
set_option maxRecDepth 20000 in
theorem xr_387_e : xj_row 387 = some xr_387 := rfl
def f387  (f : Nat) (a0 : Nat) (a1 : Int) (M : xj_M) : Option (Int × xj_M) := ((xq_st (a0)).bind fun _ => ((f388  f (a0) (a1) (0) M).bind fun R103 => (some (R103.1, R103.2))))
theorem k387 {d f : Nat}   {a0 : Nat} {a1 : Int} {M : xj_M} {R : Int × xj_M} (ha1 : xin a1) (h : f387  f a0 a1 M = some R) : xT (d + 4) 387 [xR_ a0, xI a1] M (xQi R) := by
  refine xT_m xr_387_e (X := (none, d + 3, none)) rfl (xa_1 (xR_cat _) (xa_1 (xI_cat _) xa_n)) (by decide) ?_
  unfold f387 at h
  refine xe_alr (ins := .aload_n 0) (len := 1) (i := 0) (by decide +kernel) rfl rfl rfl rfl rfl ?_
  refine xe_ldn (ins := .iload_n 1) (len := 1) (by decide +kernel) rfl rfl rfl rfl ?_
  refine xe_iconst (n := 0) (by decide +kernel) rfl ?_
  obtain ⟨_, e102, h⟩ := xbnd h
  obtain ⟨R103, e101, h⟩ := xbnd h
  refine xs_cw (i := 633) (j := 388) (ar := [xI (0), xI (a1)]) (rest := []) (r2 := xr_388) (by decide +kernel) (by decide +kernel) (by decide +kernel) xr_388_e rfl (by decide) e102 ?_
  refine xc_i (k388 (d := d + 0)  ha1 (show xin (0) by decide) e101) rfl (fun hi104 => ?_)
  cases h
  exact xe_ret_i (ty := .int) (by decide +kernel) rfl rfl ⟨rfl, rfl, hi104⟩
-- ChangeHouseModel.lexSign
def xr_219 : xj_mR := (15, yX15_lexSign, cX15_lexSign, 3, (Option.none : Option Jvm.ClassFile.FieldType), 1, false, (8, 183), (1, 12))
set_option maxRecDepth 20000 in
theorem xr_219_e : xj_row 219 = some xr_219 := rfl
def f219_145   (f : Nat)  (M : xj_M) : Option (xj_M) := (some M)
theorem k219_145 {d f : Nat}      {M : xj_M} {R : xj_M}  (h : f219_145   f  M = some R) : xW (d + 4) (none, d + 4, none) xr_219 (145, [], [], M) (xQv R) := by
  unfold f219_145 at h
  cases h
  exact xe_ret_v (by decide +kernel) rfl ⟨rfl, rfl⟩
def f219_115   (f : Nat) (x0 : Nat) (x1 : Int) (M : xj_M) : Option (xj_M) := ((xq_pi 15 3 (x0) (x1) M).bind fun M101 => ((xq_gi 15 4 (x0) M101).bind fun v103 => ((xq_pi 15 5 (x0) (xwr ((v103) + (1))) M101).bind fun M105 => ((xq_st (9)).bind fun _ => ((f387  f (9) (xi2ch (x1)) M105).bind fun R109 => (if 0 ≤ (R109.1) then f219_145   f  R109.2 else ((xq_pi 15 2 (x0) (1) R109.2).bind fun M112 => f219_145   f  M112)))))))
theorem k219_115 {d f : Nat}     {x0 : Nat} {x1 : Int} {M : xj_M} {R : xj_M} (hx1 : xin x1) (h : f219_115   f x0 x1 M = some R) : xW (d + 4) (none, d + 4, none) xr_219 (115, [(0, xR_ x0), (1, xI x1)], [], M) (xQv R) := by
  unfold f219_115 at h
  refine xe_alr (ins := .aload_n 0) (len := 1) (i := 0) (by decide +kernel) rfl rfl rfl rfl rfl ?_
  refine xe_ldn (ins := .iload_n 1) (len := 1) (by decide +kernel) rfl rfl rfl rfl ?_
  obtain ⟨M101, e102, h⟩ := xbnd h
  refine xs_p (i := 105) (c := 15) (k := 3) (by decide +kernel) (by decide +kernel) (by decide +kernel) e102 rfl ?_
  refine xe_alr (ins := .aload_n 0) (len := 1) (i := 0) (by decide +kernel) rfl rfl rfl rfl rfl ?_
  refine xe_alr (ins := .aload_n 0) (len := 1) (i := 0) (by decide +kernel) rfl rfl rfl rfl rfl ?_
  obtain ⟨v103, e104, h⟩ := xbnd h
  refine xs_gi (i := 43) (c := 15) (k := 4) (by decide +kernel) (by decide) (by decide +kernel) e104 rfl ?_
  refine xe_iconst (n := 1) (by decide +kernel) rfl ?_
  refine xe_iadd (by decide +kernel) rfl ?_
  obtain ⟨M105, e106, h⟩ := xbnd h
  refine xs_p (i := 14) (c := 15) (k := 5) (by decide +kernel) (by decide +kernel) (by decide +kernel) e106 rfl ?_
  refine xe_ldcs (x := 9) (by decide) (ins := .ldc 108) (len := 2) (by decide +kernel) rfl rfl rfl rfl rfl rfl rfl ?_
  refine xe_ldn (ins := .iload_n 1) (len := 1) (by decide +kernel) rfl rfl rfl rfl ?_
  refine xe_i2c (by decide +kernel) rfl ?_
  obtain ⟨_, e108, h⟩ := xbnd h
  obtain ⟨R109, e107, h⟩ := xbnd h
  refine xs_cw (i := 110) (j := 387) (ar := [xI (xi2ch (x1))]) (rest := []) (r2 := xr_387) (by decide +kernel) (by decide +kernel) (by decide +kernel) xr_387_e rfl (by decide) e108 ?_
  refine xc_i (k387 (d := d + 0)  (xin_of _) e107) rfl (fun hi110 => ?_)
  refine xe_ifge (off := 8) (t := 145) (by decide +kernel) (by decide) rfl hi110 (fun c111 => ?_) (fun c111 => ?_)
  · rw [if_pos c111] at h
    refine xW_lv rfl (l := []) (xsb_of trivial (show [0, 1].Nodup by decide)) ?_
    exact k219_145    h
  · rw [if_neg c111] at h
    refine xe_alr (ins := .aload_n 0) (len := 1) (i := 0) (by decide +kernel) rfl rfl rfl rfl rfl ?_
    refine xe_iconst (n := 1) (by decide +kernel) rfl ?_
    obtain ⟨M112, e113, h⟩ := xbnd h
    refine xs_p (i := 46) (c := 15) (k := 2) (by decide +kernel) (by decide +kernel) (by decide +kernel) e113 rfl ?_
    refine xW_lv rfl (l := []) (xsb_of trivial (show [0, 1].Nodup by decide)) ?_
    exact k219_145    h
def f219_93   (f : Nat) (x0 : Nat) (x1 : Int) (x2 : Int) (M : xj_M) : Option (xj_M) := (if ¬ (x1) = (62) then f219_115   f (x0) (x1) M else (if ¬ (x2) = (61) then f219_115   f (x0) (x1) M else ((xq_pi 15 3 (x0) (303) M).bind fun M116 => f219_145   f  M116)))
theorem k219_93 {d f : Nat}     {x0 : Nat} {x1 : Int} {x2 : Int} {M : xj_M} {R : xj_M} (hx1 : xin x1) (hx2 : xin x2) (h : f219_93   f x0 x1 x2 M = some R) : xW (d + 4) (none, d + 4, none) xr_219 (93, [(0, xR_ x0), (1, xI x1), (2, xI x2)], [], M) (xQv R) := by
  unfold f219_93 at h
  refine xe_ldn (ins := .iload_n 1) (len := 1) (by decide +kernel) rfl rfl rfl rfl ?_
  refine xe_bipush (n := 62) (by decide +kernel) (by decide) rfl ?_
  refine xe_icmpne (off := 19) (t := 115) (by decide +kernel) (by decide) rfl hx1 (show xin (62) by decide) (fun c114 => ?_) (fun c114 => ?_)
  · rw [if_pos c114] at h
    refine xW_lv rfl (l := [(0, xR_ (x0)), (1, xI (x1))]) (xsb_of ⟨rfl, rfl, trivial⟩ (show [0, 1, 2].Nodup by decide)) ?_
    exact k219_115   hx1 h
  · rw [if_neg c114] at h
    refine xe_ldn (ins := .iload_n 2) (len := 1) (by decide +kernel) rfl rfl rfl rfl ?_
    refine xe_bipush (n := 61) (by decide +kernel) (by decide) rfl ?_
    refine xe_icmpne (off := 13) (t := 115) (by decide +kernel) (by decide) rfl hx2 (show xin (61) by decide) (fun c115 => ?_) (fun c115 => ?_)
    · rw [if_pos c115] at h
      refine xW_lv rfl (l := [(0, xR_ (x0)), (1, xI (x1))]) (xsb_of ⟨rfl, rfl, trivial⟩ (show [0, 1, 2].Nodup by decide)) ?_
      exact k219_115   hx1 h
    · rw [if_neg c115] at h
      refine xe_alr (ins := .aload_n 0) (len := 1) (i := 0) (by decide +kernel) rfl rfl rfl rfl rfl ?_
      refine xe_sipush (n := 303) (by decide +kernel) (by decide) rfl ?_
      obtain ⟨M116, e117, h⟩ := xbnd h
      refine xs_p (i := 105) (c := 15) (k := 3) (by decide +kernel) (by decide +kernel) (by decide +kernel) e117 rfl ?_
      refine xe_goto (off := 33) (nx := 145) (by decide +kernel) (by decide) ?_
      refine xW_lv rfl (l := []) (xsb_of trivial (show [0, 1, 2].Nodup by decide)) ?_
      exact k219_145    h
def f219_71   (f : Nat) (x0 : Nat) (x1 : Int) (x2 : Int) (M : xj_M) : Option (xj_M) := (if ¬ (x1) = (60) then f219_93   f (x0) (x1) (x2) M else (if ¬ (x2) = (61) then f219_93   f (x0) (x1) (x2) M else ((xq_pi 15 3 (x0) (302) M).bind fun M120 => f219_145   f  M120)))
theorem k219_71 {d f : Nat}     {x0 : Nat} {x1 : Int} {x2 : Int} {M : xj_M} {R : xj_M} (hx1 : xin x1) (hx2 : xin x2) (h : f219_71   f x0 x1 x2 M = some R) : xW (d + 4) (none, d + 4, none) xr_219 (71, [(0, xR_ x0), (1, xI x1), (2, xI x2)], [], M) (xQv R) := by
  unfold f219_71 at h
  refine xe_ldn (ins := .iload_n 1) (len := 1) (by decide +kernel) rfl rfl rfl rfl ?_
  refine xe_bipush (n := 60) (by decide +kernel) (by decide) rfl ?_
  refine xe_icmpne (off := 19) (t := 93) (by decide +kernel) (by decide) rfl hx1 (show xin (60) by decide) (fun c118 => ?_) (fun c118 => ?_)
  · rw [if_pos c118] at h
    refine xW_lv rfl (l := [(0, xR_ (x0)), (1, xI (x1)), (2, xI (x2))]) (xsb_of ⟨rfl, rfl, rfl, trivial⟩ (show [0, 1, 2].Nodup by decide)) ?_
    exact k219_93   hx1 hx2 h
  · rw [if_neg c118] at h
    refine xe_ldn (ins := .iload_n 2) (len := 1) (by decide +kernel) rfl rfl rfl rfl ?_
    refine xe_bipush (n := 61) (by decide +kernel) (by decide) rfl ?_
    refine xe_icmpne (off := 13) (t := 93) (by decide +kernel) (by decide) rfl hx2 (show xin (61) by decide) (fun c119 => ?_) (fun c119 => ?_)
    · rw [if_pos c119] at h
      refine xW_lv rfl (l := [(0, xR_ (x0)), (1, xI (x1)), (2, xI (x2))]) (xsb_of ⟨rfl, rfl, rfl, trivial⟩ (show [0, 1, 2].Nodup by decide)) ?_
      exact k219_93   hx1 hx2 h
    · rw [if_neg c119] at h
      refine xe_alr (ins := .aload_n 0) (len := 1) (i := 0) (by decide +kernel) rfl rfl rfl rfl rfl ?_
      refine xe_sipush (n := 302) (by decide +kernel) (by decide) rfl ?_
      obtain ⟨M120, e121, h⟩ := xbnd h
      refine xs_p (i := 105) (c := 15) (k := 3) (by decide +kernel) (by decide +kernel) (by decide +kernel) e121 rfl ?_
      refine xe_goto (off := 55) (nx := 145) (by decide +kernel) (by decide) ?_
      refine xW_lv rfl (l := []) (xsb_of trivial (show [0, 1, 2].Nodup by decide)) ?_
      exact k219_145    h
def f219_49   (f : Nat) (x0 : Nat) (x1 : Int) (x2 : Int) (M : xj_M) : Option (xj_M) := (if ¬ (x1) = (33) then f219_71   f (x0) (x1) (x2) M else (if ¬ (x2) = (61) then f219_71   f (x0) (x1) (x2) M else ((xq_pi 15 3 (x0) (301) M).bind fun M124 => f219_145   f  M124)))
theorem k219_49 {d f : Nat}     {x0 : Nat} {x1 : Int} {x2 : Int} {M : xj_M} {R : xj_M} (hx1 : xin x1) (hx2 : xin x2) (h : f219_49   f x0 x1 x2 M = some R) : xW (d + 4) (none, d + 4, none) xr_219 (49, [(0, xR_ x0), (1, xI x1), (2, xI x2)], [], M) (xQv R) := by
  unfold f219_49 at h
  refine xe_ldn (ins := .iload_n 1) (len := 1) (by decide +kernel) rfl rfl rfl rfl ?_
  refine xe_bipush (n := 33) (by decide +kernel) (by decide) rfl ?_
  refine xe_icmpne (off := 19) (t := 71) (by decide +kernel) (by decide) rfl hx1 (show xin (33) by decide) (fun c122 => ?_) (fun c122 => ?_)
  · rw [if_pos c122] at h
    refine xW_lv rfl (l := [(0, xR_ (x0)), (1, xI (x1)), (2, xI (x2))]) (xsb_of ⟨rfl, rfl, rfl, trivial⟩ (show [0, 1, 2].Nodup by decide)) ?_
    exact k219_71   hx1 hx2 h
  · rw [if_neg c122] at h
    refine xe_ldn (ins := .iload_n 2) (len := 1) (by decide +kernel) rfl rfl rfl rfl ?_
    refine xe_bipush (n := 61) (by decide +kernel) (by decide) rfl ?_
    refine xe_icmpne (off := 13) (t := 71) (by decide +kernel) (by decide) rfl hx2 (show xin (61) by decide) (fun c123 => ?_) (fun c123 => ?_)
    · rw [if_pos c123] at h
      refine xW_lv rfl (l := [(0, xR_ (x0)), (1, xI (x1)), (2, xI (x2))]) (xsb_of ⟨rfl, rfl, rfl, trivial⟩ (show [0, 1, 2].Nodup by decide)) ?_
      exact k219_71   hx1 hx2 h
    · rw [if_neg c123] at h
      refine xe_alr (ins := .aload_n 0) (len := 1) (i := 0) (by decide +kernel) rfl rfl rfl rfl rfl ?_
      refine xe_sipush (n := 301) (by decide +kernel) (by decide) rfl ?_
      obtain ⟨M124, e125, h⟩ := xbnd h
      refine xs_p (i := 105) (c := 15) (k := 3) (by decide +kernel) (by decide +kernel) (by decide +kernel) e125 rfl ?_
      refine xe_goto (off := 77) (nx := 145) (by decide +kernel) (by decide) ?_
      refine xW_lv rfl (l := []) (xsb_of trivial (show [0, 1, 2].Nodup by decide)) ?_
      exact k219_145    h
def f219  (f : Nat) (a0 : Nat) (a1 : Int) (M : xj_M) : Option (xj_M) := ((xq_gi 15 4 (a0) M).bind fun v126 => ((xq_is 15 (a0) M).bind fun _ => ((f209  f (a0) (xwr ((v126) + (1))) M).bind fun R130 => ((xq_pi 15 2 (a0) (6) R130.2).bind fun M132 => ((xq_gi 15 4 (a0) M132).bind fun v134 => ((xq_pi 15 5 (a0) (xwr ((v134) + (2))) M132).bind fun M136 => (if ¬ (a1) = (58) then f219_49   f (a0) (a1) (R130.1) M136 else (if ¬ (R130.1) = (45) then f219_49   f (a0) (a1) (R130.1) M136 else ((xq_pi 15 3 (a0) (300) M136).bind fun M140 => f219_145   f  M140)))))))))
theorem k219 {d f : Nat}   {a0 : Nat} {a1 : Int} {M : xj_M} {R : xj_M} (ha1 : xin a1) (h : f219  f a0 a1 M = some R) : xT (d + 5) 219 [xR_ a0, xI a1] M (xQv R) := by
  refine xT_m xr_219_e (X := (none, d + 4, none)) rfl (xa_1 (xR_cat _) (xa_1 (xI_cat _) xa_n)) (by decide) ?_
  unfold f219 at h
  refine xe_alr (ins := .aload_n 0) (len := 1) (i := 0) (by decide +kernel) rfl rfl rfl rfl rfl ?_
  refine xe_alr (ins := .aload_n 0) (len := 1) (i := 0) (by decide +kernel) rfl rfl rfl rfl rfl ?_
  obtain ⟨v126, e127, h⟩ := xbnd h
  refine xs_gi (i := 43) (c := 15) (k := 4) (by decide +kernel) (by decide) (by decide +kernel) e127 rfl ?_
  refine xe_iconst (n := 1) (by decide +kernel) rfl ?_
  refine xe_iadd (by decide +kernel) rfl ?_
  obtain ⟨_, e129, h⟩ := xbnd h
  obtain ⟨R130, e128, h⟩ := xbnd h
  refine xs_cv (i := 39) (j := 209) (ar := [xI (xwr ((v126) + (1)))]) (rest := []) (r2 := xr_209) (by decide +kernel) (by decide +kernel) (by decide +kernel) xr_209_e rfl (by decide) (by decide) e129 ?_
  refine xc_i (k209 (d := d + 3)  (xin_wr _) e128) rfl (fun hi131 => ?_)
  refine xe_isr (ins := .istore_n 2) (len := 1) (i := 2) (by decide +kernel) rfl rfl rfl (by decide) (xk_k (show ¬ (0 : Nat) = 2 by decide) (Or.inl (show ¬ (0 + 1 : Nat) = 2 by decide)) (xk_k (show ¬ (1 : Nat) = 2 by decide) (Or.inr (xI_cat _)) xk_n)) rfl ?_
  refine xe_alr (ins := .aload_n 0) (len := 1) (i := 0) (by decide +kernel) rfl rfl rfl rfl rfl ?_
  refine xe_bipush (n := 6) (by decide +kernel) (by decide) rfl ?_
  obtain ⟨M132, e133, h⟩ := xbnd h
  refine xs_p (i := 46) (c := 15) (k := 2) (by decide +kernel) (by decide +kernel) (by decide +kernel) e133 rfl ?_
  refine xe_alr (ins := .aload_n 0) (len := 1) (i := 0) (by decide +kernel) rfl rfl rfl rfl rfl ?_
  refine xe_alr (ins := .aload_n 0) (len := 1) (i := 0) (by decide +kernel) rfl rfl rfl rfl rfl ?_
  obtain ⟨v134, e135, h⟩ := xbnd h
  refine xs_gi (i := 43) (c := 15) (k := 4) (by decide +kernel) (by decide) (by decide +kernel) e135 rfl ?_
  refine xe_iconst (n := 2) (by decide +kernel) rfl ?_
  refine xe_iadd (by decide +kernel) rfl ?_
  obtain ⟨M136, e137, h⟩ := xbnd h
  refine xs_p (i := 14) (c := 15) (k := 5) (by decide +kernel) (by decide +kernel) (by decide +kernel) e137 rfl ?_
  refine xe_ldn (ins := .iload_n 1) (len := 1) (by decide +kernel) rfl rfl rfl rfl ?_
  refine xe_bipush (n := 58) (by decide +kernel) (by decide) rfl ?_
  refine xe_icmpne (off := 19) (t := 49) (by decide +kernel) (by decide) rfl ha1 (show xin (58) by decide) (fun c138 => ?_) (fun c138 => ?_)
  · rw [if_pos c138] at h
    refine xW_lv rfl (l := [(0, xR_ (a0)), (1, xI (a1)), (2, xI (R130.1))]) (xsb_of ⟨rfl, rfl, rfl, trivial⟩ (show [2, 0, 1].Nodup by decide)) ?_
    exact k219_49   ha1 hi131 h
  · rw [if_neg c138] at h
    refine xe_ldn (ins := .iload_n 2) (len := 1) (by decide +kernel) rfl rfl rfl rfl ?_
    refine xe_bipush (n := 45) (by decide +kernel) (by decide) rfl ?_
    refine xe_icmpne (off := 13) (t := 49) (by decide +kernel) (by decide) rfl hi131 (show xin (45) by decide) (fun c139 => ?_) (fun c139 => ?_)
    · rw [if_pos c139] at h
      refine xW_lv rfl (l := [(0, xR_ (a0)), (1, xI (a1)), (2, xI (R130.1))]) (xsb_of ⟨rfl, rfl, rfl, trivial⟩ (show [2, 0, 1].Nodup by decide)) ?_
      exact k219_49   ha1 hi131 h
    · rw [if_neg c139] at h
      refine xe_alr (ins := .aload_n 0) (len := 1) (i := 0) (by decide +kernel) rfl rfl rfl rfl rfl ?_
      refine xe_sipush (n := 300) (by decide +kernel) (by decide) rfl ?_
      obtain ⟨M140, e141, h⟩ := xbnd h
      refine xs_p (i := 105) (c := 15) (k := 3) (by decide +kernel) (by decide +kernel) (by decide +kernel) e141 rfl ?_
      refine xe_goto (off := 99) (nx := 145) (by decide +kernel) (by decide) ?_
      refine xW_lv rfl (l := []) (xsb_of trivial (show [2, 0, 1].Nodup by decide)) ?_
      exact k219_145    h
-- ChangeHouseModel.finishWay
def xr_276 : xj_mR := (15, yX15_finishWay, cX15_finishWay, 2, (Option.none : Option Jvm.ClassFile.FieldType), 0, false, (9, 175), (1, 12))
set_option maxRecDepth 20000 in
theorem xr_276_e : xj_row 276 = some xr_276 := rfl
def f276_23   (f : Nat) (x0 : Nat) (x1 : Int) (M : xj_M) : Option (xj_M) := ((xq_pi 15 37 (x0) (x1) M).bind fun M101 => (some M101))
theorem k276_23 {d f : Nat}     {x0 : Nat} {x1 : Int} {M : xj_M} {R : xj_M} (hx1 : xin x1) (h : f276_23   f x0 x1 M = some R) : xW (d + 5) (none, d + 5, none) xr_276 (23, [(0, xR_ x0), (1, xI x1)], [], M) (xQv R) := by
  unfold f276_23 at h
  refine xe_alr (ins := .aload_n 0) (len := 1) (i := 0) (by decide +kernel) rfl rfl rfl rfl rfl ?_
  refine xe_ldn (ins := .iload_n 1) (len := 1) (by decide +kernel) rfl rfl rfl rfl ?_
  obtain ⟨M101, e102, h⟩ := xbnd h
  refine xs_p (i := 479) (c := 15) (k := 37) (by decide +kernel) (by decide +kernel) (by decide +kernel) e102 rfl ?_
  cases h
  exact xe_ret_v (by decide +kernel) rfl ⟨rfl, rfl⟩
def f276  (f : Nat) (a0 : Nat) (M : xj_M) : Option (xj_M) := ((xq_gi 15 37 (a0) M).bind fun v103 => ((xq_is 15 (a0) M).bind fun _ => ((f277  f (a0) M).bind fun R107 => (if (R107.1) = 0 then f276_23   f (a0) (v103) R107.2 else ((xq_is 15 (a0) R107.2).bind fun _ => ((f279  f (a0) R107.2).bind fun R112 => (if (R112.1) = 0 then f276_23   f (a0) (v103) R112.2 else ((xq_is 15 (a0) R112.2).bind fun _ => ((f283  f (a0) R112.2).bind fun M117 => f276_23   f (a0) (v103) M117)))))))))
theorem k276 {d f : Nat}   {a0 : Nat} {M : xj_M} {R : xj_M}  (h : f276  f a0 M = some R) : xT (d + 6) 276 [xR_ a0] M (xQv R) := by
  refine xT_m xr_276_e (X := (none, d + 5, none)) rfl (xa_1 (xR_cat _) xa_n) (by decide) ?_
  unfold f276 at h
  refine xe_alr (ins := .aload_n 0) (len := 1) (i := 0) (by decide +kernel) rfl rfl rfl rfl rfl ?_
  obtain ⟨v103, e104, h⟩ := xbnd h
  refine xs_gi (i := 479) (c := 15) (k := 37) (by decide +kernel) (by decide) (by decide +kernel) e104 rfl ?_
  refine xe_isr (ins := .istore_n 1) (len := 1) (i := 1) (by decide +kernel) rfl rfl rfl (by decide) (xk_k (show ¬ (0 : Nat) = 1 by decide) (Or.inr (xR_cat _)) xk_n) rfl ?_
  refine xe_alr (ins := .aload_n 0) (len := 1) (i := 0) (by decide +kernel) rfl rfl rfl rfl rfl ?_
  obtain ⟨_, e106, h⟩ := xbnd h
  obtain ⟨R107, e105, h⟩ := xbnd h
  refine xs_cv (i := 517) (j := 277) (ar := []) (rest := []) (r2 := xr_277) (by decide +kernel) (by decide +kernel) (by decide +kernel) xr_277_e rfl (by decide) (by decide) e106 ?_
  refine xc_i (k277 (d := d + 0)   e105) rfl (fun hi108 => ?_)
  refine xe_ifeq (off := 14) (t := 23) (by decide +kernel) (by decide) rfl hi108 (fun c109 => ?_) (fun c109 => ?_)
  · rw [if_pos c109] at h
    refine xW_lv rfl (l := [(0, xR_ (a0)), (1, xI (v103))]) (xsb_of ⟨rfl, rfl, trivial⟩ (show [1, 0].Nodup by decide)) ?_
    exact k276_23   (xq_gi_in e104) h
  · rw [if_neg c109] at h
    refine xe_alr (ins := .aload_n 0) (len := 1) (i := 0) (by decide +kernel) rfl rfl rfl rfl rfl ?_
    obtain ⟨_, e111, h⟩ := xbnd h
    obtain ⟨R112, e110, h⟩ := xbnd h
    refine xs_cv (i := 520) (j := 279) (ar := []) (rest := []) (r2 := xr_279) (by decide +kernel) (by decide +kernel) (by decide +kernel) xr_279_e rfl (by decide) (by decide) e111 ?_
    refine xc_i (k279 (d := d + 0)   e110) rfl (fun hi113 => ?_)
    refine xe_ifeq (off := 7) (t := 23) (by decide +kernel) (by decide) rfl hi113 (fun c114 => ?_) (fun c114 => ?_)
    · rw [if_pos c114] at h
      refine xW_lv rfl (l := [(0, xR_ (a0)), (1, xI (v103))]) (xsb_of ⟨rfl, rfl, trivial⟩ (show [1, 0].Nodup by decide)) ?_
      exact k276_23   (xq_gi_in e104) h
    · rw [if_neg c114] at h
      refine xe_alr (ins := .aload_n 0) (len := 1) (i := 0) (by decide +kernel) rfl rfl rfl rfl rfl ?_
      obtain ⟨_, e116, h⟩ := xbnd h
      obtain ⟨M117, e115, h⟩ := xbnd h
      refine xs_cv (i := 523) (j := 283) (ar := []) (rest := []) (r2 := xr_283) (by decide +kernel) (by decide +kernel) (by decide +kernel) xr_283_e rfl (by decide) (by decide) e116 ?_
      refine xc_v (k283 (d := d + 0)   e115) rfl ?_
      refine xW_lv rfl (l := [(0, xR_ (a0)), (1, xI (v103))]) (xsb_of ⟨rfl, rfl, trivial⟩ (show [1, 0].Nodup by decide)) ?_
      exact k276_23   (xq_gi_in e104) h
-- ChangeHouseModel.lex
def xr_214 : xj_mR := (15, yX15_lex, cX15_lex, 3, (Option.none : Option Jvm.ClassFile.FieldType), 0, false, (8, 141), (1, 12))
set_option maxRecDepth 20000 in
theorem xr_214_e : xj_row 214 = some xr_214 := rfl
def f214_75  (r11 : Nat → Int → Int → xj_M → Option (xj_M)) (f : Nat) (x0 : Nat) (x1 : Int) (M : xj_M) : Option (xj_M) := ((xq_is 15 (x0) M).bind fun _ => ((f209  f (x0) (x1) M).bind fun R103 => r11 (x0) (x1) (R103.1) R103.2))
theorem k214_75 {d f : Nat}  {r11 : Nat → Int → Int → xj_M → Option (xj_M)}  (hr11 : ∀ {x0 : Nat} {x1 : Int} {x2 : Int} {M : xj_M} {R : xj_M}, xin x1 → xin x2 → r11 x0 x1 x2 M = some R → xW (d + 5) (none, d + 5, none) xr_214 (11, [(0, xR_ x0), (1, xI x1), (2, xI x2)], [], M) (xQv R)) {x0 : Nat} {x1 : Int} {M : xj_M} {R : xj_M} (hx1 : xin x1) (h : f214_75  r11 f x0 x1 M = some R) : xW (d + 5) (none, d + 5, none) xr_214 (75, [(0, xR_ x0), (1, xI x1)], [], M) (xQv R) := by
  unfold f214_75 at h
  refine xe_alr (ins := .aload_n 0) (len := 1) (i := 0) (by decide +kernel) rfl rfl rfl rfl rfl ?_
  refine xe_ldn (ins := .iload_n 1) (len := 1) (by decide +kernel) rfl rfl rfl rfl ?_
  obtain ⟨_, e102, h⟩ := xbnd h
  obtain ⟨R103, e101, h⟩ := xbnd h
  refine xs_cv (i := 39) (j := 209) (ar := [xI (x1)]) (rest := []) (r2 := xr_209) (by decide +kernel) (by decide +kernel) (by decide +kernel) xr_209_e rfl (by decide) (by decide) e102 ?_
  refine xc_i (k209 (d := d + 4)  hx1 e101) rfl (fun hi104 => ?_)
  refine xe_isr (ins := .istore_n 2) (len := 1) (i := 2) (by decide +kernel) rfl rfl rfl (by decide) (xk_k (show ¬ (0 : Nat) = 2 by decide) (Or.inl (show ¬ (0 + 1 : Nat) = 2 by decide)) (xk_k (show ¬ (1 : Nat) = 2 by decide) (Or.inr (xI_cat _)) xk_n)) rfl ?_
  refine xe_goto (off := -70) (nx := 11) (by decide +kernel) (by decide) ?_
  refine xW_lv rfl (l := [(0, xR_ (x0)), (1, xI (x1)), (2, xI (R103.1))]) (xsb_of ⟨rfl, rfl, rfl, trivial⟩ (show [2, 0, 1].Nodup by decide)) ?_
  exact hr11 hx1 hi104 h
def f214_47b  (r11 : Nat → Int → Int → xj_M → Option (xj_M)) (r47 : Nat → Int → xj_M → Option (xj_M)) (f : Nat) (x0 : Nat) (x1 : Int) (M : xj_M) : Option (xj_M) := ((xq_gi 15 1 (x0) M).bind fun v105 => (if (v105) ≤ (x1) then f214_75  r11 f (x0) (x1) M else ((xq_gr 15 0 (x0) M).bind fun v108 => ((xq_ab (v108) (x1) M).bind fun v110 => (if (v110) = (10) then f214_75  r11 f (x0) (x1) M else r47 (x0) (xwr ((x1) + (1))) M)))))
theorem k214_47b {d f : Nat}  {r11 : Nat → Int → Int → xj_M → Option (xj_M)} {r47 : Nat → Int → xj_M → Option (xj_M)}  (hr11 : ∀ {x0 : Nat} {x1 : Int} {x2 : Int} {M : xj_M} {R : xj_M}, xin x1 → xin x2 → r11 x0 x1 x2 M = some R → xW (d + 5) (none, d + 5, none) xr_214 (11, [(0, xR_ x0), (1, xI x1), (2, xI x2)], [], M) (xQv R)) (hr47 : ∀ {x0 : Nat} {x1 : Int} {M : xj_M} {R : xj_M}, xin x1 → r47 x0 x1 M = some R → xW (d + 5) (none, d + 5, none) xr_214 (47, [(0, xR_ x0), (1, xI x1)], [], M) (xQv R)) {x0 : Nat} {x1 : Int} {M : xj_M} {R : xj_M} (hx1 : xin x1) (h : f214_47b  r11 r47 f x0 x1 M = some R) : xW (d + 5) (none, d + 5, none) xr_214 (47, [(0, xR_ x0), (1, xI x1)], [], M) (xQv R) := by
  unfold f214_47b at h
  refine xe_ldn (ins := .iload_n 1) (len := 1) (by decide +kernel) rfl rfl rfl rfl ?_
  refine xe_alr (ins := .aload_n 0) (len := 1) (i := 0) (by decide +kernel) rfl rfl rfl rfl rfl ?_
  obtain ⟨v105, e106, h⟩ := xbnd h
  refine xs_gi (i := 3) (c := 15) (k := 1) (by decide +kernel) (by decide) (by decide +kernel) e106 rfl ?_
  refine xe_icmpge (off := 23) (t := 75) (by decide +kernel) (by decide) rfl hx1 (xq_gi_in e106) (fun c107 => ?_) (fun c107 => ?_)
  · rw [if_pos c107] at h
    refine xW_lv rfl (l := [(0, xR_ (x0)), (1, xI (x1))]) (xsb_of ⟨rfl, rfl, trivial⟩ (show [0, 1].Nodup by decide)) ?_
    exact k214_75  hr11 hx1 h
  · rw [if_neg c107] at h
    refine xe_alr (ins := .aload_n 0) (len := 1) (i := 0) (by decide +kernel) rfl rfl rfl rfl rfl ?_
    obtain ⟨v108, e109, h⟩ := xbnd h
    refine xs_gr (i := 7) (c := 15) (k := 0) (by decide +kernel) (by decide) (by decide +kernel) e109 rfl ?_
    refine xe_ldn (ins := .iload_n 1) (len := 1) (by decide +kernel) rfl rfl rfl rfl ?_
    obtain ⟨v110, e111, h⟩ := xbnd h
    refine xs_bald (by decide +kernel) hx1 e111 rfl ?_
    refine xe_bipush (n := 10) (by decide +kernel) (by decide) rfl ?_
    refine xe_icmpeq (off := 12) (t := 75) (by decide +kernel) (by decide) rfl (xq_ab_in e111) (show xin (10) by decide) (fun c112 => ?_) (fun c112 => ?_)
    · rw [if_pos c112] at h
      refine xW_lv rfl (l := [(0, xR_ (x0)), (1, xI (x1))]) (xsb_of ⟨rfl, rfl, trivial⟩ (show [0, 1].Nodup by decide)) ?_
      exact k214_75  hr11 hx1 h
    · rw [if_neg c112] at h
      refine xe_iincr (i := 1) (n := 1) (by decide +kernel) (by decide) rfl (xk_k (show ¬ (0 : Nat) = 1 by decide) (Or.inr (xR_cat _)) (xk_d rfl xk_n)) rfl ?_
      refine xe_goto (off := -22) (nx := 47) (by decide +kernel) (by decide) ?_
      refine xW_lv rfl (l := [(0, xR_ (x0)), (1, xI (xwr ((x1) + (1))))]) (xsb_of ⟨rfl, rfl, trivial⟩ (show [1, 0].Nodup by decide)) ?_
      exact hr47 (xin_wr _) h
def f214_47  (r11 : Nat → Int → Int → xj_M → Option (xj_M)) (f : Nat) : Nat → Nat → Int → xj_M → Option (xj_M)
  | 0, _, _, _ => none
  | n + 1, x0, x1, M => f214_47b  r11 (f214_47  r11 f n) f x0 x1 M
theorem k214_47 {d f : Nat}  {r11 : Nat → Int → Int → xj_M → Option (xj_M)}  (hr11 : ∀ {x0 : Nat} {x1 : Int} {x2 : Int} {M : xj_M} {R : xj_M}, xin x1 → xin x2 → r11 x0 x1 x2 M = some R → xW (d + 5) (none, d + 5, none) xr_214 (11, [(0, xR_ x0), (1, xI x1), (2, xI x2)], [], M) (xQv R)) : ∀ {n : Nat} {x0 : Nat} {x1 : Int} {M : xj_M} {R : xj_M}, xin x1 → f214_47  r11 f n x0 x1 M = some R → xW (d + 5) (none, d + 5, none) xr_214 (47, [(0, xR_ x0), (1, xI x1)], [], M) (xQv R) := by
  intro n
  induction n with
  | zero => intros; rename_i h; cases h
  | succ n ih => intros; rename_i h; exact k214_47b  hr11 ih (by assumption) h
def f214_41  (r11 : Nat → Int → Int → xj_M → Option (xj_M)) (f : Nat) (x0 : Nat) (x1 : Int) (x2 : Int) (M : xj_M) : Option (xj_M) := (if ¬ (x2) = (35) then f214_75  r11 f (x0) (xwr ((x1) + (1))) M else f214_47  r11 f f (x0) (x1) M)
theorem k214_41 {d f : Nat}  {r11 : Nat → Int → Int → xj_M → Option (xj_M)}  (hr11 : ∀ {x0 : Nat} {x1 : Int} {x2 : Int} {M : xj_M} {R : xj_M}, xin x1 → xin x2 → r11 x0 x1 x2 M = some R → xW (d + 5) (none, d + 5, none) xr_214 (11, [(0, xR_ x0), (1, xI x1), (2, xI x2)], [], M) (xQv R)) {x0 : Nat} {x1 : Int} {x2 : Int} {M : xj_M} {R : xj_M} (hx1 : xin x1) (hx2 : xin x2) (h : f214_41  r11 f x0 x1 x2 M = some R) : xW (d + 5) (none, d + 5, none) xr_214 (41, [(0, xR_ x0), (1, xI x1), (2, xI x2)], [], M) (xQv R) := by
  unfold f214_41 at h
  refine xe_ldn (ins := .iload_n 2) (len := 1) (by decide +kernel) rfl rfl rfl rfl ?_
  refine xe_bipush (n := 35) (by decide +kernel) (by decide) rfl ?_
  refine xe_icmpne (off := 28) (t := 72) (by decide +kernel) (by decide) rfl hx2 (show xin (35) by decide) (fun c113 => ?_) (fun c113 => ?_)
  · rw [if_pos c113] at h
    refine xe_iincr (i := 1) (n := 1) (by decide +kernel) (by decide) rfl (xk_k (show ¬ (0 : Nat) = 1 by decide) (Or.inr (xR_cat _)) (xk_d rfl (xk_k (show ¬ (2 : Nat) = 1 by decide) (Or.inl (show ¬ (2 + 1 : Nat) = 1 by decide)) xk_n))) rfl ?_
    refine xW_lv rfl (l := [(0, xR_ (x0)), (1, xI (xwr ((x1) + (1))))]) (xsb_of ⟨rfl, rfl, trivial⟩ (show [1, 0, 2].Nodup by decide)) ?_
    exact k214_75  hr11 (xin_wr _) h
  · rw [if_neg c113] at h
    refine xW_lv rfl (l := [(0, xR_ (x0)), (1, xI (x1))]) (xsb_of ⟨rfl, rfl, trivial⟩ (show [0, 1, 2].Nodup by decide)) ?_
    exact k214_47  hr11 hx1 h
def f214_222   (f : Nat)  (M : xj_M) : Option (xj_M) := (some M)
theorem k214_222 {d f : Nat}      {M : xj_M} {R : xj_M}  (h : f214_222   f  M = some R) : xW (d + 5) (none, d + 5, none) xr_214 (222, [], [], M) (xQv R) := by
  unfold f214_222 at h
  cases h
  exact xe_ret_v (by decide +kernel) rfl ⟨rfl, rfl⟩
def f214_138   (f : Nat) (x0 : Nat) (x2 : Int) (M : xj_M) : Option (xj_M) := (if ¬ (x2) = (-1) then ((f206  f (x2) M).bind fun R116 => (if (R116.1) = 0 then ((f207  f (x2) R116.2).bind fun R120 => (if (R120.1) = 0 then ((f208  f (x2) R120.2).bind fun R124 => (if (R124.1) = 0 then (if ¬ (x2) = (95) then ((xq_is 15 (x0) R124.2).bind fun _ => ((f219  f (x0) (x2) R124.2).bind fun M130 => f214_222   f  M130)) else ((xq_pi 15 2 (x0) (4) R124.2).bind fun M132 => ((xq_gi 15 5 (x0) M132).bind fun v134 => ((xq_pi 15 5 (x0) (xwr ((v134) + (1))) M132).bind fun M136 => f214_222   f  M136)))) else ((xq_is 15 (x0) R124.2).bind fun _ => ((f218  f (x0) R124.2).bind fun M140 => f214_222   f  M140)))) else ((xq_is 15 (x0) R120.2).bind fun _ => ((f217  f (x0) R120.2).bind fun M144 => f214_222   f  M144)))) else ((xq_is 15 (x0) R116.2).bind fun _ => ((f216  f (x0) R116.2).bind fun M148 => f214_222   f  M148)))) else ((xq_pi 15 2 (x0) (0) M).bind fun M150 => f214_222   f  M150))
theorem k214_138 {d f : Nat}     {x0 : Nat} {x2 : Int} {M : xj_M} {R : xj_M} (hx2 : xin x2) (h : f214_138   f x0 x2 M = some R) : xW (d + 5) (none, d + 5, none) xr_214 (138, [(0, xR_ x0), (2, xI x2)], [], M) (xQv R) := by
  unfold f214_138 at h
  refine xe_ldn (ins := .iload_n 2) (len := 1) (by decide +kernel) rfl rfl rfl rfl ?_
  refine xe_iconst (n := -1) (by decide +kernel) rfl ?_
  refine xe_icmpne (off := 11) (t := 151) (by decide +kernel) (by decide) rfl hx2 (show xin (-1) by decide) (fun c114 => ?_) (fun c114 => ?_)
  · rw [if_pos c114] at h
    refine xe_ldn (ins := .iload_n 2) (len := 1) (by decide +kernel) rfl rfl rfl rfl ?_
    obtain ⟨R116, e115, h⟩ := xbnd h
    refine xs_cs (kd := 2) (by decide) (i := 49) (j := 206) (ar := [xI (x2)]) (rest := []) (r2 := xr_206) (by decide +kernel) (by decide +kernel) (by decide +kernel) xr_206_e rfl (by decide) ?_
    refine xc_i (k206 (d := d + 4)  hx2 e115) rfl (fun hi117 => ?_)
    refine xe_ifeq (off := 10) (t := 165) (by decide +kernel) (by decide) rfl hi117 (fun c118 => ?_) (fun c118 => ?_)
    · rw [if_pos c118] at h
      refine xe_ldn (ins := .iload_n 2) (len := 1) (by decide +kernel) rfl rfl rfl rfl ?_
      obtain ⟨R120, e119, h⟩ := xbnd h
      refine xs_cs (kd := 2) (by decide) (i := 56) (j := 207) (ar := [xI (x2)]) (rest := []) (r2 := xr_207) (by decide +kernel) (by decide +kernel) (by decide +kernel) xr_207_e rfl (by decide) ?_
      refine xc_i (k207 (d := d + 4)  hx2 e119) rfl (fun hi121 => ?_)
      refine xe_ifeq (off := 10) (t := 179) (by decide +kernel) (by decide) rfl hi121 (fun c122 => ?_) (fun c122 => ?_)
      · rw [if_pos c122] at h
        refine xe_ldn (ins := .iload_n 2) (len := 1) (by decide +kernel) rfl rfl rfl rfl ?_
        obtain ⟨R124, e123, h⟩ := xbnd h
        refine xs_cs (kd := 2) (by decide) (i := 62) (j := 208) (ar := [xI (x2)]) (rest := []) (r2 := xr_208) (by decide +kernel) (by decide +kernel) (by decide +kernel) xr_208_e rfl (by decide) ?_
        refine xc_i (k208 (d := d + 4)  hx2 e123) rfl (fun hi125 => ?_)
        refine xe_ifeq (off := 10) (t := 193) (by decide +kernel) (by decide) rfl hi125 (fun c126 => ?_) (fun c126 => ?_)
        · rw [if_pos c126] at h
          refine xe_ldn (ins := .iload_n 2) (len := 1) (by decide +kernel) rfl rfl rfl rfl ?_
          refine xe_bipush (n := 95) (by decide +kernel) (by decide) rfl ?_
          refine xe_icmpne (off := 21) (t := 217) (by decide +kernel) (by decide) rfl hx2 (show xin (95) by decide) (fun c127 => ?_) (fun c127 => ?_)
          · rw [if_pos c127] at h
            refine xe_alr (ins := .aload_n 0) (len := 1) (i := 0) (by decide +kernel) rfl rfl rfl rfl rfl ?_
            refine xe_ldn (ins := .iload_n 2) (len := 1) (by decide +kernel) rfl rfl rfl rfl ?_
            obtain ⟨_, e129, h⟩ := xbnd h
            obtain ⟨M130, e128, h⟩ := xbnd h
            refine xs_cv (i := 68) (j := 219) (ar := [xI (x2)]) (rest := []) (r2 := xr_219) (by decide +kernel) (by decide +kernel) (by decide +kernel) xr_219_e rfl (by decide) (by decide) e129 ?_
            refine xc_v (k219 (d := d + 0)  hx2 e128) rfl ?_
            refine xW_lv rfl (l := []) (xsb_of trivial (show [0, 2].Nodup by decide)) ?_
            exact k214_222    h
          · rw [if_neg c127] at h
            refine xe_alr (ins := .aload_n 0) (len := 1) (i := 0) (by decide +kernel) rfl rfl rfl rfl rfl ?_
            refine xe_iconst (n := 4) (by decide +kernel) rfl ?_
            obtain ⟨M132, e133, h⟩ := xbnd h
            refine xs_p (i := 46) (c := 15) (k := 2) (by decide +kernel) (by decide +kernel) (by decide +kernel) e133 rfl ?_
            refine xe_alr (ins := .aload_n 0) (len := 1) (i := 0) (by decide +kernel) rfl rfl rfl rfl rfl ?_
            refine xe_dupr (by decide +kernel) rfl ?_
            obtain ⟨v134, e135, h⟩ := xbnd h
            refine xs_gi (i := 14) (c := 15) (k := 5) (by decide +kernel) (by decide) (by decide +kernel) e135 rfl ?_
            refine xe_iconst (n := 1) (by decide +kernel) rfl ?_
            refine xe_iadd (by decide +kernel) rfl ?_
            obtain ⟨M136, e137, h⟩ := xbnd h
            refine xs_p (i := 14) (c := 15) (k := 5) (by decide +kernel) (by decide +kernel) (by decide +kernel) e137 rfl ?_
            refine xe_goto (off := 8) (nx := 222) (by decide +kernel) (by decide) ?_
            refine xW_lv rfl (l := []) (xsb_of trivial (show [0, 2].Nodup by decide)) ?_
            exact k214_222    h
        · rw [if_neg c126] at h
          refine xe_alr (ins := .aload_n 0) (len := 1) (i := 0) (by decide +kernel) rfl rfl rfl rfl rfl ?_
          obtain ⟨_, e139, h⟩ := xbnd h
          obtain ⟨M140, e138, h⟩ := xbnd h
          refine xs_cv (i := 65) (j := 218) (ar := []) (rest := []) (r2 := xr_218) (by decide +kernel) (by decide +kernel) (by decide +kernel) xr_218_e rfl (by decide) (by decide) e139 ?_
          refine xc_v (k218 (d := d + 3)   e138) rfl ?_
          refine xe_goto (off := 32) (nx := 222) (by decide +kernel) (by decide) ?_
          refine xW_lv rfl (l := []) (xsb_of trivial (show [0, 2].Nodup by decide)) ?_
          exact k214_222    h
      · rw [if_neg c122] at h
        refine xe_alr (ins := .aload_n 0) (len := 1) (i := 0) (by decide +kernel) rfl rfl rfl rfl rfl ?_
        obtain ⟨_, e143, h⟩ := xbnd h
        obtain ⟨M144, e142, h⟩ := xbnd h
        refine xs_cv (i := 59) (j := 217) (ar := []) (rest := []) (r2 := xr_217) (by decide +kernel) (by decide +kernel) (by decide +kernel) xr_217_e rfl (by decide) (by decide) e143 ?_
        refine xc_v (k217 (d := d + 2)   e142) rfl ?_
        refine xe_goto (off := 46) (nx := 222) (by decide +kernel) (by decide) ?_
        refine xW_lv rfl (l := []) (xsb_of trivial (show [0, 2].Nodup by decide)) ?_
        exact k214_222    h
    · rw [if_neg c118] at h
      refine xe_alr (ins := .aload_n 0) (len := 1) (i := 0) (by decide +kernel) rfl rfl rfl rfl rfl ?_
      obtain ⟨_, e147, h⟩ := xbnd h
      obtain ⟨M148, e146, h⟩ := xbnd h
      refine xs_cv (i := 53) (j := 216) (ar := []) (rest := []) (r2 := xr_216) (by decide +kernel) (by decide +kernel) (by decide +kernel) xr_216_e rfl (by decide) (by decide) e147 ?_
      refine xc_v (k216 (d := d + 2)   e146) rfl ?_
      refine xe_goto (off := 60) (nx := 222) (by decide +kernel) (by decide) ?_
      refine xW_lv rfl (l := []) (xsb_of trivial (show [0, 2].Nodup by decide)) ?_
      exact k214_222    h
  · rw [if_neg c114] at h
    refine xe_alr (ins := .aload_n 0) (len := 1) (i := 0) (by decide +kernel) rfl rfl rfl rfl rfl ?_
    refine xe_iconst (n := 0) (by decide +kernel) rfl ?_
    obtain ⟨M150, e151, h⟩ := xbnd h
    refine xs_p (i := 46) (c := 15) (k := 2) (by decide +kernel) (by decide +kernel) (by decide +kernel) e151 rfl ?_
    refine xe_goto (off := 74) (nx := 222) (by decide +kernel) (by decide) ?_
    refine xW_lv rfl (l := []) (xsb_of trivial (show [0, 2].Nodup by decide)) ?_
    exact k214_222    h
def f214_11b  (r11 : Nat → Int → Int → xj_M → Option (xj_M)) (f : Nat) (x0 : Nat) (x1 : Int) (x2 : Int) (M : xj_M) : Option (xj_M) := (if (x2) = (9) then f214_41  r11 f (x0) (x1) (x2) M else (if (x2) = (10) then f214_41  r11 f (x0) (x1) (x2) M else (if (x2) = (13) then f214_41  r11 f (x0) (x1) (x2) M else (if (x2) = (32) then f214_41  r11 f (x0) (x1) (x2) M else (if ¬ (x2) = (35) then ((xq_pi 15 4 (x0) (x1) M).bind fun M157 => ((xq_pi 15 5 (x0) (x1) M157).bind fun M159 => ((xq_pi 15 6 (x0) (-1) M159).bind fun M161 => ((xq_gi 15 8 (x0) M161).bind fun v163 => ((xq_pi 15 8 (x0) (xwr ((v163) + (1))) M161).bind fun M165 => (if (x2) = (-1) then f214_138   f (x0) (x2) M165 else ((xq_gi 15 11 (x0) M165).bind fun v168 => (if (v168) = 0 then f214_138   f (x0) (x2) M165 else ((xq_gi 15 8 (x0) M165).bind fun v171 => (if (v171) ≤ (60) then f214_138   f (x0) (x2) M165 else ((xq_pi 15 2 (x0) (1) M165).bind fun M174 => f214_222   f  M174))))))))))) else f214_41  r11 f (x0) (x1) (x2) M)))))
theorem k214_11b {d f : Nat}  {r11 : Nat → Int → Int → xj_M → Option (xj_M)}  (hr11 : ∀ {x0 : Nat} {x1 : Int} {x2 : Int} {M : xj_M} {R : xj_M}, xin x1 → xin x2 → r11 x0 x1 x2 M = some R → xW (d + 5) (none, d + 5, none) xr_214 (11, [(0, xR_ x0), (1, xI x1), (2, xI x2)], [], M) (xQv R)) {x0 : Nat} {x1 : Int} {x2 : Int} {M : xj_M} {R : xj_M} (hx1 : xin x1) (hx2 : xin x2) (h : f214_11b  r11 f x0 x1 x2 M = some R) : xW (d + 5) (none, d + 5, none) xr_214 (11, [(0, xR_ x0), (1, xI x1), (2, xI x2)], [], M) (xQv R) := by
  unfold f214_11b at h
  refine xe_ldn (ins := .iload_n 2) (len := 1) (by decide +kernel) rfl rfl rfl rfl ?_
  refine xe_bipush (n := 9) (by decide +kernel) (by decide) rfl ?_
  refine xe_icmpeq (off := 27) (t := 41) (by decide +kernel) (by decide) rfl hx2 (show xin (9) by decide) (fun c152 => ?_) (fun c152 => ?_)
  · rw [if_pos c152] at h
    refine xW_lv rfl (l := [(0, xR_ (x0)), (1, xI (x1)), (2, xI (x2))]) (xsb_of ⟨rfl, rfl, rfl, trivial⟩ (show [0, 1, 2].Nodup by decide)) ?_
    exact k214_41  hr11 hx1 hx2 h
  · rw [if_neg c152] at h
    refine xe_ldn (ins := .iload_n 2) (len := 1) (by decide +kernel) rfl rfl rfl rfl ?_
    refine xe_bipush (n := 10) (by decide +kernel) (by decide) rfl ?_
    refine xe_icmpeq (off := 21) (t := 41) (by decide +kernel) (by decide) rfl hx2 (show xin (10) by decide) (fun c153 => ?_) (fun c153 => ?_)
    · rw [if_pos c153] at h
      refine xW_lv rfl (l := [(0, xR_ (x0)), (1, xI (x1)), (2, xI (x2))]) (xsb_of ⟨rfl, rfl, rfl, trivial⟩ (show [0, 1, 2].Nodup by decide)) ?_
      exact k214_41  hr11 hx1 hx2 h
    · rw [if_neg c153] at h
      refine xe_ldn (ins := .iload_n 2) (len := 1) (by decide +kernel) rfl rfl rfl rfl ?_
      refine xe_bipush (n := 13) (by decide +kernel) (by decide) rfl ?_
      refine xe_icmpeq (off := 15) (t := 41) (by decide +kernel) (by decide) rfl hx2 (show xin (13) by decide) (fun c154 => ?_) (fun c154 => ?_)
      · rw [if_pos c154] at h
        refine xW_lv rfl (l := [(0, xR_ (x0)), (1, xI (x1)), (2, xI (x2))]) (xsb_of ⟨rfl, rfl, rfl, trivial⟩ (show [0, 1, 2].Nodup by decide)) ?_
        exact k214_41  hr11 hx1 hx2 h
      · rw [if_neg c154] at h
        refine xe_ldn (ins := .iload_n 2) (len := 1) (by decide +kernel) rfl rfl rfl rfl ?_
        refine xe_bipush (n := 32) (by decide +kernel) (by decide) rfl ?_
        refine xe_icmpeq (off := 9) (t := 41) (by decide +kernel) (by decide) rfl hx2 (show xin (32) by decide) (fun c155 => ?_) (fun c155 => ?_)
        · rw [if_pos c155] at h
          refine xW_lv rfl (l := [(0, xR_ (x0)), (1, xI (x1)), (2, xI (x2))]) (xsb_of ⟨rfl, rfl, rfl, trivial⟩ (show [0, 1, 2].Nodup by decide)) ?_
          exact k214_41  hr11 hx1 hx2 h
        · rw [if_neg c155] at h
          refine xe_ldn (ins := .iload_n 2) (len := 1) (by decide +kernel) rfl rfl rfl rfl ?_
          refine xe_bipush (n := 35) (by decide +kernel) (by decide) rfl ?_
          refine xe_icmpne (off := 46) (t := 84) (by decide +kernel) (by decide) rfl hx2 (show xin (35) by decide) (fun c156 => ?_) (fun c156 => ?_)
          · rw [if_pos c156] at h
            refine xe_alr (ins := .aload_n 0) (len := 1) (i := 0) (by decide +kernel) rfl rfl rfl rfl rfl ?_
            refine xe_ldn (ins := .iload_n 1) (len := 1) (by decide +kernel) rfl rfl rfl rfl ?_
            obtain ⟨M157, e158, h⟩ := xbnd h
            refine xs_p (i := 43) (c := 15) (k := 4) (by decide +kernel) (by decide +kernel) (by decide +kernel) e158 rfl ?_
            refine xe_alr (ins := .aload_n 0) (len := 1) (i := 0) (by decide +kernel) rfl rfl rfl rfl rfl ?_
            refine xe_ldn (ins := .iload_n 1) (len := 1) (by decide +kernel) rfl rfl rfl rfl ?_
            obtain ⟨M159, e160, h⟩ := xbnd h
            refine xs_p (i := 14) (c := 15) (k := 5) (by decide +kernel) (by decide +kernel) (by decide +kernel) e160 rfl ?_
            refine xe_alr (ins := .aload_n 0) (len := 1) (i := 0) (by decide +kernel) rfl rfl rfl rfl rfl ?_
            refine xe_iconst (n := -1) (by decide +kernel) rfl ?_
            obtain ⟨M161, e162, h⟩ := xbnd h
            refine xs_p (i := 32) (c := 15) (k := 6) (by decide +kernel) (by decide +kernel) (by decide +kernel) e162 rfl ?_
            refine xe_alr (ins := .aload_n 0) (len := 1) (i := 0) (by decide +kernel) rfl rfl rfl rfl rfl ?_
            refine xe_dupr (by decide +kernel) rfl ?_
            obtain ⟨v163, e164, h⟩ := xbnd h
            refine xs_gi (i := 17) (c := 15) (k := 8) (by decide +kernel) (by decide) (by decide +kernel) e164 rfl ?_
            refine xe_iconst (n := 1) (by decide +kernel) rfl ?_
            refine xe_iadd (by decide +kernel) rfl ?_
            obtain ⟨M165, e166, h⟩ := xbnd h
            refine xs_p (i := 17) (c := 15) (k := 8) (by decide +kernel) (by decide +kernel) (by decide +kernel) e166 rfl ?_
            refine xe_ldn (ins := .iload_n 2) (len := 1) (by decide +kernel) rfl rfl rfl rfl ?_
            refine xe_iconst (n := -1) (by decide +kernel) rfl ?_
            refine xe_icmpeq (off := 27) (t := 138) (by decide +kernel) (by decide) rfl hx2 (show xin (-1) by decide) (fun c167 => ?_) (fun c167 => ?_)
            · rw [if_pos c167] at h
              refine xW_lv rfl (l := [(0, xR_ (x0)), (2, xI (x2))]) (xsb_of ⟨rfl, rfl, trivial⟩ (show [0, 1, 2].Nodup by decide)) ?_
              exact k214_138   hx2 h
            · rw [if_neg c167] at h
              refine xe_alr (ins := .aload_n 0) (len := 1) (i := 0) (by decide +kernel) rfl rfl rfl rfl rfl ?_
              obtain ⟨v168, e169, h⟩ := xbnd h
              refine xs_gi (i := 20) (c := 15) (k := 11) (by decide +kernel) (by decide) (by decide +kernel) e169 rfl ?_
              refine xe_ifeq (off := 20) (t := 138) (by decide +kernel) (by decide) rfl (xq_gi_in e169) (fun c170 => ?_) (fun c170 => ?_)
              · rw [if_pos c170] at h
                refine xW_lv rfl (l := [(0, xR_ (x0)), (2, xI (x2))]) (xsb_of ⟨rfl, rfl, trivial⟩ (show [0, 1, 2].Nodup by decide)) ?_
                exact k214_138   hx2 h
              · rw [if_neg c170] at h
                refine xe_alr (ins := .aload_n 0) (len := 1) (i := 0) (by decide +kernel) rfl rfl rfl rfl rfl ?_
                obtain ⟨v171, e172, h⟩ := xbnd h
                refine xs_gi (i := 17) (c := 15) (k := 8) (by decide +kernel) (by decide) (by decide +kernel) e172 rfl ?_
                refine xe_bipush (n := 60) (by decide +kernel) (by decide) rfl ?_
                refine xe_icmple (off := 11) (t := 138) (by decide +kernel) (by decide) rfl (xq_gi_in e172) (show xin (60) by decide) (fun c173 => ?_) (fun c173 => ?_)
                · rw [if_pos c173] at h
                  refine xW_lv rfl (l := [(0, xR_ (x0)), (2, xI (x2))]) (xsb_of ⟨rfl, rfl, trivial⟩ (show [0, 1, 2].Nodup by decide)) ?_
                  exact k214_138   hx2 h
                · rw [if_neg c173] at h
                  refine xe_alr (ins := .aload_n 0) (len := 1) (i := 0) (by decide +kernel) rfl rfl rfl rfl rfl ?_
                  refine xe_iconst (n := 1) (by decide +kernel) rfl ?_
                  obtain ⟨M174, e175, h⟩ := xbnd h
                  refine xs_p (i := 46) (c := 15) (k := 2) (by decide +kernel) (by decide +kernel) (by decide +kernel) e175 rfl ?_
                  refine xe_goto (off := 87) (nx := 222) (by decide +kernel) (by decide) ?_
                  refine xW_lv rfl (l := []) (xsb_of trivial (show [0, 1, 2].Nodup by decide)) ?_
                  exact k214_222    h
          · rw [if_neg c156] at h
            refine xW_lv rfl (l := [(0, xR_ (x0)), (1, xI (x1)), (2, xI (x2))]) (xsb_of ⟨rfl, rfl, rfl, trivial⟩ (show [0, 1, 2].Nodup by decide)) ?_
            exact k214_41  hr11 hx1 hx2 h
def f214_11   (f : Nat) : Nat → Nat → Int → Int → xj_M → Option (xj_M)
  | 0, _, _, _, _ => none
  | n + 1, x0, x1, x2, M => f214_11b   (f214_11   f n) f x0 x1 x2 M
theorem k214_11 {d f : Nat}     : ∀ {n : Nat} {x0 : Nat} {x1 : Int} {x2 : Int} {M : xj_M} {R : xj_M}, xin x1 → xin x2 → f214_11   f n x0 x1 x2 M = some R → xW (d + 5) (none, d + 5, none) xr_214 (11, [(0, xR_ x0), (1, xI x1), (2, xI x2)], [], M) (xQv R) := by
  intro n
  induction n with
  | zero => intros; rename_i h; cases h
  | succ n ih => intros; rename_i h; exact k214_11b   ih (by assumption) (by assumption) h
def f214  (f : Nat) (a0 : Nat) (M : xj_M) : Option (xj_M) := ((xq_gi 15 5 (a0) M).bind fun v176 => ((xq_is 15 (a0) M).bind fun _ => ((f209  f (a0) (v176) M).bind fun R180 => f214_11   f f (a0) (v176) (R180.1) R180.2)))
theorem k214 {d f : Nat}   {a0 : Nat} {M : xj_M} {R : xj_M}  (h : f214  f a0 M = some R) : xT (d + 6) 214 [xR_ a0] M (xQv R) := by
  refine xT_m xr_214_e (X := (none, d + 5, none)) rfl (xa_1 (xR_cat _) xa_n) (by decide) ?_
  unfold f214 at h
  refine xe_alr (ins := .aload_n 0) (len := 1) (i := 0) (by decide +kernel) rfl rfl rfl rfl rfl ?_
  obtain ⟨v176, e177, h⟩ := xbnd h
  refine xs_gi (i := 14) (c := 15) (k := 5) (by decide +kernel) (by decide) (by decide +kernel) e177 rfl ?_
  refine xe_isr (ins := .istore_n 1) (len := 1) (i := 1) (by decide +kernel) rfl rfl rfl (by decide) (xk_k (show ¬ (0 : Nat) = 1 by decide) (Or.inr (xR_cat _)) xk_n) rfl ?_
  refine xe_alr (ins := .aload_n 0) (len := 1) (i := 0) (by decide +kernel) rfl rfl rfl rfl rfl ?_
  refine xe_ldn (ins := .iload_n 1) (len := 1) (by decide +kernel) rfl rfl rfl rfl ?_
  obtain ⟨_, e179, h⟩ := xbnd h
  obtain ⟨R180, e178, h⟩ := xbnd h
  refine xs_cv (i := 39) (j := 209) (ar := [xI (v176)]) (rest := []) (r2 := xr_209) (by decide +kernel) (by decide +kernel) (by decide +kernel) xr_209_e rfl (by decide) (by decide) e179 ?_
  refine xc_i (k209 (d := d + 4)  (xq_gi_in e177) e178) rfl (fun hi181 => ?_)
  refine xe_isr (ins := .istore_n 2) (len := 1) (i := 2) (by decide +kernel) rfl rfl rfl (by decide) (xk_k (show ¬ (1 : Nat) = 2 by decide) (Or.inr (xI_cat _)) (xk_k (show ¬ (0 : Nat) = 2 by decide) (Or.inl (show ¬ (0 + 1 : Nat) = 2 by decide)) xk_n)) rfl ?_
  refine xW_lv rfl (l := [(0, xR_ (a0)), (1, xI (v176)), (2, xI (R180.1))]) (xsb_of ⟨rfl, rfl, rfl, trivial⟩ (show [2, 1, 0].Nodup by decide)) ?_
  exact k214_11   (xq_gi_in e177) hi181 h
-- ChangeHouseModel.ways
def xr_275 : xj_mR := (15, yX15_ways, cX15_ways, 8, (Option.none : Option Jvm.ClassFile.FieldType), 1, false, (9, 171), (1, 12))
set_option maxRecDepth 20000 in
theorem xr_275_e : xj_row 275 = some xr_275 := rfl
def f275_241 (q275 : Nat → Int → xj_M → Option (xj_M)) (r79 : Nat → Int → Int → Int → Int → Int → xj_M → Option (xj_M)) (f : Nat) (x0 : Nat) (x1 : Int) (x2 : Int) (x3 : Int) (x4 : Int) (x5 : Int) (M : xj_M) : Option (xj_M) := r79 (x0) (x1) (x2) (x3) (x4) (xwr ((x5) + (1))) M
theorem k275_241 {d f : Nat} {q275 : Nat → Int → xj_M → Option (xj_M)} {r79 : Nat → Int → Int → Int → Int → Int → xj_M → Option (xj_M)} (hq275 : ∀ {e : Nat} {a0 : Nat} {a1 : Int} {M : xj_M} {R : xj_M}, d ≤ e → xin a1 → q275 a0 a1 M = some R → xT e 275 [xR_ a0, xI a1] M (xQv R)) (hr79 : ∀ {x0 : Nat} {x1 : Int} {x2 : Int} {x3 : Int} {x4 : Int} {x5 : Int} {M : xj_M} {R : xj_M}, xin x1 → xin x2 → xin x3 → xin x4 → xin x5 → r79 x0 x1 x2 x3 x4 x5 M = some R → xW (d + 6) (none, d + 6, none) xr_275 (79, [(0, xR_ x0), (1, xI x1), (2, xI x2), (3, xI x3), (4, xI x4), (5, xI x5)], [], M) (xQv R)) {x0 : Nat} {x1 : Int} {x2 : Int} {x3 : Int} {x4 : Int} {x5 : Int} {M : xj_M} {R : xj_M} (hx1 : xin x1) (hx2 : xin x2) (hx3 : xin x3) (hx4 : xin x4) (hx5 : xin x5) (h : f275_241 q275 r79 f x0 x1 x2 x3 x4 x5 M = some R) : xW (d + 6) (none, d + 6, none) xr_275 (241, [(0, xR_ x0), (1, xI x1), (2, xI x2), (3, xI x3), (4, xI x4), (5, xI x5)], [], M) (xQv R) := by
  unfold f275_241 at h
  refine xe_iincr (i := 5) (n := 1) (by decide +kernel) (by decide) rfl (xk_k (show ¬ (0 : Nat) = 5 by decide) (Or.inl (show ¬ (0 + 1 : Nat) = 5 by decide)) (xk_k (show ¬ (1 : Nat) = 5 by decide) (Or.inl (show ¬ (1 + 1 : Nat) = 5 by decide)) (xk_k (show ¬ (2 : Nat) = 5 by decide) (Or.inl (show ¬ (2 + 1 : Nat) = 5 by decide)) (xk_k (show ¬ (3 : Nat) = 5 by decide) (Or.inl (show ¬ (3 + 1 : Nat) = 5 by decide)) (xk_k (show ¬ (4 : Nat) = 5 by decide) (Or.inr (xI_cat _)) (xk_d rfl xk_n)))))) rfl ?_
  refine xe_goto (off := -165) (nx := 79) (by decide +kernel) (by decide) ?_
  refine xW_lv rfl (l := [(0, xR_ (x0)), (1, xI (x1)), (2, xI (x2)), (3, xI (x3)), (4, xI (x4)), (5, xI (xwr ((x5) + (1))))]) (xsb_of ⟨rfl, rfl, rfl, rfl, rfl, rfl, trivial⟩ (show [5, 0, 1, 2, 3, 4].Nodup by decide)) ?_
  exact hr79 hx1 hx2 hx3 hx4 (xin_wr _) h
def f275_222 (q275 : Nat → Int → xj_M → Option (xj_M)) (r79 : Nat → Int → Int → Int → Int → Int → xj_M → Option (xj_M)) (r135 : Nat → Int → Int → Int → Int → Int → Int → xj_M → Option (xj_M)) (f : Nat) (x0 : Nat) (x1 : Int) (x2 : Int) (x3 : Int) (x4 : Int) (x5 : Int) (x6 : Int) (M : xj_M) : Option (xj_M) := r135 (x0) (x1) (x2) (x3) (x4) (x5) (xwr ((x6) + (1))) M
theorem k275_222 {d f : Nat} {q275 : Nat → Int → xj_M → Option (xj_M)} {r79 : Nat → Int → Int → Int → Int → Int → xj_M → Option (xj_M)} {r135 : Nat → Int → Int → Int → Int → Int → Int → xj_M → Option (xj_M)} (hq275 : ∀ {e : Nat} {a0 : Nat} {a1 : Int} {M : xj_M} {R : xj_M}, d ≤ e → xin a1 → q275 a0 a1 M = some R → xT e 275 [xR_ a0, xI a1] M (xQv R)) (hr79 : ∀ {x0 : Nat} {x1 : Int} {x2 : Int} {x3 : Int} {x4 : Int} {x5 : Int} {M : xj_M} {R : xj_M}, xin x1 → xin x2 → xin x3 → xin x4 → xin x5 → r79 x0 x1 x2 x3 x4 x5 M = some R → xW (d + 6) (none, d + 6, none) xr_275 (79, [(0, xR_ x0), (1, xI x1), (2, xI x2), (3, xI x3), (4, xI x4), (5, xI x5)], [], M) (xQv R)) (hr135 : ∀ {x0 : Nat} {x1 : Int} {x2 : Int} {x3 : Int} {x4 : Int} {x5 : Int} {x6 : Int} {M : xj_M} {R : xj_M}, xin x1 → xin x2 → xin x3 → xin x4 → xin x5 → xin x6 → r135 x0 x1 x2 x3 x4 x5 x6 M = some R → xW (d + 6) (none, d + 6, none) xr_275 (135, [(0, xR_ x0), (1, xI x1), (2, xI x2), (3, xI x3), (4, xI x4), (5, xI x5), (6, xI x6)], [], M) (xQv R)) {x0 : Nat} {x1 : Int} {x2 : Int} {x3 : Int} {x4 : Int} {x5 : Int} {x6 : Int} {M : xj_M} {R : xj_M} (hx1 : xin x1) (hx2 : xin x2) (hx3 : xin x3) (hx4 : xin x4) (hx5 : xin x5) (hx6 : xin x6) (h : f275_222 q275 r79 r135 f x0 x1 x2 x3 x4 x5 x6 M = some R) : xW (d + 6) (none, d + 6, none) xr_275 (222, [(0, xR_ x0), (1, xI x1), (2, xI x2), (3, xI x3), (4, xI x4), (5, xI x5), (6, xI x6)], [], M) (xQv R) := by
  unfold f275_222 at h
  refine xe_iincr (i := 6) (n := 1) (by decide +kernel) (by decide) rfl (xk_k (show ¬ (0 : Nat) = 6 by decide) (Or.inl (show ¬ (0 + 1 : Nat) = 6 by decide)) (xk_k (show ¬ (1 : Nat) = 6 by decide) (Or.inl (show ¬ (1 + 1 : Nat) = 6 by decide)) (xk_k (show ¬ (2 : Nat) = 6 by decide) (Or.inl (show ¬ (2 + 1 : Nat) = 6 by decide)) (xk_k (show ¬ (3 : Nat) = 6 by decide) (Or.inl (show ¬ (3 + 1 : Nat) = 6 by decide)) (xk_k (show ¬ (4 : Nat) = 6 by decide) (Or.inl (show ¬ (4 + 1 : Nat) = 6 by decide)) (xk_k (show ¬ (5 : Nat) = 6 by decide) (Or.inr (xI_cat _)) (xk_d rfl xk_n))))))) rfl ?_
  refine xe_goto (off := -90) (nx := 135) (by decide +kernel) (by decide) ?_
  refine xW_lv rfl (l := [(0, xR_ (x0)), (1, xI (x1)), (2, xI (x2)), (3, xI (x3)), (4, xI (x4)), (5, xI (x5)), (6, xI (xwr ((x6) + (1))))]) (xsb_of ⟨rfl, rfl, rfl, rfl, rfl, rfl, rfl, trivial⟩ (show [6, 0, 1, 2, 3, 4, 5].Nodup by decide)) ?_
  exact hr135 hx1 hx2 hx3 hx4 hx5 (xin_wr _) h
def f275_135b (q275 : Nat → Int → xj_M → Option (xj_M)) (r79 : Nat → Int → Int → Int → Int → Int → xj_M → Option (xj_M)) (r135 : Nat → Int → Int → Int → Int → Int → Int → xj_M → Option (xj_M)) (f : Nat) (x0 : Nat) (x1 : Int) (x2 : Int) (x3 : Int) (x4 : Int) (x5 : Int) (x6 : Int) (M : xj_M) : Option (xj_M) := ((xq_gr 15 29 (x0) M).bind fun v101 => ((xq_gr 14 29 (v101) M).bind fun v103 => ((xq_ai 3 (v103) (x2) M).bind fun v105 => (if (v105) ≤ (x6) then ((xq_is 15 (x0) M).bind fun _ => ((q275 (x0) (xwr ((x1) + (1))) M).bind fun M110 => ((xq_pi 15 37 (x0) (x4) M110).bind fun M112 => f275_241 q275 r79 f (x0) (x1) (x2) (x3) (x4) (x5) M112))) else ((xq_gr 15 29 (x0) M).bind fun v114 => ((xq_gr 14 33 (v114) M).bind fun v116 => ((xq_ai 3 (v116) (xwr ((xwr ((x2) * (4))) + (x6))) M).bind fun v118 => (if (v118) = (1) then ((xq_gr 15 29 (x0) M).bind fun v121 => ((xq_gr 14 34 (v121) M).bind fun v123 => ((xq_al (v123) (xwr ((xwr ((x2) * (4))) + (x6))) M).bind fun v125 => ((xq_gr 15 35 (x0) M).bind fun v127 => ((xq_gr 15 32 (x0) M).bind fun v129 => ((xq_is 15 (x0) M).bind fun _ => ((f261  f (x0) (x3) (x5) M).bind fun R133 => ((xq_al (v129) (xwr ((R133.1) + (x6))) R133.2).bind fun v135 => ((xq_sl (v127) (xwr (v125)) (v135) R133.2).bind fun M137 => ((xq_gi 15 37 (x0) M137).bind fun v139 => ((xq_pi 15 37 (x0) (xor_ (v139) (xshl (1) (xwr (v125)))) M137).bind fun M141 => f275_222 q275 r79 r135 f (x0) (x1) (x2) (x3) (x4) (x5) (x6) M141))))))))))) else f275_222 q275 r79 r135 f (x0) (x1) (x2) (x3) (x4) (x5) (x6) M))))))))
theorem k275_135b {d f : Nat} {q275 : Nat → Int → xj_M → Option (xj_M)} {r79 : Nat → Int → Int → Int → Int → Int → xj_M → Option (xj_M)} {r135 : Nat → Int → Int → Int → Int → Int → Int → xj_M → Option (xj_M)} (hq275 : ∀ {e : Nat} {a0 : Nat} {a1 : Int} {M : xj_M} {R : xj_M}, d ≤ e → xin a1 → q275 a0 a1 M = some R → xT e 275 [xR_ a0, xI a1] M (xQv R)) (hr79 : ∀ {x0 : Nat} {x1 : Int} {x2 : Int} {x3 : Int} {x4 : Int} {x5 : Int} {M : xj_M} {R : xj_M}, xin x1 → xin x2 → xin x3 → xin x4 → xin x5 → r79 x0 x1 x2 x3 x4 x5 M = some R → xW (d + 6) (none, d + 6, none) xr_275 (79, [(0, xR_ x0), (1, xI x1), (2, xI x2), (3, xI x3), (4, xI x4), (5, xI x5)], [], M) (xQv R)) (hr135 : ∀ {x0 : Nat} {x1 : Int} {x2 : Int} {x3 : Int} {x4 : Int} {x5 : Int} {x6 : Int} {M : xj_M} {R : xj_M}, xin x1 → xin x2 → xin x3 → xin x4 → xin x5 → xin x6 → r135 x0 x1 x2 x3 x4 x5 x6 M = some R → xW (d + 6) (none, d + 6, none) xr_275 (135, [(0, xR_ x0), (1, xI x1), (2, xI x2), (3, xI x3), (4, xI x4), (5, xI x5), (6, xI x6)], [], M) (xQv R)) {x0 : Nat} {x1 : Int} {x2 : Int} {x3 : Int} {x4 : Int} {x5 : Int} {x6 : Int} {M : xj_M} {R : xj_M} (hx1 : xin x1) (hx2 : xin x2) (hx3 : xin x3) (hx4 : xin x4) (hx5 : xin x5) (hx6 : xin x6) (h : f275_135b q275 r79 r135 f x0 x1 x2 x3 x4 x5 x6 M = some R) : xW (d + 6) (none, d + 6, none) xr_275 (135, [(0, xR_ x0), (1, xI x1), (2, xI x2), (3, xI x3), (4, xI x4), (5, xI x5), (6, xI x6)], [], M) (xQv R) := by
  unfold f275_135b at h
  refine xe_ldn (ins := .iload 6) (len := 2) (by decide +kernel) rfl rfl rfl rfl ?_
  refine xe_alr (ins := .aload_n 0) (len := 1) (i := 0) (by decide +kernel) rfl rfl rfl rfl rfl ?_
  obtain ⟨v101, e102, h⟩ := xbnd h
  refine xs_gr (i := 439) (c := 15) (k := 29) (by decide +kernel) (by decide) (by decide +kernel) e102 rfl ?_
  obtain ⟨v103, e104, h⟩ := xbnd h
  refine xs_gr (i := 373) (c := 14) (k := 29) (by decide +kernel) (by decide) (by decide +kernel) e104 rfl ?_
  refine xe_ldn (ins := .iload_n 2) (len := 1) (by decide +kernel) rfl rfl rfl rfl ?_
  obtain ⟨v105, e106, h⟩ := xbnd h
  refine xs_iald rfl (by decide +kernel) hx2 e106 rfl ?_
  refine xe_icmpge (off := 82) (t := 228) (by decide +kernel) (by decide) rfl hx6 (xq_ai_in e106) (fun c107 => ?_) (fun c107 => ?_)
  · rw [if_pos c107] at h
    refine xe_alr (ins := .aload_n 0) (len := 1) (i := 0) (by decide +kernel) rfl rfl rfl rfl rfl ?_
    refine xe_ldn (ins := .iload_n 1) (len := 1) (by decide +kernel) rfl rfl rfl rfl ?_
    refine xe_iconst (n := 1) (by decide +kernel) rfl ?_
    refine xe_iadd (by decide +kernel) rfl ?_
    obtain ⟨_, e109, h⟩ := xbnd h
    obtain ⟨M110, e108, h⟩ := xbnd h
    refine xs_cv (i := 507) (j := 275) (ar := [xI (xwr ((x1) + (1)))]) (rest := []) (r2 := xr_275) (by decide +kernel) (by decide +kernel) (by decide +kernel) xr_275_e rfl (by decide) (by decide) e109 ?_
    refine xc_v (hq275 (by omega) (xin_wr _) e108) rfl ?_
    refine xe_alr (ins := .aload_n 0) (len := 1) (i := 0) (by decide +kernel) rfl rfl rfl rfl rfl ?_
    refine xe_ldn (ins := .iload 4) (len := 2) (by decide +kernel) rfl rfl rfl rfl ?_
    obtain ⟨M112, e113, h⟩ := xbnd h
    refine xs_p (i := 479) (c := 15) (k := 37) (by decide +kernel) (by decide +kernel) (by decide +kernel) e113 rfl ?_
    refine xW_lv rfl (l := [(0, xR_ (x0)), (1, xI (x1)), (2, xI (x2)), (3, xI (x3)), (4, xI (x4)), (5, xI (x5))]) (xsb_of ⟨rfl, rfl, rfl, rfl, rfl, rfl, trivial⟩ (show [0, 1, 2, 3, 4, 5, 6].Nodup by decide)) ?_
    exact k275_241 hq275 hr79 hx1 hx2 hx3 hx4 hx5 h
  · rw [if_neg c107] at h
    refine xe_alr (ins := .aload_n 0) (len := 1) (i := 0) (by decide +kernel) rfl rfl rfl rfl rfl ?_
    obtain ⟨v114, e115, h⟩ := xbnd h
    refine xs_gr (i := 439) (c := 15) (k := 29) (by decide +kernel) (by decide) (by decide +kernel) e115 rfl ?_
    obtain ⟨v116, e117, h⟩ := xbnd h
    refine xs_gr (i := 376) (c := 14) (k := 33) (by decide +kernel) (by decide) (by decide +kernel) e117 rfl ?_
    refine xe_ldn (ins := .iload_n 2) (len := 1) (by decide +kernel) rfl rfl rfl rfl ?_
    refine xe_iconst (n := 4) (by decide +kernel) rfl ?_
    refine xe_imul (by decide +kernel) rfl ?_
    refine xe_ldn (ins := .iload 6) (len := 2) (by decide +kernel) rfl rfl rfl rfl ?_
    refine xe_iadd (by decide +kernel) rfl ?_
    obtain ⟨v118, e119, h⟩ := xbnd h
    refine xs_iald rfl (by decide +kernel) (xin_wr _) e119 rfl ?_
    refine xe_iconst (n := 1) (by decide +kernel) rfl ?_
    refine xe_icmpeq (off := 6) (t := 170) (by decide +kernel) (by decide) rfl (xq_ai_in e119) (show xin (1) by decide) (fun c120 => ?_) (fun c120 => ?_)
    · rw [if_pos c120] at h
      refine xe_alr (ins := .aload_n 0) (len := 1) (i := 0) (by decide +kernel) rfl rfl rfl rfl rfl ?_
      obtain ⟨v121, e122, h⟩ := xbnd h
      refine xs_gr (i := 439) (c := 15) (k := 29) (by decide +kernel) (by decide) (by decide +kernel) e122 rfl ?_
      obtain ⟨v123, e124, h⟩ := xbnd h
      refine xs_gr (i := 379) (c := 14) (k := 34) (by decide +kernel) (by decide) (by decide +kernel) e124 rfl ?_
      refine xe_ldn (ins := .iload_n 2) (len := 1) (by decide +kernel) rfl rfl rfl rfl ?_
      refine xe_iconst (n := 4) (by decide +kernel) rfl ?_
      refine xe_imul (by decide +kernel) rfl ?_
      refine xe_ldn (ins := .iload 6) (len := 2) (by decide +kernel) rfl rfl rfl rfl ?_
      refine xe_iadd (by decide +kernel) rfl ?_
      obtain ⟨v125, e126, h⟩ := xbnd h
      refine xs_lald (by decide +kernel) (xin_wr _) e126 rfl ?_
      refine xe_l2i (by decide +kernel) rfl ?_
      refine xe_isr (ins := .istore 7) (len := 2) (i := 7) (by decide +kernel) rfl rfl rfl (by decide) (xk_k (show ¬ (0 : Nat) = 7 by decide) (Or.inl (show ¬ (0 + 1 : Nat) = 7 by decide)) (xk_k (show ¬ (1 : Nat) = 7 by decide) (Or.inl (show ¬ (1 + 1 : Nat) = 7 by decide)) (xk_k (show ¬ (2 : Nat) = 7 by decide) (Or.inl (show ¬ (2 + 1 : Nat) = 7 by decide)) (xk_k (show ¬ (3 : Nat) = 7 by decide) (Or.inl (show ¬ (3 + 1 : Nat) = 7 by decide)) (xk_k (show ¬ (4 : Nat) = 7 by decide) (Or.inl (show ¬ (4 + 1 : Nat) = 7 by decide)) (xk_k (show ¬ (5 : Nat) = 7 by decide) (Or.inl (show ¬ (5 + 1 : Nat) = 7 by decide)) (xk_k (show ¬ (6 : Nat) = 7 by decide) (Or.inr (xI_cat _)) xk_n))))))) rfl ?_
      refine xe_alr (ins := .aload_n 0) (len := 1) (i := 0) (by decide +kernel) rfl rfl rfl rfl rfl ?_
      obtain ⟨v127, e128, h⟩ := xbnd h
      refine xs_gr (i := 459) (c := 15) (k := 35) (by decide +kernel) (by decide) (by decide +kernel) e128 rfl ?_
      refine xe_ldn (ins := .iload 7) (len := 2) (by decide +kernel) rfl rfl rfl rfl ?_
      refine xe_alr (ins := .aload_n 0) (len := 1) (i := 0) (by decide +kernel) rfl rfl rfl rfl rfl ?_
      obtain ⟨v129, e130, h⟩ := xbnd h
      refine xs_gr (i := 433) (c := 15) (k := 32) (by decide +kernel) (by decide) (by decide +kernel) e130 rfl ?_
      refine xe_alr (ins := .aload_n 0) (len := 1) (i := 0) (by decide +kernel) rfl rfl rfl rfl rfl ?_
      refine xe_ldn (ins := .iload_n 3) (len := 1) (by decide +kernel) rfl rfl rfl rfl ?_
      refine xe_ldn (ins := .iload 5) (len := 2) (by decide +kernel) rfl rfl rfl rfl ?_
      obtain ⟨_, e132, h⟩ := xbnd h
      obtain ⟨R133, e131, h⟩ := xbnd h
      refine xs_cv (i := 436) (j := 261) (ar := [xI (x5), xI (x3)]) (rest := [xR_ (v129), xI (xwr (v125)), xR_ (v127)]) (r2 := xr_261) (by decide +kernel) (by decide +kernel) (by decide +kernel) xr_261_e rfl (by decide) (by simp only [List.map_cons, List.map_nil, List.sum_cons, List.sum_nil, xR_cat, xI_cat, xZ_cat]; decide) e132 ?_
      refine xc_i (k261 (d := d + 5)  hx3 hx5 e131) rfl (fun hi134 => ?_)
      refine xe_ldn (ins := .iload 6) (len := 2) (by decide +kernel) rfl rfl rfl rfl ?_
      refine xe_iadd (by decide +kernel) rfl ?_
      obtain ⟨v135, e136, h⟩ := xbnd h
      refine xs_lald (by decide +kernel) (xin_wr _) e136 rfl ?_
      obtain ⟨M137, e138, h⟩ := xbnd h
      refine xs_last (by decide +kernel) (xin_wr _) e138 rfl ?_
      refine xe_alr (ins := .aload_n 0) (len := 1) (i := 0) (by decide +kernel) rfl rfl rfl rfl rfl ?_
      refine xe_dupr (by decide +kernel) rfl ?_
      obtain ⟨v139, e140, h⟩ := xbnd h
      refine xs_gi (i := 479) (c := 15) (k := 37) (by decide +kernel) (by decide) (by decide +kernel) e140 rfl ?_
      refine xe_iconst (n := 1) (by decide +kernel) rfl ?_
      refine xe_ldn (ins := .iload 7) (len := 2) (by decide +kernel) rfl rfl rfl rfl ?_
      refine xe_ishl (by decide +kernel) rfl ?_
      refine xe_ior (by decide +kernel) rfl ?_
      obtain ⟨M141, e142, h⟩ := xbnd h
      refine xs_p (i := 479) (c := 15) (k := 37) (by decide +kernel) (by decide +kernel) (by decide +kernel) e142 rfl ?_
      refine xW_lv rfl (l := [(0, xR_ (x0)), (1, xI (x1)), (2, xI (x2)), (3, xI (x3)), (4, xI (x4)), (5, xI (x5)), (6, xI (x6))]) (xsb_of ⟨rfl, rfl, rfl, rfl, rfl, rfl, rfl, trivial⟩ (show [7, 0, 1, 2, 3, 4, 5, 6].Nodup by decide)) ?_
      exact k275_222 hq275 hr79 hr135 hx1 hx2 hx3 hx4 hx5 hx6 h
    · rw [if_neg c120] at h
      refine xe_goto (off := 55) (nx := 222) (by decide +kernel) (by decide) ?_
      refine xW_lv rfl (l := [(0, xR_ (x0)), (1, xI (x1)), (2, xI (x2)), (3, xI (x3)), (4, xI (x4)), (5, xI (x5)), (6, xI (x6))]) (xsb_of ⟨rfl, rfl, rfl, rfl, rfl, rfl, rfl, trivial⟩ (show [0, 1, 2, 3, 4, 5, 6].Nodup by decide)) ?_
      exact k275_222 hq275 hr79 hr135 hx1 hx2 hx3 hx4 hx5 hx6 h
def f275_135 (q275 : Nat → Int → xj_M → Option (xj_M)) (r79 : Nat → Int → Int → Int → Int → Int → xj_M → Option (xj_M)) (f : Nat) : Nat → Nat → Int → Int → Int → Int → Int → Int → xj_M → Option (xj_M)
  | 0, _, _, _, _, _, _, _, _ => none
  | n + 1, x0, x1, x2, x3, x4, x5, x6, M => f275_135b q275 r79 (f275_135 q275 r79 f n) f x0 x1 x2 x3 x4 x5 x6 M
theorem k275_135 {d f : Nat} {q275 : Nat → Int → xj_M → Option (xj_M)} {r79 : Nat → Int → Int → Int → Int → Int → xj_M → Option (xj_M)} (hq275 : ∀ {e : Nat} {a0 : Nat} {a1 : Int} {M : xj_M} {R : xj_M}, d ≤ e → xin a1 → q275 a0 a1 M = some R → xT e 275 [xR_ a0, xI a1] M (xQv R)) (hr79 : ∀ {x0 : Nat} {x1 : Int} {x2 : Int} {x3 : Int} {x4 : Int} {x5 : Int} {M : xj_M} {R : xj_M}, xin x1 → xin x2 → xin x3 → xin x4 → xin x5 → r79 x0 x1 x2 x3 x4 x5 M = some R → xW (d + 6) (none, d + 6, none) xr_275 (79, [(0, xR_ x0), (1, xI x1), (2, xI x2), (3, xI x3), (4, xI x4), (5, xI x5)], [], M) (xQv R)) : ∀ {n : Nat} {x0 : Nat} {x1 : Int} {x2 : Int} {x3 : Int} {x4 : Int} {x5 : Int} {x6 : Int} {M : xj_M} {R : xj_M}, xin x1 → xin x2 → xin x3 → xin x4 → xin x5 → xin x6 → f275_135 q275 r79 f n x0 x1 x2 x3 x4 x5 x6 M = some R → xW (d + 6) (none, d + 6, none) xr_275 (135, [(0, xR_ x0), (1, xI x1), (2, xI x2), (3, xI x3), (4, xI x4), (5, xI x5), (6, xI x6)], [], M) (xQv R) := by
  intro n
  induction n with
  | zero => intros; rename_i h; cases h
  | succ n ih => intros; rename_i h; exact k275_135b hq275 hr79 ih (by assumption) (by assumption) (by assumption) (by assumption) (by assumption) (by assumption) h
def f275_247 (q275 : Nat → Int → xj_M → Option (xj_M))  (f : Nat)  (M : xj_M) : Option (xj_M) := (some M)
theorem k275_247 {d f : Nat} {q275 : Nat → Int → xj_M → Option (xj_M)}  (hq275 : ∀ {e : Nat} {a0 : Nat} {a1 : Int} {M : xj_M} {R : xj_M}, d ≤ e → xin a1 → q275 a0 a1 M = some R → xT e 275 [xR_ a0, xI a1] M (xQv R))   {M : xj_M} {R : xj_M}  (h : f275_247 q275  f  M = some R) : xW (d + 6) (none, d + 6, none) xr_275 (247, [], [], M) (xQv R) := by
  unfold f275_247 at h
  cases h
  exact xe_ret_v (by decide +kernel) rfl ⟨rfl, rfl⟩
def f275_79b (q275 : Nat → Int → xj_M → Option (xj_M)) (r79 : Nat → Int → Int → Int → Int → Int → xj_M → Option (xj_M)) (f : Nat) (x0 : Nat) (x1 : Int) (x2 : Int) (x3 : Int) (x4 : Int) (x5 : Int) (M : xj_M) : Option (xj_M) := ((xq_gr 15 33 (x0) M).bind fun v143 => ((xq_ai 3 (v143) (x3) M).bind fun v145 => (if (v145) ≤ (x5) then f275_247 q275  f  M else ((xq_gi 15 43 (x0) M).bind fun v148 => (if ¬ (v148) = 0 then f275_247 q275  f  M else ((xq_is 15 (x0) M).bind fun _ => ((f271  f (x0) (x3) (x5) M).bind fun R153 => (if (R153.1) = 0 then f275_241 q275 r79 f (x0) (x1) (x2) (x3) (x4) (x5) R153.2 else ((xq_is 15 (x0) R153.2).bind fun _ => ((f272  f (x0) (x2) (x3) (x5) R153.2).bind fun R158 => (if (R158.1) = 0 then f275_241 q275 r79 f (x0) (x1) (x2) (x3) (x4) (x5) R158.2 else ((xq_is 15 (x0) R158.2).bind fun _ => ((f274  f (x0) (x2) (x3) (x5) R158.2).bind fun R163 => (if (R163.1) = 0 then f275_135 q275 r79 f f (x0) (x1) (x2) (x3) (x4) (x5) (0) R163.2 else f275_241 q275 r79 f (x0) (x1) (x2) (x3) (x4) (x5) R163.2))))))))))))))
theorem k275_79b {d f : Nat} {q275 : Nat → Int → xj_M → Option (xj_M)} {r79 : Nat → Int → Int → Int → Int → Int → xj_M → Option (xj_M)} (hq275 : ∀ {e : Nat} {a0 : Nat} {a1 : Int} {M : xj_M} {R : xj_M}, d ≤ e → xin a1 → q275 a0 a1 M = some R → xT e 275 [xR_ a0, xI a1] M (xQv R)) (hr79 : ∀ {x0 : Nat} {x1 : Int} {x2 : Int} {x3 : Int} {x4 : Int} {x5 : Int} {M : xj_M} {R : xj_M}, xin x1 → xin x2 → xin x3 → xin x4 → xin x5 → r79 x0 x1 x2 x3 x4 x5 M = some R → xW (d + 6) (none, d + 6, none) xr_275 (79, [(0, xR_ x0), (1, xI x1), (2, xI x2), (3, xI x3), (4, xI x4), (5, xI x5)], [], M) (xQv R)) {x0 : Nat} {x1 : Int} {x2 : Int} {x3 : Int} {x4 : Int} {x5 : Int} {M : xj_M} {R : xj_M} (hx1 : xin x1) (hx2 : xin x2) (hx3 : xin x3) (hx4 : xin x4) (hx5 : xin x5) (h : f275_79b q275 r79 f x0 x1 x2 x3 x4 x5 M = some R) : xW (d + 6) (none, d + 6, none) xr_275 (79, [(0, xR_ x0), (1, xI x1), (2, xI x2), (3, xI x3), (4, xI x4), (5, xI x5)], [], M) (xQv R) := by
  unfold f275_79b at h
  refine xe_ldn (ins := .iload 5) (len := 2) (by decide +kernel) rfl rfl rfl rfl ?_
  refine xe_alr (ins := .aload_n 0) (len := 1) (i := 0) (by decide +kernel) rfl rfl rfl rfl rfl ?_
  obtain ⟨v143, e144, h⟩ := xbnd h
  refine xs_gr (i := 430) (c := 15) (k := 33) (by decide +kernel) (by decide) (by decide +kernel) e144 rfl ?_
  refine xe_ldn (ins := .iload_n 3) (len := 1) (by decide +kernel) rfl rfl rfl rfl ?_
  obtain ⟨v145, e146, h⟩ := xbnd h
  refine xs_iald rfl (by decide +kernel) hx3 e146 rfl ?_
  refine xe_icmpge (off := 160) (t := 247) (by decide +kernel) (by decide) rfl hx5 (xq_ai_in e146) (fun c147 => ?_) (fun c147 => ?_)
  · rw [if_pos c147] at h
    refine xW_lv rfl (l := []) (xsb_of trivial (show [0, 1, 2, 3, 4, 5].Nodup by decide)) ?_
    exact k275_247 hq275   h
  · rw [if_neg c147] at h
    refine xe_alr (ins := .aload_n 0) (len := 1) (i := 0) (by decide +kernel) rfl rfl rfl rfl rfl ?_
    obtain ⟨v148, e149, h⟩ := xbnd h
    refine xs_gi (i := 498) (c := 15) (k := 43) (by decide +kernel) (by decide) (by decide +kernel) e149 rfl ?_
    refine xe_ifne (off := 153) (t := 247) (by decide +kernel) (by decide) rfl (xq_gi_in e149) (fun c150 => ?_) (fun c150 => ?_)
    · rw [if_pos c150] at h
      refine xW_lv rfl (l := []) (xsb_of trivial (show [0, 1, 2, 3, 4, 5].Nodup by decide)) ?_
      exact k275_247 hq275   h
    · rw [if_neg c150] at h
      refine xe_alr (ins := .aload_n 0) (len := 1) (i := 0) (by decide +kernel) rfl rfl rfl rfl rfl ?_
      refine xe_ldn (ins := .iload_n 3) (len := 1) (by decide +kernel) rfl rfl rfl rfl ?_
      refine xe_ldn (ins := .iload 5) (len := 2) (by decide +kernel) rfl rfl rfl rfl ?_
      obtain ⟨_, e152, h⟩ := xbnd h
      obtain ⟨R153, e151, h⟩ := xbnd h
      refine xs_cv (i := 491) (j := 271) (ar := [xI (x5), xI (x3)]) (rest := []) (r2 := xr_271) (by decide +kernel) (by decide +kernel) (by decide +kernel) xr_271_e rfl (by decide) (by decide) e152 ?_
      refine xc_i (k271 (d := d + 5)  hx3 hx5 e151) rfl (fun hi154 => ?_)
      refine xe_ifeq (off := 137) (t := 241) (by decide +kernel) (by decide) rfl hi154 (fun c155 => ?_) (fun c155 => ?_)
      · rw [if_pos c155] at h
        refine xW_lv rfl (l := [(0, xR_ (x0)), (1, xI (x1)), (2, xI (x2)), (3, xI (x3)), (4, xI (x4)), (5, xI (x5))]) (xsb_of ⟨rfl, rfl, rfl, rfl, rfl, rfl, trivial⟩ (show [0, 1, 2, 3, 4, 5].Nodup by decide)) ?_
        exact k275_241 hq275 hr79 hx1 hx2 hx3 hx4 hx5 h
      · rw [if_neg c155] at h
        refine xe_alr (ins := .aload_n 0) (len := 1) (i := 0) (by decide +kernel) rfl rfl rfl rfl rfl ?_
        refine xe_ldn (ins := .iload_n 2) (len := 1) (by decide +kernel) rfl rfl rfl rfl ?_
        refine xe_ldn (ins := .iload_n 3) (len := 1) (by decide +kernel) rfl rfl rfl rfl ?_
        refine xe_ldn (ins := .iload 5) (len := 2) (by decide +kernel) rfl rfl rfl rfl ?_
        obtain ⟨_, e157, h⟩ := xbnd h
        obtain ⟨R158, e156, h⟩ := xbnd h
        refine xs_cv (i := 510) (j := 272) (ar := [xI (x5), xI (x3), xI (x2)]) (rest := []) (r2 := xr_272) (by decide +kernel) (by decide +kernel) (by decide +kernel) xr_272_e rfl (by decide) (by decide) e157 ?_
        refine xc_i (k272 (d := d + 4)  hx2 hx3 hx5 e156) rfl (fun hi159 => ?_)
        refine xe_ifeq (off := 126) (t := 241) (by decide +kernel) (by decide) rfl hi159 (fun c160 => ?_) (fun c160 => ?_)
        · rw [if_pos c160] at h
          refine xW_lv rfl (l := [(0, xR_ (x0)), (1, xI (x1)), (2, xI (x2)), (3, xI (x3)), (4, xI (x4)), (5, xI (x5))]) (xsb_of ⟨rfl, rfl, rfl, rfl, rfl, rfl, trivial⟩ (show [0, 1, 2, 3, 4, 5].Nodup by decide)) ?_
          exact k275_241 hq275 hr79 hx1 hx2 hx3 hx4 hx5 h
        · rw [if_neg c160] at h
          refine xe_alr (ins := .aload_n 0) (len := 1) (i := 0) (by decide +kernel) rfl rfl rfl rfl rfl ?_
          refine xe_ldn (ins := .iload_n 2) (len := 1) (by decide +kernel) rfl rfl rfl rfl ?_
          refine xe_ldn (ins := .iload_n 3) (len := 1) (by decide +kernel) rfl rfl rfl rfl ?_
          refine xe_ldn (ins := .iload 5) (len := 2) (by decide +kernel) rfl rfl rfl rfl ?_
          obtain ⟨_, e162, h⟩ := xbnd h
          obtain ⟨R163, e161, h⟩ := xbnd h
          refine xs_cv (i := 514) (j := 274) (ar := [xI (x5), xI (x3), xI (x2)]) (rest := []) (r2 := xr_274) (by decide +kernel) (by decide +kernel) (by decide +kernel) xr_274_e rfl (by decide) (by decide) e162 ?_
          refine xc_i (k274 (d := d + 3)  hx2 hx3 hx5 e161) rfl (fun hi164 => ?_)
          refine xe_ifeq (off := 6) (t := 132) (by decide +kernel) (by decide) rfl hi164 (fun c165 => ?_) (fun c165 => ?_)
          · rw [if_pos c165] at h
            refine xe_iconst (n := 0) (by decide +kernel) rfl ?_
            refine xe_isr (ins := .istore 6) (len := 2) (i := 6) (by decide +kernel) rfl rfl rfl (by decide) (xk_k (show ¬ (0 : Nat) = 6 by decide) (Or.inl (show ¬ (0 + 1 : Nat) = 6 by decide)) (xk_k (show ¬ (1 : Nat) = 6 by decide) (Or.inl (show ¬ (1 + 1 : Nat) = 6 by decide)) (xk_k (show ¬ (2 : Nat) = 6 by decide) (Or.inl (show ¬ (2 + 1 : Nat) = 6 by decide)) (xk_k (show ¬ (3 : Nat) = 6 by decide) (Or.inl (show ¬ (3 + 1 : Nat) = 6 by decide)) (xk_k (show ¬ (4 : Nat) = 6 by decide) (Or.inl (show ¬ (4 + 1 : Nat) = 6 by decide)) (xk_k (show ¬ (5 : Nat) = 6 by decide) (Or.inr (xI_cat _)) xk_n)))))) rfl ?_
            refine xW_lv rfl (l := [(0, xR_ (x0)), (1, xI (x1)), (2, xI (x2)), (3, xI (x3)), (4, xI (x4)), (5, xI (x5)), (6, xI (0))]) (xsb_of ⟨rfl, rfl, rfl, rfl, rfl, rfl, rfl, trivial⟩ (show [6, 0, 1, 2, 3, 4, 5].Nodup by decide)) ?_
            exact k275_135 hq275 hr79 hx1 hx2 hx3 hx4 hx5 (show xin (0) by decide) h
          · rw [if_neg c165] at h
            refine xe_goto (off := 112) (nx := 241) (by decide +kernel) (by decide) ?_
            refine xW_lv rfl (l := [(0, xR_ (x0)), (1, xI (x1)), (2, xI (x2)), (3, xI (x3)), (4, xI (x4)), (5, xI (x5))]) (xsb_of ⟨rfl, rfl, rfl, rfl, rfl, rfl, trivial⟩ (show [0, 1, 2, 3, 4, 5].Nodup by decide)) ?_
            exact k275_241 hq275 hr79 hx1 hx2 hx3 hx4 hx5 h
def f275_79 (q275 : Nat → Int → xj_M → Option (xj_M))  (f : Nat) : Nat → Nat → Int → Int → Int → Int → Int → xj_M → Option (xj_M)
  | 0, _, _, _, _, _, _, _ => none
  | n + 1, x0, x1, x2, x3, x4, x5, M => f275_79b q275  (f275_79 q275  f n) f x0 x1 x2 x3 x4 x5 M
theorem k275_79 {d f : Nat} {q275 : Nat → Int → xj_M → Option (xj_M)}  (hq275 : ∀ {e : Nat} {a0 : Nat} {a1 : Int} {M : xj_M} {R : xj_M}, d ≤ e → xin a1 → q275 a0 a1 M = some R → xT e 275 [xR_ a0, xI a1] M (xQv R))  : ∀ {n : Nat} {x0 : Nat} {x1 : Int} {x2 : Int} {x3 : Int} {x4 : Int} {x5 : Int} {M : xj_M} {R : xj_M}, xin x1 → xin x2 → xin x3 → xin x4 → xin x5 → f275_79 q275  f n x0 x1 x2 x3 x4 x5 M = some R → xW (d + 6) (none, d + 6, none) xr_275 (79, [(0, xR_ x0), (1, xI x1), (2, xI x2), (3, xI x3), (4, xI x4), (5, xI x5)], [], M) (xQv R) := by
  intro n
  induction n with
  | zero => intros; rename_i h; cases h
  | succ n ih => intros; rename_i h; exact k275_79b hq275  ih (by assumption) (by assumption) (by assumption) (by assumption) (by assumption) h
def f275b (q275 : Nat → Int → xj_M → Option (xj_M)) (f : Nat) (a0 : Nat) (a1 : Int) (M : xj_M) : Option (xj_M) := ((xq_gi 15 43 (a0) M).bind fun v166 => (if (v166) = 0 then ((xq_gr 15 29 (a0) M).bind fun v169 => ((xq_gr 14 21 (v169) M).bind fun v171 => ((xq_gi 15 39 (a0) M).bind fun v173 => ((xq_ai 3 (v171) (v173) M).bind fun v175 => (if ¬ (a1) = (v175) then ((xq_gi 15 39 (a0) M).bind fun v178 => ((xq_gr 15 29 (a0) M).bind fun v180 => ((xq_gr 14 27 (v180) M).bind fun v182 => ((xq_ai 3 (v182) (xwr ((xwr ((v178) * (8))) + (a1))) M).bind fun v184 => (if (v184) = (1) then ((xq_gr 15 29 (a0) M).bind fun v187 => ((xq_gr 14 28 (v187) M).bind fun v189 => ((xq_ai 3 (v189) (xwr ((xwr ((v178) * (8))) + (a1))) M).bind fun v191 => ((xq_gi 15 37 (a0) M).bind fun v193 => f275_79 q275  f f (a0) (a1) (xwr ((xwr ((v178) * (8))) + (a1))) (v191) (v193) (0) M)))) else ((xq_is 15 (a0) M).bind fun _ => ((q275 (a0) (xwr ((a1) + (1))) M).bind fun M197 => (some M197)))))))) else ((xq_is 15 (a0) M).bind fun _ => ((f276  f (a0) M).bind fun M201 => (some M201)))))))) else (some M)))
theorem k275b {d f : Nat} {q275 : Nat → Int → xj_M → Option (xj_M)} (hq275 : ∀ {e : Nat} {a0 : Nat} {a1 : Int} {M : xj_M} {R : xj_M}, d ≤ e → xin a1 → q275 a0 a1 M = some R → xT e 275 [xR_ a0, xI a1] M (xQv R)) {a0 : Nat} {a1 : Int} {M : xj_M} {R : xj_M} (ha1 : xin a1) (h : f275b q275 f a0 a1 M = some R) : xT (d + 7) 275 [xR_ a0, xI a1] M (xQv R) := by
  refine xT_m xr_275_e (X := (none, d + 6, none)) rfl (xa_1 (xR_cat _) (xa_1 (xI_cat _) xa_n)) (by decide) ?_
  unfold f275b at h
  refine xe_alr (ins := .aload_n 0) (len := 1) (i := 0) (by decide +kernel) rfl rfl rfl rfl rfl ?_
  obtain ⟨v166, e167, h⟩ := xbnd h
  refine xs_gi (i := 498) (c := 15) (k := 43) (by decide +kernel) (by decide) (by decide +kernel) e167 rfl ?_
  refine xe_ifeq (off := 4) (t := 8) (by decide +kernel) (by decide) rfl (xq_gi_in e167) (fun c168 => ?_) (fun c168 => ?_)
  · rw [if_pos c168] at h
    refine xe_ldn (ins := .iload_n 1) (len := 1) (by decide +kernel) rfl rfl rfl rfl ?_
    refine xe_alr (ins := .aload_n 0) (len := 1) (i := 0) (by decide +kernel) rfl rfl rfl rfl rfl ?_
    obtain ⟨v169, e170, h⟩ := xbnd h
    refine xs_gr (i := 439) (c := 15) (k := 29) (by decide +kernel) (by decide) (by decide +kernel) e170 rfl ?_
    obtain ⟨v171, e172, h⟩ := xbnd h
    refine xs_gr (i := 268) (c := 14) (k := 21) (by decide +kernel) (by decide) (by decide +kernel) e172 rfl ?_
    refine xe_alr (ins := .aload_n 0) (len := 1) (i := 0) (by decide +kernel) rfl rfl rfl rfl rfl ?_
    obtain ⟨v173, e174, h⟩ := xbnd h
    refine xs_gi (i := 501) (c := 15) (k := 39) (by decide +kernel) (by decide) (by decide +kernel) e174 rfl ?_
    obtain ⟨v175, e176, h⟩ := xbnd h
    refine xs_iald rfl (by decide +kernel) (xq_gi_in e174) e176 rfl ?_
    refine xe_icmpne (off := 8) (t := 29) (by decide +kernel) (by decide) rfl ha1 (xq_ai_in e176) (fun c177 => ?_) (fun c177 => ?_)
    · rw [if_pos c177] at h
      refine xe_alr (ins := .aload_n 0) (len := 1) (i := 0) (by decide +kernel) rfl rfl rfl rfl rfl ?_
      obtain ⟨v178, e179, h⟩ := xbnd h
      refine xs_gi (i := 501) (c := 15) (k := 39) (by decide +kernel) (by decide) (by decide +kernel) e179 rfl ?_
      refine xe_bipush (n := 8) (by decide +kernel) (by decide) rfl ?_
      refine xe_imul (by decide +kernel) rfl ?_
      refine xe_ldn (ins := .iload_n 1) (len := 1) (by decide +kernel) rfl rfl rfl rfl ?_
      refine xe_iadd (by decide +kernel) rfl ?_
      refine xe_isr (ins := .istore_n 2) (len := 1) (i := 2) (by decide +kernel) rfl rfl rfl (by decide) (xk_k (show ¬ (0 : Nat) = 2 by decide) (Or.inl (show ¬ (0 + 1 : Nat) = 2 by decide)) (xk_k (show ¬ (1 : Nat) = 2 by decide) (Or.inr (xI_cat _)) xk_n)) rfl ?_
      refine xe_alr (ins := .aload_n 0) (len := 1) (i := 0) (by decide +kernel) rfl rfl rfl rfl rfl ?_
      obtain ⟨v180, e181, h⟩ := xbnd h
      refine xs_gr (i := 439) (c := 15) (k := 29) (by decide +kernel) (by decide) (by decide +kernel) e181 rfl ?_
      obtain ⟨v182, e183, h⟩ := xbnd h
      refine xs_gr (i := 357) (c := 14) (k := 27) (by decide +kernel) (by decide) (by decide +kernel) e183 rfl ?_
      refine xe_ldn (ins := .iload_n 2) (len := 1) (by decide +kernel) rfl rfl rfl rfl ?_
      obtain ⟨v184, e185, h⟩ := xbnd h
      refine xs_iald rfl (by decide +kernel) (xin_wr _) e185 rfl ?_
      refine xe_iconst (n := 1) (by decide +kernel) rfl ?_
      refine xe_icmpeq (off := 11) (t := 60) (by decide +kernel) (by decide) rfl (xq_ai_in e185) (show xin (1) by decide) (fun c186 => ?_) (fun c186 => ?_)
      · rw [if_pos c186] at h
        refine xe_alr (ins := .aload_n 0) (len := 1) (i := 0) (by decide +kernel) rfl rfl rfl rfl rfl ?_
        obtain ⟨v187, e188, h⟩ := xbnd h
        refine xs_gr (i := 439) (c := 15) (k := 29) (by decide +kernel) (by decide) (by decide +kernel) e188 rfl ?_
        obtain ⟨v189, e190, h⟩ := xbnd h
        refine xs_gr (i := 363) (c := 14) (k := 28) (by decide +kernel) (by decide) (by decide +kernel) e190 rfl ?_
        refine xe_ldn (ins := .iload_n 2) (len := 1) (by decide +kernel) rfl rfl rfl rfl ?_
        obtain ⟨v191, e192, h⟩ := xbnd h
        refine xs_iald rfl (by decide +kernel) (xin_wr _) e192 rfl ?_
        refine xe_isr (ins := .istore_n 3) (len := 1) (i := 3) (by decide +kernel) rfl rfl rfl (by decide) (xk_k (show ¬ (2 : Nat) = 3 by decide) (Or.inr (xI_cat _)) (xk_k (show ¬ (0 : Nat) = 3 by decide) (Or.inl (show ¬ (0 + 1 : Nat) = 3 by decide)) (xk_k (show ¬ (1 : Nat) = 3 by decide) (Or.inl (show ¬ (1 + 1 : Nat) = 3 by decide)) xk_n))) rfl ?_
        refine xe_alr (ins := .aload_n 0) (len := 1) (i := 0) (by decide +kernel) rfl rfl rfl rfl rfl ?_
        obtain ⟨v193, e194, h⟩ := xbnd h
        refine xs_gi (i := 479) (c := 15) (k := 37) (by decide +kernel) (by decide) (by decide +kernel) e194 rfl ?_
        refine xe_isr (ins := .istore 4) (len := 2) (i := 4) (by decide +kernel) rfl rfl rfl (by decide) (xk_k (show ¬ (3 : Nat) = 4 by decide) (Or.inr (xI_cat _)) (xk_k (show ¬ (2 : Nat) = 4 by decide) (Or.inl (show ¬ (2 + 1 : Nat) = 4 by decide)) (xk_k (show ¬ (0 : Nat) = 4 by decide) (Or.inl (show ¬ (0 + 1 : Nat) = 4 by decide)) (xk_k (show ¬ (1 : Nat) = 4 by decide) (Or.inl (show ¬ (1 + 1 : Nat) = 4 by decide)) xk_n)))) rfl ?_
        refine xe_iconst (n := 0) (by decide +kernel) rfl ?_
        refine xe_isr (ins := .istore 5) (len := 2) (i := 5) (by decide +kernel) rfl rfl rfl (by decide) (xk_k (show ¬ (4 : Nat) = 5 by decide) (Or.inr (xI_cat _)) (xk_k (show ¬ (3 : Nat) = 5 by decide) (Or.inl (show ¬ (3 + 1 : Nat) = 5 by decide)) (xk_k (show ¬ (2 : Nat) = 5 by decide) (Or.inl (show ¬ (2 + 1 : Nat) = 5 by decide)) (xk_k (show ¬ (0 : Nat) = 5 by decide) (Or.inl (show ¬ (0 + 1 : Nat) = 5 by decide)) (xk_k (show ¬ (1 : Nat) = 5 by decide) (Or.inl (show ¬ (1 + 1 : Nat) = 5 by decide)) xk_n))))) rfl ?_
        refine xW_lv rfl (l := [(0, xR_ (a0)), (1, xI (a1)), (2, xI (xwr ((xwr ((v178) * (8))) + (a1)))), (3, xI (v191)), (4, xI (v193)), (5, xI (0))]) (xsb_of ⟨rfl, rfl, rfl, rfl, rfl, rfl, trivial⟩ (show [5, 4, 3, 2, 0, 1].Nodup by decide)) ?_
        exact k275_79 hq275  ha1 (xin_wr _) (xq_ai_in e192) (xq_gi_in e194) (show xin (0) by decide) h
      · rw [if_neg c186] at h
        refine xe_alr (ins := .aload_n 0) (len := 1) (i := 0) (by decide +kernel) rfl rfl rfl rfl rfl ?_
        refine xe_ldn (ins := .iload_n 1) (len := 1) (by decide +kernel) rfl rfl rfl rfl ?_
        refine xe_iconst (n := 1) (by decide +kernel) rfl ?_
        refine xe_iadd (by decide +kernel) rfl ?_
        obtain ⟨_, e196, h⟩ := xbnd h
        obtain ⟨M197, e195, h⟩ := xbnd h
        refine xs_cv (i := 507) (j := 275) (ar := [xI (xwr ((a1) + (1)))]) (rest := []) (r2 := xr_275) (by decide +kernel) (by decide +kernel) (by decide +kernel) xr_275_e rfl (by decide) (by decide) e196 ?_
        refine xc_v (hq275 (by omega) (xin_wr _) e195) rfl ?_
        cases h
        exact xe_ret_v (by decide +kernel) rfl ⟨rfl, rfl⟩
    · rw [if_neg c177] at h
      refine xe_alr (ins := .aload_n 0) (len := 1) (i := 0) (by decide +kernel) rfl rfl rfl rfl rfl ?_
      obtain ⟨_, e200, h⟩ := xbnd h
      obtain ⟨M201, e199, h⟩ := xbnd h
      refine xs_cv (i := 504) (j := 276) (ar := []) (rest := []) (r2 := xr_276) (by decide +kernel) (by decide +kernel) (by decide +kernel) xr_276_e rfl (by decide) (by decide) e200 ?_
      refine xc_v (k276 (d := d + 0)   e199) rfl ?_
      cases h
      exact xe_ret_v (by decide +kernel) rfl ⟨rfl, rfl⟩
  · rw [if_neg c168] at h
    cases h
    exact xe_ret_v (by decide +kernel) rfl ⟨rfl, rfl⟩
def f275r (f : Nat) : Nat → Nat → Int → xj_M → Option (xj_M)
  | 0, _, _, _ => none
  | n + 1, a0, a1, M => f275b (f275r f n) f a0 a1 M
theorem k275r {f : Nat} : ∀ {n d e : Nat} {a0 : Nat} {a1 : Int} {M : xj_M} {R : xj_M}, d + 7 * n ≤ e → xin a1 → f275r f n a0 a1 M = some R → xT e 275 [xR_ a0, xI a1] M (xQv R) := by
  intro n
  induction n with
  | zero => intros; rename_i h; cases h
  | succ n ih =>
    intro d e
    intros
    rename_i h
    obtain ⟨d2, rfl⟩ : ∃ d2, e = d2 + 7 := ⟨e - 7, by omega⟩
    refine k275b (d := d2) ?_ (by assumption) h
    intros
    rename_i g
    exact ih (d := d) (by omega) (by assumption) g
def f275 (f : Nat) (a0 : Nat) (a1 : Int) (M : xj_M) : Option (xj_M) := f275r f 12 a0 a1 M
theorem k275 {d f : Nat} {a0 : Nat} {a1 : Int} {M : xj_M} {R : xj_M} (ha1 : xin a1) (h : f275 f a0 a1 M = some R) : xT (d + 84) 275 [xR_ a0, xI a1] M (xQv R) := k275r (d := 0) (by omega) ha1 h
-- ChangeHouseModel.gatherAll
def xr_288 : xj_mR := (15, yX15_gatherAll, cX15_gatherAll, 3, (Option.some Jvm.ClassFile.FieldType.boolean), 1, false, (9, 167), (1, 12))
set_option maxRecDepth 20000 in
theorem xr_288_e : xj_row 288 = some xr_288 := rfl
def f288_124  (r15 : Nat → Int → xj_M → Option (Int × xj_M)) (f : Nat) (x0 : Nat) (x1 : Int) (M : xj_M) : Option (Int × xj_M) := ((xq_pi 15 59 (x0) (1) M).bind fun M101 => r15 (x0) (x1) M101)
theorem k288_124 {d f : Nat}  {r15 : Nat → Int → xj_M → Option (Int × xj_M)}  (hr15 : ∀ {x0 : Nat} {x1 : Int} {M : xj_M} {R : Int × xj_M}, xin x1 → r15 x0 x1 M = some R → xW (d + 84) (none, d + 84, none) xr_288 (15, [(0, xR_ x0), (1, xI x1)], [], M) (xQi R)) {x0 : Nat} {x1 : Int} {M : xj_M} {R : Int × xj_M} (hx1 : xin x1) (h : f288_124  r15 f x0 x1 M = some R) : xW (d + 84) (none, d + 84, none) xr_288 (124, [(0, xR_ x0), (1, xI x1)], [], M) (xQi R) := by
  unfold f288_124 at h
  refine xe_alr (ins := .aload_n 0) (len := 1) (i := 0) (by decide +kernel) rfl rfl rfl rfl rfl ?_
  refine xe_iconst (n := 1) (by decide +kernel) rfl ?_
  obtain ⟨M101, e102, h⟩ := xbnd h
  refine xs_p (i := 589) (c := 15) (k := 59) (by decide +kernel) (by decide +kernel) (by decide +kernel) e102 rfl ?_
  refine xe_goto (off := -114) (nx := 15) (by decide +kernel) (by decide) ?_
  refine xW_lv rfl (l := [(0, xR_ (x0)), (1, xI (x1))]) (xsb_of ⟨rfl, rfl, trivial⟩ (show [0, 1].Nodup by decide)) ?_
  exact hr15 hx1 h
def f288_85b  (r15 : Nat → Int → xj_M → Option (Int × xj_M)) (r85 : Nat → Int → Int → xj_M → Option (Int × xj_M)) (f : Nat) (x0 : Nat) (x1 : Int) (x2 : Int) (M : xj_M) : Option (Int × xj_M) := (if (4) ≤ (x2) then f288_124  r15 f (x0) (x1) M else ((xq_gi 15 58 (x0) M).bind fun v104 => (if (v104) ≤ 0 then f288_124  r15 f (x0) (x1) M else ((xq_gr 15 57 (x0) M).bind fun v107 => ((xq_gr 15 55 (x0) M).bind fun v109 => ((xq_gi 15 58 (x0) M).bind fun v111 => ((xq_al (v109) (xwr ((xwr ((4) * (xwr ((v111) - (1))))) + (x2))) M).bind fun v113 => ((xq_sl (v107) (x2) (v113) M).bind fun M115 => r85 (x0) (x1) (xwr ((x2) + (1))) M115))))))))
theorem k288_85b {d f : Nat}  {r15 : Nat → Int → xj_M → Option (Int × xj_M)} {r85 : Nat → Int → Int → xj_M → Option (Int × xj_M)}  (hr15 : ∀ {x0 : Nat} {x1 : Int} {M : xj_M} {R : Int × xj_M}, xin x1 → r15 x0 x1 M = some R → xW (d + 84) (none, d + 84, none) xr_288 (15, [(0, xR_ x0), (1, xI x1)], [], M) (xQi R)) (hr85 : ∀ {x0 : Nat} {x1 : Int} {x2 : Int} {M : xj_M} {R : Int × xj_M}, xin x1 → xin x2 → r85 x0 x1 x2 M = some R → xW (d + 84) (none, d + 84, none) xr_288 (85, [(0, xR_ x0), (1, xI x1), (2, xI x2)], [], M) (xQi R)) {x0 : Nat} {x1 : Int} {x2 : Int} {M : xj_M} {R : Int × xj_M} (hx1 : xin x1) (hx2 : xin x2) (h : f288_85b  r15 r85 f x0 x1 x2 M = some R) : xW (d + 84) (none, d + 84, none) xr_288 (85, [(0, xR_ x0), (1, xI x1), (2, xI x2)], [], M) (xQi R) := by
  unfold f288_85b at h
  refine xe_ldn (ins := .iload_n 2) (len := 1) (by decide +kernel) rfl rfl rfl rfl ?_
  refine xe_iconst (n := 4) (by decide +kernel) rfl ?_
  refine xe_icmpge (off := 37) (t := 124) (by decide +kernel) (by decide) rfl hx2 (show xin (4) by decide) (fun c103 => ?_) (fun c103 => ?_)
  · rw [if_pos c103] at h
    refine xW_lv rfl (l := [(0, xR_ (x0)), (1, xI (x1))]) (xsb_of ⟨rfl, rfl, trivial⟩ (show [0, 1, 2].Nodup by decide)) ?_
    exact k288_124  hr15 hx1 h
  · rw [if_neg c103] at h
    refine xe_alr (ins := .aload_n 0) (len := 1) (i := 0) (by decide +kernel) rfl rfl rfl rfl rfl ?_
    obtain ⟨v104, e105, h⟩ := xbnd h
    refine xs_gi (i := 595) (c := 15) (k := 58) (by decide +kernel) (by decide) (by decide +kernel) e105 rfl ?_
    refine xe_ifle (off := 30) (t := 124) (by decide +kernel) (by decide) rfl (xq_gi_in e105) (fun c106 => ?_) (fun c106 => ?_)
    · rw [if_pos c106] at h
      refine xW_lv rfl (l := [(0, xR_ (x0)), (1, xI (x1))]) (xsb_of ⟨rfl, rfl, trivial⟩ (show [0, 1, 2].Nodup by decide)) ?_
      exact k288_124  hr15 hx1 h
    · rw [if_neg c106] at h
      refine xe_alr (ins := .aload_n 0) (len := 1) (i := 0) (by decide +kernel) rfl rfl rfl rfl rfl ?_
      obtain ⟨v107, e108, h⟩ := xbnd h
      refine xs_gr (i := 592) (c := 15) (k := 57) (by decide +kernel) (by decide) (by decide +kernel) e108 rfl ?_
      refine xe_ldn (ins := .iload_n 2) (len := 1) (by decide +kernel) rfl rfl rfl rfl ?_
      refine xe_alr (ins := .aload_n 0) (len := 1) (i := 0) (by decide +kernel) rfl rfl rfl rfl rfl ?_
      obtain ⟨v109, e110, h⟩ := xbnd h
      refine xs_gr (i := 598) (c := 15) (k := 55) (by decide +kernel) (by decide) (by decide +kernel) e110 rfl ?_
      refine xe_iconst (n := 4) (by decide +kernel) rfl ?_
      refine xe_alr (ins := .aload_n 0) (len := 1) (i := 0) (by decide +kernel) rfl rfl rfl rfl rfl ?_
      obtain ⟨v111, e112, h⟩ := xbnd h
      refine xs_gi (i := 595) (c := 15) (k := 58) (by decide +kernel) (by decide) (by decide +kernel) e112 rfl ?_
      refine xe_iconst (n := 1) (by decide +kernel) rfl ?_
      refine xe_isub (by decide +kernel) rfl ?_
      refine xe_imul (by decide +kernel) rfl ?_
      refine xe_ldn (ins := .iload_n 2) (len := 1) (by decide +kernel) rfl rfl rfl rfl ?_
      refine xe_iadd (by decide +kernel) rfl ?_
      obtain ⟨v113, e114, h⟩ := xbnd h
      refine xs_lald (by decide +kernel) (xin_wr _) e114 rfl ?_
      obtain ⟨M115, e116, h⟩ := xbnd h
      refine xs_last (by decide +kernel) hx2 e116 rfl ?_
      refine xe_iincr (i := 2) (n := 1) (by decide +kernel) (by decide) rfl (xk_k (show ¬ (0 : Nat) = 2 by decide) (Or.inl (show ¬ (0 + 1 : Nat) = 2 by decide)) (xk_k (show ¬ (1 : Nat) = 2 by decide) (Or.inr (xI_cat _)) (xk_d rfl xk_n))) rfl ?_
      refine xe_goto (off := -36) (nx := 85) (by decide +kernel) (by decide) ?_
      refine xW_lv rfl (l := [(0, xR_ (x0)), (1, xI (x1)), (2, xI (xwr ((x2) + (1))))]) (xsb_of ⟨rfl, rfl, rfl, trivial⟩ (show [2, 0, 1].Nodup by decide)) ?_
      exact hr85 hx1 (xin_wr _) h
def f288_85  (r15 : Nat → Int → xj_M → Option (Int × xj_M)) (f : Nat) : Nat → Nat → Int → Int → xj_M → Option (Int × xj_M)
  | 0, _, _, _, _ => none
  | n + 1, x0, x1, x2, M => f288_85b  r15 (f288_85  r15 f n) f x0 x1 x2 M
theorem k288_85 {d f : Nat}  {r15 : Nat → Int → xj_M → Option (Int × xj_M)}  (hr15 : ∀ {x0 : Nat} {x1 : Int} {M : xj_M} {R : Int × xj_M}, xin x1 → r15 x0 x1 M = some R → xW (d + 84) (none, d + 84, none) xr_288 (15, [(0, xR_ x0), (1, xI x1)], [], M) (xQi R)) : ∀ {n : Nat} {x0 : Nat} {x1 : Int} {x2 : Int} {M : xj_M} {R : Int × xj_M}, xin x1 → xin x2 → f288_85  r15 f n x0 x1 x2 M = some R → xW (d + 84) (none, d + 84, none) xr_288 (85, [(0, xR_ x0), (1, xI x1), (2, xI x2)], [], M) (xQi R) := by
  intro n
  induction n with
  | zero => intros; rename_i h; cases h
  | succ n ih => intros; rename_i h; exact k288_85b  hr15 ih (by assumption) (by assumption) h
def f288_83  (r15 : Nat → Int → xj_M → Option (Int × xj_M)) (f : Nat) (x0 : Nat) (x1 : Int) (M : xj_M) : Option (Int × xj_M) := f288_85  r15 f f (x0) (x1) (0) M
theorem k288_83 {d f : Nat}  {r15 : Nat → Int → xj_M → Option (Int × xj_M)}  (hr15 : ∀ {x0 : Nat} {x1 : Int} {M : xj_M} {R : Int × xj_M}, xin x1 → r15 x0 x1 M = some R → xW (d + 84) (none, d + 84, none) xr_288 (15, [(0, xR_ x0), (1, xI x1)], [], M) (xQi R)) {x0 : Nat} {x1 : Int} {M : xj_M} {R : Int × xj_M} (hx1 : xin x1) (h : f288_83  r15 f x0 x1 M = some R) : xW (d + 84) (none, d + 84, none) xr_288 (83, [(0, xR_ x0), (1, xI x1)], [], M) (xQi R) := by
  unfold f288_83 at h
  refine xe_iconst (n := 0) (by decide +kernel) rfl ?_
  refine xe_isr (ins := .istore_n 2) (len := 1) (i := 2) (by decide +kernel) rfl rfl rfl (by decide) (xk_k (show ¬ (0 : Nat) = 2 by decide) (Or.inl (show ¬ (0 + 1 : Nat) = 2 by decide)) (xk_k (show ¬ (1 : Nat) = 2 by decide) (Or.inr (xI_cat _)) xk_n)) rfl ?_
  refine xW_lv rfl (l := [(0, xR_ (x0)), (1, xI (x1)), (2, xI (0))]) (xsb_of ⟨rfl, rfl, rfl, trivial⟩ (show [2, 0, 1].Nodup by decide)) ?_
  exact k288_85  hr15 hx1 (show xin (0) by decide) h
def f288_51b  (r15 : Nat → Int → xj_M → Option (Int × xj_M)) (r51 : Nat → Int → Int → xj_M → Option (Int × xj_M)) (f : Nat) (x0 : Nat) (x1 : Int) (x2 : Int) (M : xj_M) : Option (Int × xj_M) := ((xq_gi 15 58 (x0) M).bind fun v117 => (if (v117) ≤ (x2) then f288_83  r15 f (x0) (x1) M else ((xq_gi 15 43 (x0) M).bind fun v120 => (if ¬ (v120) = 0 then f288_83  r15 f (x0) (x1) M else ((xq_is 15 (x0) M).bind fun _ => ((f289  f (x0) (x2) (x1) M).bind fun R125 => (if (R125.1) = 0 then r51 (x0) (x1) (xwr ((x2) + (1))) R125.2 else (some (1, R125.2)))))))))
theorem k288_51b {d f : Nat}  {r15 : Nat → Int → xj_M → Option (Int × xj_M)} {r51 : Nat → Int → Int → xj_M → Option (Int × xj_M)}  (hr15 : ∀ {x0 : Nat} {x1 : Int} {M : xj_M} {R : Int × xj_M}, xin x1 → r15 x0 x1 M = some R → xW (d + 84) (none, d + 84, none) xr_288 (15, [(0, xR_ x0), (1, xI x1)], [], M) (xQi R)) (hr51 : ∀ {x0 : Nat} {x1 : Int} {x2 : Int} {M : xj_M} {R : Int × xj_M}, xin x1 → xin x2 → r51 x0 x1 x2 M = some R → xW (d + 84) (none, d + 84, none) xr_288 (51, [(0, xR_ x0), (1, xI x1), (2, xI x2)], [], M) (xQi R)) {x0 : Nat} {x1 : Int} {x2 : Int} {M : xj_M} {R : Int × xj_M} (hx1 : xin x1) (hx2 : xin x2) (h : f288_51b  r15 r51 f x0 x1 x2 M = some R) : xW (d + 84) (none, d + 84, none) xr_288 (51, [(0, xR_ x0), (1, xI x1), (2, xI x2)], [], M) (xQi R) := by
  unfold f288_51b at h
  refine xe_ldn (ins := .iload_n 2) (len := 1) (by decide +kernel) rfl rfl rfl rfl ?_
  refine xe_alr (ins := .aload_n 0) (len := 1) (i := 0) (by decide +kernel) rfl rfl rfl rfl rfl ?_
  obtain ⟨v117, e118, h⟩ := xbnd h
  refine xs_gi (i := 595) (c := 15) (k := 58) (by decide +kernel) (by decide) (by decide +kernel) e118 rfl ?_
  refine xe_icmpge (off := 27) (t := 83) (by decide +kernel) (by decide) rfl hx2 (xq_gi_in e118) (fun c119 => ?_) (fun c119 => ?_)
  · rw [if_pos c119] at h
    refine xW_lv rfl (l := [(0, xR_ (x0)), (1, xI (x1))]) (xsb_of ⟨rfl, rfl, trivial⟩ (show [0, 1, 2].Nodup by decide)) ?_
    exact k288_83  hr15 hx1 h
  · rw [if_neg c119] at h
    refine xe_alr (ins := .aload_n 0) (len := 1) (i := 0) (by decide +kernel) rfl rfl rfl rfl rfl ?_
    obtain ⟨v120, e121, h⟩ := xbnd h
    refine xs_gi (i := 498) (c := 15) (k := 43) (by decide +kernel) (by decide) (by decide +kernel) e121 rfl ?_
    refine xe_ifne (off := 20) (t := 83) (by decide +kernel) (by decide) rfl (xq_gi_in e121) (fun c122 => ?_) (fun c122 => ?_)
    · rw [if_pos c122] at h
      refine xW_lv rfl (l := [(0, xR_ (x0)), (1, xI (x1))]) (xsb_of ⟨rfl, rfl, trivial⟩ (show [0, 1, 2].Nodup by decide)) ?_
      exact k288_83  hr15 hx1 h
    · rw [if_neg c122] at h
      refine xe_alr (ins := .aload_n 0) (len := 1) (i := 0) (by decide +kernel) rfl rfl rfl rfl rfl ?_
      refine xe_ldn (ins := .iload_n 2) (len := 1) (by decide +kernel) rfl rfl rfl rfl ?_
      refine xe_ldn (ins := .iload_n 1) (len := 1) (by decide +kernel) rfl rfl rfl rfl ?_
      obtain ⟨_, e124, h⟩ := xbnd h
      obtain ⟨R125, e123, h⟩ := xbnd h
      refine xs_cv (i := 610) (j := 289) (ar := [xI (x1), xI (x2)]) (rest := []) (r2 := xr_289) (by decide +kernel) (by decide +kernel) (by decide +kernel) xr_289_e rfl (by decide) (by decide) e124 ?_
      refine xc_i (k289 (d := d + 80)  hx2 hx1 e123) rfl (fun hi126 => ?_)
      refine xe_ifeq (off := 5) (t := 77) (by decide +kernel) (by decide) rfl hi126 (fun c127 => ?_) (fun c127 => ?_)
      · rw [if_pos c127] at h
        refine xe_iincr (i := 2) (n := 1) (by decide +kernel) (by decide) rfl (xk_k (show ¬ (0 : Nat) = 2 by decide) (Or.inl (show ¬ (0 + 1 : Nat) = 2 by decide)) (xk_k (show ¬ (1 : Nat) = 2 by decide) (Or.inr (xI_cat _)) (xk_d rfl xk_n))) rfl ?_
        refine xe_goto (off := -29) (nx := 51) (by decide +kernel) (by decide) ?_
        refine xW_lv rfl (l := [(0, xR_ (x0)), (1, xI (x1)), (2, xI (xwr ((x2) + (1))))]) (xsb_of ⟨rfl, rfl, rfl, trivial⟩ (show [2, 0, 1].Nodup by decide)) ?_
        exact hr51 hx1 (xin_wr _) h
      · rw [if_neg c127] at h
        refine xe_iconst (n := 1) (by decide +kernel) rfl ?_
        cases h
        exact xe_ret_i (ty := .boolean) (by decide +kernel) rfl (by decide) ⟨rfl, rfl, (show xin (1) by decide)⟩
def f288_51  (r15 : Nat → Int → xj_M → Option (Int × xj_M)) (f : Nat) : Nat → Nat → Int → Int → xj_M → Option (Int × xj_M)
  | 0, _, _, _, _ => none
  | n + 1, x0, x1, x2, M => f288_51b  r15 (f288_51  r15 f n) f x0 x1 x2 M
theorem k288_51 {d f : Nat}  {r15 : Nat → Int → xj_M → Option (Int × xj_M)}  (hr15 : ∀ {x0 : Nat} {x1 : Int} {M : xj_M} {R : Int × xj_M}, xin x1 → r15 x0 x1 M = some R → xW (d + 84) (none, d + 84, none) xr_288 (15, [(0, xR_ x0), (1, xI x1)], [], M) (xQi R)) : ∀ {n : Nat} {x0 : Nat} {x1 : Int} {x2 : Int} {M : xj_M} {R : Int × xj_M}, xin x1 → xin x2 → f288_51  r15 f n x0 x1 x2 M = some R → xW (d + 84) (none, d + 84, none) xr_288 (51, [(0, xR_ x0), (1, xI x1), (2, xI x2)], [], M) (xQi R) := by
  intro n
  induction n with
  | zero => intros; rename_i h; cases h
  | succ n ih => intros; rename_i h; exact k288_51b  hr15 ih (by assumption) (by assumption) h
def f288_132   (f : Nat)  (M : xj_M) : Option (Int × xj_M) := (some (0, M))
theorem k288_132 {d f : Nat}      {M : xj_M} {R : Int × xj_M}  (h : f288_132   f  M = some R) : xW (d + 84) (none, d + 84, none) xr_288 (132, [], [], M) (xQi R) := by
  unfold f288_132 at h
  refine xe_iconst (n := 0) (by decide +kernel) rfl ?_
  cases h
  exact xe_ret_i (ty := .boolean) (by decide +kernel) rfl (by decide) ⟨rfl, rfl, (show xin (0) by decide)⟩
def f288_15b  (r15 : Nat → Int → xj_M → Option (Int × xj_M)) (f : Nat) (x0 : Nat) (x1 : Int) (M : xj_M) : Option (Int × xj_M) := ((xq_gi 15 60 (x0) M).bind fun v128 => (if (v128) = 0 then f288_132   f  M else ((xq_gi 15 43 (x0) M).bind fun v131 => (if ¬ (v131) = 0 then f288_132   f  M else ((xq_pi 15 60 (x0) (0) M).bind fun M134 => ((xq_pi 15 58 (x0) (0) M134).bind fun M136 => ((xq_pi 15 37 (x0) (0) M136).bind fun M138 => ((xq_is 15 (x0) M138).bind fun _ => ((f275  f (x0) (0) M138).bind fun M142 => f288_51  r15 f f (x0) (x1) (0) M142)))))))))
theorem k288_15b {d f : Nat}  {r15 : Nat → Int → xj_M → Option (Int × xj_M)}  (hr15 : ∀ {x0 : Nat} {x1 : Int} {M : xj_M} {R : Int × xj_M}, xin x1 → r15 x0 x1 M = some R → xW (d + 84) (none, d + 84, none) xr_288 (15, [(0, xR_ x0), (1, xI x1)], [], M) (xQi R)) {x0 : Nat} {x1 : Int} {M : xj_M} {R : Int × xj_M} (hx1 : xin x1) (h : f288_15b  r15 f x0 x1 M = some R) : xW (d + 84) (none, d + 84, none) xr_288 (15, [(0, xR_ x0), (1, xI x1)], [], M) (xQi R) := by
  unfold f288_15b at h
  refine xe_alr (ins := .aload_n 0) (len := 1) (i := 0) (by decide +kernel) rfl rfl rfl rfl rfl ?_
  obtain ⟨v128, e129, h⟩ := xbnd h
  refine xs_gi (i := 607) (c := 15) (k := 60) (by decide +kernel) (by decide) (by decide +kernel) e129 rfl ?_
  refine xe_ifeq (off := 113) (t := 132) (by decide +kernel) (by decide) rfl (xq_gi_in e129) (fun c130 => ?_) (fun c130 => ?_)
  · rw [if_pos c130] at h
    refine xW_lv rfl (l := []) (xsb_of trivial (show [0, 1].Nodup by decide)) ?_
    exact k288_132    h
  · rw [if_neg c130] at h
    refine xe_alr (ins := .aload_n 0) (len := 1) (i := 0) (by decide +kernel) rfl rfl rfl rfl rfl ?_
    obtain ⟨v131, e132, h⟩ := xbnd h
    refine xs_gi (i := 498) (c := 15) (k := 43) (by decide +kernel) (by decide) (by decide +kernel) e132 rfl ?_
    refine xe_ifne (off := 106) (t := 132) (by decide +kernel) (by decide) rfl (xq_gi_in e132) (fun c133 => ?_) (fun c133 => ?_)
    · rw [if_pos c133] at h
      refine xW_lv rfl (l := []) (xsb_of trivial (show [0, 1].Nodup by decide)) ?_
      exact k288_132    h
    · rw [if_neg c133] at h
      refine xe_alr (ins := .aload_n 0) (len := 1) (i := 0) (by decide +kernel) rfl rfl rfl rfl rfl ?_
      refine xe_iconst (n := 0) (by decide +kernel) rfl ?_
      obtain ⟨M134, e135, h⟩ := xbnd h
      refine xs_p (i := 607) (c := 15) (k := 60) (by decide +kernel) (by decide +kernel) (by decide +kernel) e135 rfl ?_
      refine xe_alr (ins := .aload_n 0) (len := 1) (i := 0) (by decide +kernel) rfl rfl rfl rfl rfl ?_
      refine xe_iconst (n := 0) (by decide +kernel) rfl ?_
      obtain ⟨M136, e137, h⟩ := xbnd h
      refine xs_p (i := 595) (c := 15) (k := 58) (by decide +kernel) (by decide +kernel) (by decide +kernel) e137 rfl ?_
      refine xe_alr (ins := .aload_n 0) (len := 1) (i := 0) (by decide +kernel) rfl rfl rfl rfl rfl ?_
      refine xe_iconst (n := 0) (by decide +kernel) rfl ?_
      obtain ⟨M138, e139, h⟩ := xbnd h
      refine xs_p (i := 479) (c := 15) (k := 37) (by decide +kernel) (by decide +kernel) (by decide +kernel) e139 rfl ?_
      refine xe_alr (ins := .aload_n 0) (len := 1) (i := 0) (by decide +kernel) rfl rfl rfl rfl rfl ?_
      refine xe_iconst (n := 0) (by decide +kernel) rfl ?_
      obtain ⟨_, e141, h⟩ := xbnd h
      obtain ⟨M142, e140, h⟩ := xbnd h
      refine xs_cv (i := 507) (j := 275) (ar := [xI (0)]) (rest := []) (r2 := xr_275) (by decide +kernel) (by decide +kernel) (by decide +kernel) xr_275_e rfl (by decide) (by decide) e141 ?_
      refine xc_v (k275 (d := d + 0)  (show xin (0) by decide) e140) rfl ?_
      refine xe_iconst (n := 0) (by decide +kernel) rfl ?_
      refine xe_isr (ins := .istore_n 2) (len := 1) (i := 2) (by decide +kernel) rfl rfl rfl (by decide) (xk_k (show ¬ (0 : Nat) = 2 by decide) (Or.inl (show ¬ (0 + 1 : Nat) = 2 by decide)) (xk_k (show ¬ (1 : Nat) = 2 by decide) (Or.inr (xI_cat _)) xk_n)) rfl ?_
      refine xW_lv rfl (l := [(0, xR_ (x0)), (1, xI (x1)), (2, xI (0))]) (xsb_of ⟨rfl, rfl, rfl, trivial⟩ (show [2, 0, 1].Nodup by decide)) ?_
      exact k288_51  hr15 hx1 (show xin (0) by decide) h
def f288_15   (f : Nat) : Nat → Nat → Int → xj_M → Option (Int × xj_M)
  | 0, _, _, _ => none
  | n + 1, x0, x1, M => f288_15b   (f288_15   f n) f x0 x1 M
theorem k288_15 {d f : Nat}     : ∀ {n : Nat} {x0 : Nat} {x1 : Int} {M : xj_M} {R : Int × xj_M}, xin x1 → f288_15   f n x0 x1 M = some R → xW (d + 84) (none, d + 84, none) xr_288 (15, [(0, xR_ x0), (1, xI x1)], [], M) (xQi R) := by
  intro n
  induction n with
  | zero => intros; rename_i h; cases h
  | succ n ih => intros; rename_i h; exact k288_15b   ih (by assumption) h
def f288  (f : Nat) (a0 : Nat) (a1 : Int) (M : xj_M) : Option (Int × xj_M) := ((xq_pi 15 38 (a0) (2) M).bind fun M144 => ((xq_pi 15 59 (a0) (0) M144).bind fun M146 => ((xq_pi 15 60 (a0) (1) M146).bind fun M148 => f288_15   f f (a0) (a1) M148)))
theorem k288 {d f : Nat}   {a0 : Nat} {a1 : Int} {M : xj_M} {R : Int × xj_M} (ha1 : xin a1) (h : f288  f a0 a1 M = some R) : xT (d + 85) 288 [xR_ a0, xI a1] M (xQi R) := by
  refine xT_m xr_288_e (X := (none, d + 84, none)) rfl (xa_1 (xR_cat _) (xa_1 (xI_cat _) xa_n)) (by decide) ?_
  unfold f288 at h
  refine xe_alr (ins := .aload_n 0) (len := 1) (i := 0) (by decide +kernel) rfl rfl rfl rfl rfl ?_
  refine xe_iconst (n := 2) (by decide +kernel) rfl ?_
  obtain ⟨M144, e145, h⟩ := xbnd h
  refine xs_p (i := 542) (c := 15) (k := 38) (by decide +kernel) (by decide +kernel) (by decide +kernel) e145 rfl ?_
  refine xe_alr (ins := .aload_n 0) (len := 1) (i := 0) (by decide +kernel) rfl rfl rfl rfl rfl ?_
  refine xe_iconst (n := 0) (by decide +kernel) rfl ?_
  obtain ⟨M146, e147, h⟩ := xbnd h
  refine xs_p (i := 589) (c := 15) (k := 59) (by decide +kernel) (by decide +kernel) (by decide +kernel) e147 rfl ?_
  refine xe_alr (ins := .aload_n 0) (len := 1) (i := 0) (by decide +kernel) rfl rfl rfl rfl rfl ?_
  refine xe_iconst (n := 1) (by decide +kernel) rfl ?_
  obtain ⟨M148, e149, h⟩ := xbnd h
  refine xs_p (i := 607) (c := 15) (k := 60) (by decide +kernel) (by decide +kernel) (by decide +kernel) e149 rfl ?_
  refine xW_lv rfl (l := [(0, xR_ (a0)), (1, xI (a1))]) (xsb_of ⟨rfl, rfl, trivial⟩ (show [0, 1].Nodup by decide)) ?_
  exact k288_15   ha1 h
-- ChangeHouseModel.workRing
def xr_293 : xj_mR := (15, yX15_workRing, cX15_workRing, 5, (Option.some Jvm.ClassFile.FieldType.boolean), 1, false, (9, 163), (1, 12))
set_option maxRecDepth 20000 in
theorem xr_293_e : xj_row 293 = some xr_293 := rfl
def f293_153  (r12 : Nat → Int → Int → xj_M → Option (Int × xj_M)) (r52 : Nat → Int → Int → Int → xj_M → Option (Int × xj_M)) (f : Nat) (x0 : Nat) (x1 : Int) (x2 : Int) (x3 : Int) (M : xj_M) : Option (Int × xj_M) := r52 (x0) (x1) (x2) (xwr ((x3) + (1))) M
theorem k293_153 {d f : Nat}  {r12 : Nat → Int → Int → xj_M → Option (Int × xj_M)} {r52 : Nat → Int → Int → Int → xj_M → Option (Int × xj_M)}  (hr12 : ∀ {x0 : Nat} {x1 : Int} {x2 : Int} {M : xj_M} {R : Int × xj_M}, xin x1 → xin x2 → r12 x0 x1 x2 M = some R → xW (d + 85) (none, d + 85, none) xr_293 (12, [(0, xR_ x0), (1, xI x1), (2, xI x2)], [], M) (xQi R)) (hr52 : ∀ {x0 : Nat} {x1 : Int} {x2 : Int} {x3 : Int} {M : xj_M} {R : Int × xj_M}, xin x1 → xin x2 → xin x3 → r52 x0 x1 x2 x3 M = some R → xW (d + 85) (none, d + 85, none) xr_293 (52, [(0, xR_ x0), (1, xI x1), (2, xI x2), (3, xI x3)], [], M) (xQi R)) {x0 : Nat} {x1 : Int} {x2 : Int} {x3 : Int} {M : xj_M} {R : Int × xj_M} (hx1 : xin x1) (hx2 : xin x2) (hx3 : xin x3) (h : f293_153  r12 r52 f x0 x1 x2 x3 M = some R) : xW (d + 85) (none, d + 85, none) xr_293 (153, [(0, xR_ x0), (1, xI x1), (2, xI x2), (3, xI x3)], [], M) (xQi R) := by
  unfold f293_153 at h
  refine xe_iincr (i := 3) (n := 1) (by decide +kernel) (by decide) rfl (xk_k (show ¬ (0 : Nat) = 3 by decide) (Or.inl (show ¬ (0 + 1 : Nat) = 3 by decide)) (xk_k (show ¬ (1 : Nat) = 3 by decide) (Or.inl (show ¬ (1 + 1 : Nat) = 3 by decide)) (xk_k (show ¬ (2 : Nat) = 3 by decide) (Or.inr (xI_cat _)) (xk_d rfl xk_n)))) rfl ?_
  refine xe_goto (off := -104) (nx := 52) (by decide +kernel) (by decide) ?_
  refine xW_lv rfl (l := [(0, xR_ (x0)), (1, xI (x1)), (2, xI (x2)), (3, xI (xwr ((x3) + (1))))]) (xsb_of ⟨rfl, rfl, rfl, rfl, trivial⟩ (show [3, 0, 1, 2].Nodup by decide)) ?_
  exact hr52 hx1 hx2 (xin_wr _) h
def f293_111  (r12 : Nat → Int → Int → xj_M → Option (Int × xj_M)) (r52 : Nat → Int → Int → Int → xj_M → Option (Int × xj_M)) (f : Nat) (x0 : Nat) (x1 : Int) (x2 : Int) (x3 : Int) (M : xj_M) : Option (Int × xj_M) := ((xq_pi 15 39 (x0) (x3) M).bind fun M101 => ((xq_gr 15 29 (x0) M101).bind fun v103 => ((xq_gr 14 18 (v103) M101).bind fun v105 => ((xq_ai 3 (v105) (x3) M101).bind fun v107 => (if (v107) = 0 then ((xq_pi 15 38 (x0) (1) M101).bind fun M110 => ((xq_pi 15 37 (x0) (0) M110).bind fun M112 => ((xq_is 15 (x0) M112).bind fun _ => ((f275  f (x0) (0) M112).bind fun M116 => f293_153  r12 r52 f (x0) (x1) (x2) (x3) M116)))) else ((xq_is 15 (x0) M101).bind fun _ => ((f288  f (x0) (0) M101).bind fun R120 => f293_153  r12 r52 f (x0) (x1) (x2) (x3) R120.2)))))))
theorem k293_111 {d f : Nat}  {r12 : Nat → Int → Int → xj_M → Option (Int × xj_M)} {r52 : Nat → Int → Int → Int → xj_M → Option (Int × xj_M)}  (hr12 : ∀ {x0 : Nat} {x1 : Int} {x2 : Int} {M : xj_M} {R : Int × xj_M}, xin x1 → xin x2 → r12 x0 x1 x2 M = some R → xW (d + 85) (none, d + 85, none) xr_293 (12, [(0, xR_ x0), (1, xI x1), (2, xI x2)], [], M) (xQi R)) (hr52 : ∀ {x0 : Nat} {x1 : Int} {x2 : Int} {x3 : Int} {M : xj_M} {R : Int × xj_M}, xin x1 → xin x2 → xin x3 → r52 x0 x1 x2 x3 M = some R → xW (d + 85) (none, d + 85, none) xr_293 (52, [(0, xR_ x0), (1, xI x1), (2, xI x2), (3, xI x3)], [], M) (xQi R)) {x0 : Nat} {x1 : Int} {x2 : Int} {x3 : Int} {M : xj_M} {R : Int × xj_M} (hx1 : xin x1) (hx2 : xin x2) (hx3 : xin x3) (h : f293_111  r12 r52 f x0 x1 x2 x3 M = some R) : xW (d + 85) (none, d + 85, none) xr_293 (111, [(0, xR_ x0), (1, xI x1), (2, xI x2), (3, xI x3)], [], M) (xQi R) := by
  unfold f293_111 at h
  refine xe_alr (ins := .aload_n 0) (len := 1) (i := 0) (by decide +kernel) rfl rfl rfl rfl rfl ?_
  refine xe_ldn (ins := .iload_n 3) (len := 1) (by decide +kernel) rfl rfl rfl rfl ?_
  obtain ⟨M101, e102, h⟩ := xbnd h
  refine xs_p (i := 501) (c := 15) (k := 39) (by decide +kernel) (by decide +kernel) (by decide +kernel) e102 rfl ?_
  refine xe_alr (ins := .aload_n 0) (len := 1) (i := 0) (by decide +kernel) rfl rfl rfl rfl rfl ?_
  obtain ⟨v103, e104, h⟩ := xbnd h
  refine xs_gr (i := 439) (c := 15) (k := 29) (by decide +kernel) (by decide) (by decide +kernel) e104 rfl ?_
  obtain ⟨v105, e106, h⟩ := xbnd h
  refine xs_gr (i := 277) (c := 14) (k := 18) (by decide +kernel) (by decide) (by decide +kernel) e106 rfl ?_
  refine xe_ldn (ins := .iload_n 3) (len := 1) (by decide +kernel) rfl rfl rfl rfl ?_
  obtain ⟨v107, e108, h⟩ := xbnd h
  refine xs_iald rfl (by decide +kernel) hx3 e108 rfl ?_
  refine xe_ifeq (off := 13) (t := 138) (by decide +kernel) (by decide) rfl (xq_ai_in e108) (fun c109 => ?_) (fun c109 => ?_)
  · rw [if_pos c109] at h
    refine xe_alr (ins := .aload_n 0) (len := 1) (i := 0) (by decide +kernel) rfl rfl rfl rfl rfl ?_
    refine xe_iconst (n := 1) (by decide +kernel) rfl ?_
    obtain ⟨M110, e111, h⟩ := xbnd h
    refine xs_p (i := 542) (c := 15) (k := 38) (by decide +kernel) (by decide +kernel) (by decide +kernel) e111 rfl ?_
    refine xe_alr (ins := .aload_n 0) (len := 1) (i := 0) (by decide +kernel) rfl rfl rfl rfl rfl ?_
    refine xe_iconst (n := 0) (by decide +kernel) rfl ?_
    obtain ⟨M112, e113, h⟩ := xbnd h
    refine xs_p (i := 479) (c := 15) (k := 37) (by decide +kernel) (by decide +kernel) (by decide +kernel) e113 rfl ?_
    refine xe_alr (ins := .aload_n 0) (len := 1) (i := 0) (by decide +kernel) rfl rfl rfl rfl rfl ?_
    refine xe_iconst (n := 0) (by decide +kernel) rfl ?_
    obtain ⟨_, e115, h⟩ := xbnd h
    obtain ⟨M116, e114, h⟩ := xbnd h
    refine xs_cv (i := 507) (j := 275) (ar := [xI (0)]) (rest := []) (r2 := xr_275) (by decide +kernel) (by decide +kernel) (by decide +kernel) xr_275_e rfl (by decide) (by decide) e115 ?_
    refine xc_v (k275 (d := d + 1)  (show xin (0) by decide) e114) rfl ?_
    refine xW_lv rfl (l := [(0, xR_ (x0)), (1, xI (x1)), (2, xI (x2)), (3, xI (x3))]) (xsb_of ⟨rfl, rfl, rfl, rfl, trivial⟩ (show [0, 1, 2, 3].Nodup by decide)) ?_
    exact k293_153  hr12 hr52 hx1 hx2 hx3 h
  · rw [if_neg c109] at h
    refine xe_alr (ins := .aload_n 0) (len := 1) (i := 0) (by decide +kernel) rfl rfl rfl rfl rfl ?_
    refine xe_iconst (n := 0) (by decide +kernel) rfl ?_
    obtain ⟨_, e119, h⟩ := xbnd h
    obtain ⟨R120, e118, h⟩ := xbnd h
    refine xs_cv (i := 623) (j := 288) (ar := [xI (0)]) (rest := []) (r2 := xr_288) (by decide +kernel) (by decide +kernel) (by decide +kernel) xr_288_e rfl (by decide) (by decide) e119 ?_
    refine xc_i (k288 (d := d + 0)  (show xin (0) by decide) e118) rfl (fun hi121 => ?_)
    refine xe_isr (ins := .istore 4) (len := 2) (i := 4) (by decide +kernel) rfl rfl rfl (by decide) (xk_k (show ¬ (0 : Nat) = 4 by decide) (Or.inl (show ¬ (0 + 1 : Nat) = 4 by decide)) (xk_k (show ¬ (1 : Nat) = 4 by decide) (Or.inl (show ¬ (1 + 1 : Nat) = 4 by decide)) (xk_k (show ¬ (2 : Nat) = 4 by decide) (Or.inl (show ¬ (2 + 1 : Nat) = 4 by decide)) (xk_k (show ¬ (3 : Nat) = 4 by decide) (Or.inr (xI_cat _)) xk_n)))) rfl ?_
    refine xe_goto (off := 18) (nx := 153) (by decide +kernel) (by decide) ?_
    refine xW_lv rfl (l := [(0, xR_ (x0)), (1, xI (x1)), (2, xI (x2)), (3, xI (x3))]) (xsb_of ⟨rfl, rfl, rfl, rfl, trivial⟩ (show [4, 0, 1, 2, 3].Nodup by decide)) ?_
    exact k293_153  hr12 hr52 hx1 hx2 hx3 h
def f293_179b  (r12 : Nat → Int → Int → xj_M → Option (Int × xj_M)) (r179 : Nat → Int → Int → Int → xj_M → Option (Int × xj_M)) (f : Nat) (x0 : Nat) (x1 : Int) (x2 : Int) (x3 : Int) (M : xj_M) : Option (Int × xj_M) := ((xq_gi 15 47 (x0) M).bind fun v122 => (if (v122) ≤ (x3) then r12 (x0) (x1) (xwr ((x2) + (1))) M else ((xq_gr 15 45 (x0) M).bind fun v125 => ((xq_ai 3 (v125) (x3) M).bind fun v127 => ((xq_gr 15 46 (x0) M).bind fun v129 => ((xq_is 15 (x0) M).bind fun _ => ((f264  f (x0) (v127) (v129) (xwr ((4) * (x3))) (x2) M).bind fun M133 => r179 (x0) (x1) (x2) (xwr ((x3) + (1))) M133)))))))
theorem k293_179b {d f : Nat}  {r12 : Nat → Int → Int → xj_M → Option (Int × xj_M)} {r179 : Nat → Int → Int → Int → xj_M → Option (Int × xj_M)}  (hr12 : ∀ {x0 : Nat} {x1 : Int} {x2 : Int} {M : xj_M} {R : Int × xj_M}, xin x1 → xin x2 → r12 x0 x1 x2 M = some R → xW (d + 85) (none, d + 85, none) xr_293 (12, [(0, xR_ x0), (1, xI x1), (2, xI x2)], [], M) (xQi R)) (hr179 : ∀ {x0 : Nat} {x1 : Int} {x2 : Int} {x3 : Int} {M : xj_M} {R : Int × xj_M}, xin x1 → xin x2 → xin x3 → r179 x0 x1 x2 x3 M = some R → xW (d + 85) (none, d + 85, none) xr_293 (179, [(0, xR_ x0), (1, xI x1), (2, xI x2), (3, xI x3)], [], M) (xQi R)) {x0 : Nat} {x1 : Int} {x2 : Int} {x3 : Int} {M : xj_M} {R : Int × xj_M} (hx1 : xin x1) (hx2 : xin x2) (hx3 : xin x3) (h : f293_179b  r12 r179 f x0 x1 x2 x3 M = some R) : xW (d + 85) (none, d + 85, none) xr_293 (179, [(0, xR_ x0), (1, xI x1), (2, xI x2), (3, xI x3)], [], M) (xQi R) := by
  unfold f293_179b at h
  refine xe_ldn (ins := .iload_n 3) (len := 1) (by decide +kernel) rfl rfl rfl rfl ?_
  refine xe_alr (ins := .aload_n 0) (len := 1) (i := 0) (by decide +kernel) rfl rfl rfl rfl rfl ?_
  obtain ⟨v122, e123, h⟩ := xbnd h
  refine xs_gi (i := 562) (c := 15) (k := 47) (by decide +kernel) (by decide) (by decide +kernel) e123 rfl ?_
  refine xe_icmpge (off := 27) (t := 211) (by decide +kernel) (by decide) rfl hx3 (xq_gi_in e123) (fun c124 => ?_) (fun c124 => ?_)
  · rw [if_pos c124] at h
    refine xe_iincr (i := 2) (n := 1) (by decide +kernel) (by decide) rfl (xk_k (show ¬ (0 : Nat) = 2 by decide) (Or.inl (show ¬ (0 + 1 : Nat) = 2 by decide)) (xk_k (show ¬ (1 : Nat) = 2 by decide) (Or.inr (xI_cat _)) (xk_d rfl (xk_k (show ¬ (3 : Nat) = 2 by decide) (Or.inl (show ¬ (3 + 1 : Nat) = 2 by decide)) xk_n)))) rfl ?_
    refine xe_goto (off := -202) (nx := 12) (by decide +kernel) (by decide) ?_
    refine xW_lv rfl (l := [(0, xR_ (x0)), (1, xI (x1)), (2, xI (xwr ((x2) + (1))))]) (xsb_of ⟨rfl, rfl, rfl, trivial⟩ (show [2, 0, 1, 3].Nodup by decide)) ?_
    exact hr12 hx1 (xin_wr _) h
  · rw [if_neg c124] at h
    refine xe_alr (ins := .aload_n 0) (len := 1) (i := 0) (by decide +kernel) rfl rfl rfl rfl rfl ?_
    refine xe_alr (ins := .aload_n 0) (len := 1) (i := 0) (by decide +kernel) rfl rfl rfl rfl rfl ?_
    obtain ⟨v125, e126, h⟩ := xbnd h
    refine xs_gr (i := 565) (c := 15) (k := 45) (by decide +kernel) (by decide) (by decide +kernel) e126 rfl ?_
    refine xe_ldn (ins := .iload_n 3) (len := 1) (by decide +kernel) rfl rfl rfl rfl ?_
    obtain ⟨v127, e128, h⟩ := xbnd h
    refine xs_iald rfl (by decide +kernel) hx3 e128 rfl ?_
    refine xe_alr (ins := .aload_n 0) (len := 1) (i := 0) (by decide +kernel) rfl rfl rfl rfl rfl ?_
    obtain ⟨v129, e130, h⟩ := xbnd h
    refine xs_gr (i := 568) (c := 15) (k := 46) (by decide +kernel) (by decide) (by decide +kernel) e130 rfl ?_
    refine xe_iconst (n := 4) (by decide +kernel) rfl ?_
    refine xe_ldn (ins := .iload_n 3) (len := 1) (by decide +kernel) rfl rfl rfl rfl ?_
    refine xe_imul (by decide +kernel) rfl ?_
    refine xe_ldn (ins := .iload_n 2) (len := 1) (by decide +kernel) rfl rfl rfl rfl ?_
    obtain ⟨_, e132, h⟩ := xbnd h
    obtain ⟨M133, e131, h⟩ := xbnd h
    refine xs_cv (i := 626) (j := 264) (ar := [xI (x2), xI (xwr ((4) * (x3))), xR_ (v129), xI (v127)]) (rest := []) (r2 := xr_264) (by decide +kernel) (by decide +kernel) (by decide +kernel) xr_264_e rfl (by decide) (by decide) e132 ?_
    refine xc_v (k264 (d := d + 82)  (xq_ai_in e128) (xin_wr _) hx2 e131) rfl ?_
    refine xe_iincr (i := 3) (n := 1) (by decide +kernel) (by decide) rfl (xk_k (show ¬ (0 : Nat) = 3 by decide) (Or.inl (show ¬ (0 + 1 : Nat) = 3 by decide)) (xk_k (show ¬ (1 : Nat) = 3 by decide) (Or.inl (show ¬ (1 + 1 : Nat) = 3 by decide)) (xk_k (show ¬ (2 : Nat) = 3 by decide) (Or.inr (xI_cat _)) (xk_d rfl xk_n)))) rfl ?_
    refine xe_goto (off := -29) (nx := 179) (by decide +kernel) (by decide) ?_
    refine xW_lv rfl (l := [(0, xR_ (x0)), (1, xI (x1)), (2, xI (x2)), (3, xI (xwr ((x3) + (1))))]) (xsb_of ⟨rfl, rfl, rfl, rfl, trivial⟩ (show [3, 0, 1, 2].Nodup by decide)) ?_
    exact hr179 hx1 hx2 (xin_wr _) h
def f293_179  (r12 : Nat → Int → Int → xj_M → Option (Int × xj_M)) (f : Nat) : Nat → Nat → Int → Int → Int → xj_M → Option (Int × xj_M)
  | 0, _, _, _, _, _ => none
  | n + 1, x0, x1, x2, x3, M => f293_179b  r12 (f293_179  r12 f n) f x0 x1 x2 x3 M
theorem k293_179 {d f : Nat}  {r12 : Nat → Int → Int → xj_M → Option (Int × xj_M)}  (hr12 : ∀ {x0 : Nat} {x1 : Int} {x2 : Int} {M : xj_M} {R : Int × xj_M}, xin x1 → xin x2 → r12 x0 x1 x2 M = some R → xW (d + 85) (none, d + 85, none) xr_293 (12, [(0, xR_ x0), (1, xI x1), (2, xI x2)], [], M) (xQi R)) : ∀ {n : Nat} {x0 : Nat} {x1 : Int} {x2 : Int} {x3 : Int} {M : xj_M} {R : Int × xj_M}, xin x1 → xin x2 → xin x3 → f293_179  r12 f n x0 x1 x2 x3 M = some R → xW (d + 85) (none, d + 85, none) xr_293 (179, [(0, xR_ x0), (1, xI x1), (2, xI x2), (3, xI x3)], [], M) (xQi R) := by
  intro n
  induction n with
  | zero => intros; rename_i h; cases h
  | succ n ih => intros; rename_i h; exact k293_179b  hr12 ih (by assumption) (by assumption) (by assumption) h
def f293_159  (r12 : Nat → Int → Int → xj_M → Option (Int × xj_M)) (f : Nat) (x0 : Nat) (x1 : Int) (x2 : Int) (M : xj_M) : Option (Int × xj_M) := ((xq_gi 15 43 (x0) M).bind fun v135 => (if (v135) = 0 then ((xq_gi 15 47 (x0) M).bind fun v138 => (if ¬ (v138) = 0 then f293_179  r12 f f (x0) (x1) (x2) (0) M else (some (1, M)))) else (some (0, M))))
theorem k293_159 {d f : Nat}  {r12 : Nat → Int → Int → xj_M → Option (Int × xj_M)}  (hr12 : ∀ {x0 : Nat} {x1 : Int} {x2 : Int} {M : xj_M} {R : Int × xj_M}, xin x1 → xin x2 → r12 x0 x1 x2 M = some R → xW (d + 85) (none, d + 85, none) xr_293 (12, [(0, xR_ x0), (1, xI x1), (2, xI x2)], [], M) (xQi R)) {x0 : Nat} {x1 : Int} {x2 : Int} {M : xj_M} {R : Int × xj_M} (hx1 : xin x1) (hx2 : xin x2) (h : f293_159  r12 f x0 x1 x2 M = some R) : xW (d + 85) (none, d + 85, none) xr_293 (159, [(0, xR_ x0), (1, xI x1), (2, xI x2)], [], M) (xQi R) := by
  unfold f293_159 at h
  refine xe_alr (ins := .aload_n 0) (len := 1) (i := 0) (by decide +kernel) rfl rfl rfl rfl rfl ?_
  obtain ⟨v135, e136, h⟩ := xbnd h
  refine xs_gi (i := 498) (c := 15) (k := 43) (by decide +kernel) (by decide) (by decide +kernel) e136 rfl ?_
  refine xe_ifeq (off := 5) (t := 168) (by decide +kernel) (by decide) rfl (xq_gi_in e136) (fun c137 => ?_) (fun c137 => ?_)
  · rw [if_pos c137] at h
    refine xe_alr (ins := .aload_n 0) (len := 1) (i := 0) (by decide +kernel) rfl rfl rfl rfl rfl ?_
    obtain ⟨v138, e139, h⟩ := xbnd h
    refine xs_gi (i := 562) (c := 15) (k := 47) (by decide +kernel) (by decide) (by decide +kernel) e139 rfl ?_
    refine xe_ifne (off := 5) (t := 177) (by decide +kernel) (by decide) rfl (xq_gi_in e139) (fun c140 => ?_) (fun c140 => ?_)
    · rw [if_pos c140] at h
      refine xe_iconst (n := 0) (by decide +kernel) rfl ?_
      refine xe_isr (ins := .istore_n 3) (len := 1) (i := 3) (by decide +kernel) rfl rfl rfl (by decide) (xk_k (show ¬ (0 : Nat) = 3 by decide) (Or.inl (show ¬ (0 + 1 : Nat) = 3 by decide)) (xk_k (show ¬ (1 : Nat) = 3 by decide) (Or.inl (show ¬ (1 + 1 : Nat) = 3 by decide)) (xk_k (show ¬ (2 : Nat) = 3 by decide) (Or.inr (xI_cat _)) xk_n))) rfl ?_
      refine xW_lv rfl (l := [(0, xR_ (x0)), (1, xI (x1)), (2, xI (x2)), (3, xI (0))]) (xsb_of ⟨rfl, rfl, rfl, rfl, trivial⟩ (show [3, 0, 1, 2].Nodup by decide)) ?_
      exact k293_179  hr12 hx1 hx2 (show xin (0) by decide) h
    · rw [if_neg c140] at h
      refine xe_iconst (n := 1) (by decide +kernel) rfl ?_
      cases h
      exact xe_ret_i (ty := .boolean) (by decide +kernel) rfl (by decide) ⟨rfl, rfl, (show xin (1) by decide)⟩
  · rw [if_neg c137] at h
    refine xe_iconst (n := 0) (by decide +kernel) rfl ?_
    cases h
    exact xe_ret_i (ty := .boolean) (by decide +kernel) rfl (by decide) ⟨rfl, rfl, (show xin (0) by decide)⟩
def f293_52b  (r12 : Nat → Int → Int → xj_M → Option (Int × xj_M)) (r52 : Nat → Int → Int → Int → xj_M → Option (Int × xj_M)) (f : Nat) (x0 : Nat) (x1 : Int) (x2 : Int) (x3 : Int) (M : xj_M) : Option (Int × xj_M) := ((xq_gr 15 29 (x0) M).bind fun v141 => ((xq_gi 14 9 (v141) M).bind fun v143 => (if (v143) ≤ (x3) then f293_159  r12 f (x0) (x1) (x2) M else ((xq_gi 15 43 (x0) M).bind fun v146 => (if ¬ (v146) = 0 then f293_159  r12 f (x0) (x1) (x2) M else ((xq_gr 15 29 (x0) M).bind fun v149 => ((xq_gr 14 4 (v149) M).bind fun v151 => ((xq_gr 15 29 (x0) M).bind fun v153 => ((xq_gr 14 15 (v153) M).bind fun v155 => ((xq_ai 3 (v155) (x3) M).bind fun v157 => ((xq_ai 3 (v151) (v157) M).bind fun v159 => (if ¬ (v159) = (x1) then f293_153  r12 r52 f (x0) (x1) (x2) (x3) M else ((xq_gr 15 29 (x0) M).bind fun v162 => ((xq_gr 14 18 (v162) M).bind fun v164 => ((xq_ai 3 (v164) (x3) M).bind fun v166 => (if (v166) = 0 then f293_111  r12 r52 f (x0) (x1) (x2) (x3) M else (if (x2) ≤ (1) then f293_111  r12 r52 f (x0) (x1) (x2) (x3) M else f293_153  r12 r52 f (x0) (x1) (x2) (x3) M)))))))))))))))))
theorem k293_52b {d f : Nat}  {r12 : Nat → Int → Int → xj_M → Option (Int × xj_M)} {r52 : Nat → Int → Int → Int → xj_M → Option (Int × xj_M)}  (hr12 : ∀ {x0 : Nat} {x1 : Int} {x2 : Int} {M : xj_M} {R : Int × xj_M}, xin x1 → xin x2 → r12 x0 x1 x2 M = some R → xW (d + 85) (none, d + 85, none) xr_293 (12, [(0, xR_ x0), (1, xI x1), (2, xI x2)], [], M) (xQi R)) (hr52 : ∀ {x0 : Nat} {x1 : Int} {x2 : Int} {x3 : Int} {M : xj_M} {R : Int × xj_M}, xin x1 → xin x2 → xin x3 → r52 x0 x1 x2 x3 M = some R → xW (d + 85) (none, d + 85, none) xr_293 (52, [(0, xR_ x0), (1, xI x1), (2, xI x2), (3, xI x3)], [], M) (xQi R)) {x0 : Nat} {x1 : Int} {x2 : Int} {x3 : Int} {M : xj_M} {R : Int × xj_M} (hx1 : xin x1) (hx2 : xin x2) (hx3 : xin x3) (h : f293_52b  r12 r52 f x0 x1 x2 x3 M = some R) : xW (d + 85) (none, d + 85, none) xr_293 (52, [(0, xR_ x0), (1, xI x1), (2, xI x2), (3, xI x3)], [], M) (xQi R) := by
  unfold f293_52b at h
  refine xe_ldn (ins := .iload_n 3) (len := 1) (by decide +kernel) rfl rfl rfl rfl ?_
  refine xe_alr (ins := .aload_n 0) (len := 1) (i := 0) (by decide +kernel) rfl rfl rfl rfl rfl ?_
  obtain ⟨v141, e142, h⟩ := xbnd h
  refine xs_gr (i := 439) (c := 15) (k := 29) (by decide +kernel) (by decide) (by decide +kernel) e142 rfl ?_
  obtain ⟨v143, e144, h⟩ := xbnd h
  refine xs_gi (i := 171) (c := 14) (k := 9) (by decide +kernel) (by decide) (by decide +kernel) e144 rfl ?_
  refine xe_icmpge (off := 99) (t := 159) (by decide +kernel) (by decide) rfl hx3 (xq_gi_in e144) (fun c145 => ?_) (fun c145 => ?_)
  · rw [if_pos c145] at h
    refine xW_lv rfl (l := [(0, xR_ (x0)), (1, xI (x1)), (2, xI (x2))]) (xsb_of ⟨rfl, rfl, rfl, trivial⟩ (show [0, 1, 2, 3].Nodup by decide)) ?_
    exact k293_159  hr12 hx1 hx2 h
  · rw [if_neg c145] at h
    refine xe_alr (ins := .aload_n 0) (len := 1) (i := 0) (by decide +kernel) rfl rfl rfl rfl rfl ?_
    obtain ⟨v146, e147, h⟩ := xbnd h
    refine xs_gi (i := 498) (c := 15) (k := 43) (by decide +kernel) (by decide) (by decide +kernel) e147 rfl ?_
    refine xe_ifne (off := 92) (t := 159) (by decide +kernel) (by decide) rfl (xq_gi_in e147) (fun c148 => ?_) (fun c148 => ?_)
    · rw [if_pos c148] at h
      refine xW_lv rfl (l := [(0, xR_ (x0)), (1, xI (x1)), (2, xI (x2))]) (xsb_of ⟨rfl, rfl, rfl, trivial⟩ (show [0, 1, 2, 3].Nodup by decide)) ?_
      exact k293_159  hr12 hx1 hx2 h
    · rw [if_neg c148] at h
      refine xe_alr (ins := .aload_n 0) (len := 1) (i := 0) (by decide +kernel) rfl rfl rfl rfl rfl ?_
      obtain ⟨v149, e150, h⟩ := xbnd h
      refine xs_gr (i := 439) (c := 15) (k := 29) (by decide +kernel) (by decide) (by decide +kernel) e150 rfl ?_
      obtain ⟨v151, e152, h⟩ := xbnd h
      refine xs_gr (i := 427) (c := 14) (k := 4) (by decide +kernel) (by decide) (by decide +kernel) e152 rfl ?_
      refine xe_alr (ins := .aload_n 0) (len := 1) (i := 0) (by decide +kernel) rfl rfl rfl rfl rfl ?_
      obtain ⟨v153, e154, h⟩ := xbnd h
      refine xs_gr (i := 439) (c := 15) (k := 29) (by decide +kernel) (by decide) (by decide +kernel) e154 rfl ?_
      obtain ⟨v155, e156, h⟩ := xbnd h
      refine xs_gr (i := 292) (c := 14) (k := 15) (by decide +kernel) (by decide) (by decide +kernel) e156 rfl ?_
      refine xe_ldn (ins := .iload_n 3) (len := 1) (by decide +kernel) rfl rfl rfl rfl ?_
      obtain ⟨v157, e158, h⟩ := xbnd h
      refine xs_iald rfl (by decide +kernel) hx3 e158 rfl ?_
      obtain ⟨v159, e160, h⟩ := xbnd h
      refine xs_iald rfl (by decide +kernel) (xq_ai_in e158) e160 rfl ?_
      refine xe_ldn (ins := .iload_n 1) (len := 1) (by decide +kernel) rfl rfl rfl rfl ?_
      refine xe_icmpne (off := 65) (t := 153) (by decide +kernel) (by decide) rfl (xq_ai_in e160) hx1 (fun c161 => ?_) (fun c161 => ?_)
      · rw [if_pos c161] at h
        refine xW_lv rfl (l := [(0, xR_ (x0)), (1, xI (x1)), (2, xI (x2)), (3, xI (x3))]) (xsb_of ⟨rfl, rfl, rfl, rfl, trivial⟩ (show [0, 1, 2, 3].Nodup by decide)) ?_
        exact k293_153  hr12 hr52 hx1 hx2 hx3 h
      · rw [if_neg c161] at h
        refine xe_alr (ins := .aload_n 0) (len := 1) (i := 0) (by decide +kernel) rfl rfl rfl rfl rfl ?_
        obtain ⟨v162, e163, h⟩ := xbnd h
        refine xs_gr (i := 439) (c := 15) (k := 29) (by decide +kernel) (by decide) (by decide +kernel) e163 rfl ?_
        obtain ⟨v164, e165, h⟩ := xbnd h
        refine xs_gr (i := 277) (c := 14) (k := 18) (by decide +kernel) (by decide) (by decide +kernel) e165 rfl ?_
        refine xe_ldn (ins := .iload_n 3) (len := 1) (by decide +kernel) rfl rfl rfl rfl ?_
        obtain ⟨v166, e167, h⟩ := xbnd h
        refine xs_iald rfl (by decide +kernel) hx3 e167 rfl ?_
        refine xe_ifeq (off := 11) (t := 111) (by decide +kernel) (by decide) rfl (xq_ai_in e167) (fun c168 => ?_) (fun c168 => ?_)
        · rw [if_pos c168] at h
          refine xW_lv rfl (l := [(0, xR_ (x0)), (1, xI (x1)), (2, xI (x2)), (3, xI (x3))]) (xsb_of ⟨rfl, rfl, rfl, rfl, trivial⟩ (show [0, 1, 2, 3].Nodup by decide)) ?_
          exact k293_111  hr12 hr52 hx1 hx2 hx3 h
        · rw [if_neg c168] at h
          refine xe_ldn (ins := .iload_n 2) (len := 1) (by decide +kernel) rfl rfl rfl rfl ?_
          refine xe_iconst (n := 1) (by decide +kernel) rfl ?_
          refine xe_icmple (off := 6) (t := 111) (by decide +kernel) (by decide) rfl hx2 (show xin (1) by decide) (fun c169 => ?_) (fun c169 => ?_)
          · rw [if_pos c169] at h
            refine xW_lv rfl (l := [(0, xR_ (x0)), (1, xI (x1)), (2, xI (x2)), (3, xI (x3))]) (xsb_of ⟨rfl, rfl, rfl, rfl, trivial⟩ (show [0, 1, 2, 3].Nodup by decide)) ?_
            exact k293_111  hr12 hr52 hx1 hx2 hx3 h
          · rw [if_neg c169] at h
            refine xe_goto (off := 45) (nx := 153) (by decide +kernel) (by decide) ?_
            refine xW_lv rfl (l := [(0, xR_ (x0)), (1, xI (x1)), (2, xI (x2)), (3, xI (x3))]) (xsb_of ⟨rfl, rfl, rfl, rfl, trivial⟩ (show [0, 1, 2, 3].Nodup by decide)) ?_
            exact k293_153  hr12 hr52 hx1 hx2 hx3 h
def f293_52  (r12 : Nat → Int → Int → xj_M → Option (Int × xj_M)) (f : Nat) : Nat → Nat → Int → Int → Int → xj_M → Option (Int × xj_M)
  | 0, _, _, _, _, _ => none
  | n + 1, x0, x1, x2, x3, M => f293_52b  r12 (f293_52  r12 f n) f x0 x1 x2 x3 M
theorem k293_52 {d f : Nat}  {r12 : Nat → Int → Int → xj_M → Option (Int × xj_M)}  (hr12 : ∀ {x0 : Nat} {x1 : Int} {x2 : Int} {M : xj_M} {R : Int × xj_M}, xin x1 → xin x2 → r12 x0 x1 x2 M = some R → xW (d + 85) (none, d + 85, none) xr_293 (12, [(0, xR_ x0), (1, xI x1), (2, xI x2)], [], M) (xQi R)) : ∀ {n : Nat} {x0 : Nat} {x1 : Int} {x2 : Int} {x3 : Int} {M : xj_M} {R : Int × xj_M}, xin x1 → xin x2 → xin x3 → f293_52  r12 f n x0 x1 x2 x3 M = some R → xW (d + 85) (none, d + 85, none) xr_293 (52, [(0, xR_ x0), (1, xI x1), (2, xI x2), (3, xI x3)], [], M) (xQi R) := by
  intro n
  induction n with
  | zero => intros; rename_i h; cases h
  | succ n ih => intros; rename_i h; exact k293_52b  hr12 ih (by assumption) (by assumption) (by assumption) h
def f293_26b  (r12 : Nat → Int → Int → xj_M → Option (Int × xj_M)) (r26 : Nat → Int → Int → Int → xj_M → Option (Int × xj_M)) (f : Nat) (x0 : Nat) (x1 : Int) (x2 : Int) (x3 : Int) (M : xj_M) : Option (Int × xj_M) := ((xq_gr 15 29 (x0) M).bind fun v170 => ((xq_gi 14 8 (v170) M).bind fun v172 => (if (v172) ≤ (x3) then f293_52  r12 f f (x0) (x1) (x2) (0) M else ((xq_gr 15 48 (x0) M).bind fun v175 => ((xq_si (v175) (x3) (0) M).bind fun M177 => r26 (x0) (x1) (x2) (xwr ((x3) + (1))) M177)))))
theorem k293_26b {d f : Nat}  {r12 : Nat → Int → Int → xj_M → Option (Int × xj_M)} {r26 : Nat → Int → Int → Int → xj_M → Option (Int × xj_M)}  (hr12 : ∀ {x0 : Nat} {x1 : Int} {x2 : Int} {M : xj_M} {R : Int × xj_M}, xin x1 → xin x2 → r12 x0 x1 x2 M = some R → xW (d + 85) (none, d + 85, none) xr_293 (12, [(0, xR_ x0), (1, xI x1), (2, xI x2)], [], M) (xQi R)) (hr26 : ∀ {x0 : Nat} {x1 : Int} {x2 : Int} {x3 : Int} {M : xj_M} {R : Int × xj_M}, xin x1 → xin x2 → xin x3 → r26 x0 x1 x2 x3 M = some R → xW (d + 85) (none, d + 85, none) xr_293 (26, [(0, xR_ x0), (1, xI x1), (2, xI x2), (3, xI x3)], [], M) (xQi R)) {x0 : Nat} {x1 : Int} {x2 : Int} {x3 : Int} {M : xj_M} {R : Int × xj_M} (hx1 : xin x1) (hx2 : xin x2) (hx3 : xin x3) (h : f293_26b  r12 r26 f x0 x1 x2 x3 M = some R) : xW (d + 85) (none, d + 85, none) xr_293 (26, [(0, xR_ x0), (1, xI x1), (2, xI x2), (3, xI x3)], [], M) (xQi R) := by
  unfold f293_26b at h
  refine xe_ldn (ins := .iload_n 3) (len := 1) (by decide +kernel) rfl rfl rfl rfl ?_
  refine xe_alr (ins := .aload_n 0) (len := 1) (i := 0) (by decide +kernel) rfl rfl rfl rfl rfl ?_
  obtain ⟨v170, e171, h⟩ := xbnd h
  refine xs_gr (i := 439) (c := 15) (k := 29) (by decide +kernel) (by decide) (by decide +kernel) e171 rfl ?_
  obtain ⟨v172, e173, h⟩ := xbnd h
  refine xs_gi (i := 166) (c := 14) (k := 8) (by decide +kernel) (by decide) (by decide +kernel) e173 rfl ?_
  refine xe_icmpge (off := 16) (t := 50) (by decide +kernel) (by decide) rfl hx3 (xq_gi_in e173) (fun c174 => ?_) (fun c174 => ?_)
  · rw [if_pos c174] at h
    refine xe_iconst (n := 0) (by decide +kernel) rfl ?_
    refine xe_isr (ins := .istore_n 3) (len := 1) (i := 3) (by decide +kernel) rfl rfl rfl (by decide) (xk_k (show ¬ (0 : Nat) = 3 by decide) (Or.inl (show ¬ (0 + 1 : Nat) = 3 by decide)) (xk_k (show ¬ (1 : Nat) = 3 by decide) (Or.inl (show ¬ (1 + 1 : Nat) = 3 by decide)) (xk_k (show ¬ (2 : Nat) = 3 by decide) (Or.inr (xI_cat _)) (xk_d rfl xk_n)))) rfl ?_
    refine xW_lv rfl (l := [(0, xR_ (x0)), (1, xI (x1)), (2, xI (x2)), (3, xI (0))]) (xsb_of ⟨rfl, rfl, rfl, rfl, trivial⟩ (show [3, 0, 1, 2].Nodup by decide)) ?_
    exact k293_52  hr12 hx1 hx2 (show xin (0) by decide) h
  · rw [if_neg c174] at h
    refine xe_alr (ins := .aload_n 0) (len := 1) (i := 0) (by decide +kernel) rfl rfl rfl rfl rfl ?_
    obtain ⟨v175, e176, h⟩ := xbnd h
    refine xs_gr (i := 571) (c := 15) (k := 48) (by decide +kernel) (by decide) (by decide +kernel) e176 rfl ?_
    refine xe_ldn (ins := .iload_n 3) (len := 1) (by decide +kernel) rfl rfl rfl rfl ?_
    refine xe_iconst (n := 0) (by decide +kernel) rfl ?_
    obtain ⟨M177, e178, h⟩ := xbnd h
    refine xs_iast (by decide +kernel) hx3 e178 rfl ?_
    refine xe_iincr (i := 3) (n := 1) (by decide +kernel) (by decide) rfl (xk_k (show ¬ (0 : Nat) = 3 by decide) (Or.inl (show ¬ (0 + 1 : Nat) = 3 by decide)) (xk_k (show ¬ (1 : Nat) = 3 by decide) (Or.inl (show ¬ (1 + 1 : Nat) = 3 by decide)) (xk_k (show ¬ (2 : Nat) = 3 by decide) (Or.inr (xI_cat _)) (xk_d rfl xk_n)))) rfl ?_
    refine xe_goto (off := -21) (nx := 26) (by decide +kernel) (by decide) ?_
    refine xW_lv rfl (l := [(0, xR_ (x0)), (1, xI (x1)), (2, xI (x2)), (3, xI (xwr ((x3) + (1))))]) (xsb_of ⟨rfl, rfl, rfl, rfl, trivial⟩ (show [3, 0, 1, 2].Nodup by decide)) ?_
    exact hr26 hx1 hx2 (xin_wr _) h
def f293_26  (r12 : Nat → Int → Int → xj_M → Option (Int × xj_M)) (f : Nat) : Nat → Nat → Int → Int → Int → xj_M → Option (Int × xj_M)
  | 0, _, _, _, _, _ => none
  | n + 1, x0, x1, x2, x3, M => f293_26b  r12 (f293_26  r12 f n) f x0 x1 x2 x3 M
theorem k293_26 {d f : Nat}  {r12 : Nat → Int → Int → xj_M → Option (Int × xj_M)}  (hr12 : ∀ {x0 : Nat} {x1 : Int} {x2 : Int} {M : xj_M} {R : Int × xj_M}, xin x1 → xin x2 → r12 x0 x1 x2 M = some R → xW (d + 85) (none, d + 85, none) xr_293 (12, [(0, xR_ x0), (1, xI x1), (2, xI x2)], [], M) (xQi R)) : ∀ {n : Nat} {x0 : Nat} {x1 : Int} {x2 : Int} {x3 : Int} {M : xj_M} {R : Int × xj_M}, xin x1 → xin x2 → xin x3 → f293_26  r12 f n x0 x1 x2 x3 M = some R → xW (d + 85) (none, d + 85, none) xr_293 (26, [(0, xR_ x0), (1, xI x1), (2, xI x2), (3, xI x3)], [], M) (xQi R) := by
  intro n
  induction n with
  | zero => intros; rename_i h; cases h
  | succ n ih => intros; rename_i h; exact k293_26b  hr12 ih (by assumption) (by assumption) (by assumption) h
def f293_12b  (r12 : Nat → Int → Int → xj_M → Option (Int × xj_M)) (f : Nat) (x0 : Nat) (x1 : Int) (x2 : Int) (M : xj_M) : Option (Int × xj_M) := ((xq_gi 15 43 (x0) M).bind fun v179 => (if ¬ (v179) = 0 then (some (0, M)) else ((xq_pi 15 47 (x0) (0) M).bind fun M182 => f293_26  r12 f f (x0) (x1) (x2) (0) M182)))
theorem k293_12b {d f : Nat}  {r12 : Nat → Int → Int → xj_M → Option (Int × xj_M)}  (hr12 : ∀ {x0 : Nat} {x1 : Int} {x2 : Int} {M : xj_M} {R : Int × xj_M}, xin x1 → xin x2 → r12 x0 x1 x2 M = some R → xW (d + 85) (none, d + 85, none) xr_293 (12, [(0, xR_ x0), (1, xI x1), (2, xI x2)], [], M) (xQi R)) {x0 : Nat} {x1 : Int} {x2 : Int} {M : xj_M} {R : Int × xj_M} (hx1 : xin x1) (hx2 : xin x2) (h : f293_12b  r12 f x0 x1 x2 M = some R) : xW (d + 85) (none, d + 85, none) xr_293 (12, [(0, xR_ x0), (1, xI x1), (2, xI x2)], [], M) (xQi R) := by
  unfold f293_12b at h
  refine xe_alr (ins := .aload_n 0) (len := 1) (i := 0) (by decide +kernel) rfl rfl rfl rfl rfl ?_
  obtain ⟨v179, e180, h⟩ := xbnd h
  refine xs_gi (i := 498) (c := 15) (k := 43) (by decide +kernel) (by decide) (by decide +kernel) e180 rfl ?_
  refine xe_ifne (off := 201) (t := 217) (by decide +kernel) (by decide) rfl (xq_gi_in e180) (fun c181 => ?_) (fun c181 => ?_)
  · rw [if_pos c181] at h
    refine xe_iconst (n := 0) (by decide +kernel) rfl ?_
    cases h
    exact xe_ret_i (ty := .boolean) (by decide +kernel) rfl (by decide) ⟨rfl, rfl, (show xin (0) by decide)⟩
  · rw [if_neg c181] at h
    refine xe_alr (ins := .aload_n 0) (len := 1) (i := 0) (by decide +kernel) rfl rfl rfl rfl rfl ?_
    refine xe_iconst (n := 0) (by decide +kernel) rfl ?_
    obtain ⟨M182, e183, h⟩ := xbnd h
    refine xs_p (i := 562) (c := 15) (k := 47) (by decide +kernel) (by decide +kernel) (by decide +kernel) e183 rfl ?_
    refine xe_iconst (n := 0) (by decide +kernel) rfl ?_
    refine xe_isr (ins := .istore_n 3) (len := 1) (i := 3) (by decide +kernel) rfl rfl rfl (by decide) (xk_k (show ¬ (0 : Nat) = 3 by decide) (Or.inl (show ¬ (0 + 1 : Nat) = 3 by decide)) (xk_k (show ¬ (1 : Nat) = 3 by decide) (Or.inl (show ¬ (1 + 1 : Nat) = 3 by decide)) (xk_k (show ¬ (2 : Nat) = 3 by decide) (Or.inr (xI_cat _)) xk_n))) rfl ?_
    refine xW_lv rfl (l := [(0, xR_ (x0)), (1, xI (x1)), (2, xI (x2)), (3, xI (0))]) (xsb_of ⟨rfl, rfl, rfl, rfl, trivial⟩ (show [3, 0, 1, 2].Nodup by decide)) ?_
    exact k293_26  hr12 hx1 hx2 (show xin (0) by decide) h
def f293_12   (f : Nat) : Nat → Nat → Int → Int → xj_M → Option (Int × xj_M)
  | 0, _, _, _, _ => none
  | n + 1, x0, x1, x2, M => f293_12b   (f293_12   f n) f x0 x1 x2 M
theorem k293_12 {d f : Nat}     : ∀ {n : Nat} {x0 : Nat} {x1 : Int} {x2 : Int} {M : xj_M} {R : Int × xj_M}, xin x1 → xin x2 → f293_12   f n x0 x1 x2 M = some R → xW (d + 85) (none, d + 85, none) xr_293 (12, [(0, xR_ x0), (1, xI x1), (2, xI x2)], [], M) (xQi R) := by
  intro n
  induction n with
  | zero => intros; rename_i h; cases h
  | succ n ih => intros; rename_i h; exact k293_12b   ih (by assumption) (by assumption) h
def f293  (f : Nat) (a0 : Nat) (a1 : Int) (M : xj_M) : Option (Int × xj_M) := ((xq_pi 15 43 (a0) (0) M).bind fun M184 => ((xq_pi 15 40 (a0) (-1) M184).bind fun M186 => f293_12   f f (a0) (a1) (1) M186))
theorem k293 {d f : Nat}   {a0 : Nat} {a1 : Int} {M : xj_M} {R : Int × xj_M} (ha1 : xin a1) (h : f293  f a0 a1 M = some R) : xT (d + 86) 293 [xR_ a0, xI a1] M (xQi R) := by
  refine xT_m xr_293_e (X := (none, d + 85, none)) rfl (xa_1 (xR_cat _) (xa_1 (xI_cat _) xa_n)) (by decide) ?_
  unfold f293 at h
  refine xe_alr (ins := .aload_n 0) (len := 1) (i := 0) (by decide +kernel) rfl rfl rfl rfl rfl ?_
  refine xe_iconst (n := 0) (by decide +kernel) rfl ?_
  obtain ⟨M184, e185, h⟩ := xbnd h
  refine xs_p (i := 498) (c := 15) (k := 43) (by decide +kernel) (by decide +kernel) (by decide +kernel) e185 rfl ?_
  refine xe_alr (ins := .aload_n 0) (len := 1) (i := 0) (by decide +kernel) rfl rfl rfl rfl rfl ?_
  refine xe_iconst (n := -1) (by decide +kernel) rfl ?_
  obtain ⟨M186, e187, h⟩ := xbnd h
  refine xs_p (i := 482) (c := 15) (k := 40) (by decide +kernel) (by decide +kernel) (by decide +kernel) e187 rfl ?_
  refine xe_iconst (n := 1) (by decide +kernel) rfl ?_
  refine xe_isr (ins := .istore_n 2) (len := 1) (i := 2) (by decide +kernel) rfl rfl rfl (by decide) (xk_k (show ¬ (0 : Nat) = 2 by decide) (Or.inl (show ¬ (0 + 1 : Nat) = 2 by decide)) (xk_k (show ¬ (1 : Nat) = 2 by decide) (Or.inr (xI_cat _)) xk_n)) rfl ?_
  refine xW_lv rfl (l := [(0, xR_ (a0)), (1, xI (a1)), (2, xI (1))]) (xsb_of ⟨rfl, rfl, rfl, trivial⟩ (show [2, 0, 1].Nodup by decide)) ?_
  exact k293_12   ha1 (show xin (1) by decide) h
-- ChangeHouseModel.asked
def xr_369 : xj_mR := (15, yX15_asked, cX15_asked, 4, (Option.some Jvm.ClassFile.FieldType.int), 1, false, (14, 36), (1, 12))
set_option maxRecDepth 20000 in
theorem xr_369_e : xj_row 369 = some xr_369 := rfl
def f369_85  (r7 : Nat → Int → xj_M → Option (Int × xj_M)) (f : Nat) (x0 : Nat) (x2 : Int) (M : xj_M) : Option (Int × xj_M) := r7 (x0) (xwr ((x2) + (1))) M
theorem k369_85 {d f : Nat}  {r7 : Nat → Int → xj_M → Option (Int × xj_M)}  (hr7 : ∀ {x0 : Nat} {x2 : Int} {M : xj_M} {R : Int × xj_M}, xin x2 → r7 x0 x2 M = some R → xW (d + 84) (none, d + 84, none) xr_369 (7, [(0, xR_ x0), (2, xI x2)], [], M) (xQi R)) {x0 : Nat} {x2 : Int} {M : xj_M} {R : Int × xj_M} (hx2 : xin x2) (h : f369_85  r7 f x0 x2 M = some R) : xW (d + 84) (none, d + 84, none) xr_369 (85, [(0, xR_ x0), (2, xI x2)], [], M) (xQi R) := by
  unfold f369_85 at h
  refine xe_iincr (i := 2) (n := 1) (by decide +kernel) (by decide) rfl (xk_k (show ¬ (0 : Nat) = 2 by decide) (Or.inl (show ¬ (0 + 1 : Nat) = 2 by decide)) (xk_d rfl xk_n)) rfl ?_
  refine xe_goto (off := -81) (nx := 7) (by decide +kernel) (by decide) ?_
  refine xW_lv rfl (l := [(0, xR_ (x0)), (2, xI (xwr ((x2) + (1))))]) (xsb_of ⟨rfl, rfl, trivial⟩ (show [2, 0].Nodup by decide)) ?_
  exact hr7 (xin_wr _) h
def f369_209b  (r209 : Nat → Int → xj_M → Option (Int × xj_M)) (f : Nat) (x0 : Nat) (x2 : Int) (M : xj_M) : Option (Int × xj_M) := ((xq_gi 15 52 (x0) M).bind fun v101 => (if (xwr ((v101) * (8))) ≤ (x2) then ((xq_gi 15 52 (x0) M).bind fun v104 => (some (v104, M))) else ((xq_gr 15 104 (x0) M).bind fun v106 => ((xq_gr 15 49 (x0) M).bind fun v108 => ((xq_al (v108) (x2) M).bind fun v110 => ((xq_sl (v106) (x2) (v110) M).bind fun M112 => r209 (x0) (xwr ((x2) + (1))) M112))))))
theorem k369_209b {d f : Nat}  {r209 : Nat → Int → xj_M → Option (Int × xj_M)}  (hr209 : ∀ {x0 : Nat} {x2 : Int} {M : xj_M} {R : Int × xj_M}, xin x2 → r209 x0 x2 M = some R → xW (d + 84) (none, d + 84, none) xr_369 (209, [(0, xR_ x0), (2, xI x2)], [], M) (xQi R)) {x0 : Nat} {x2 : Int} {M : xj_M} {R : Int × xj_M} (hx2 : xin x2) (h : f369_209b  r209 f x0 x2 M = some R) : xW (d + 84) (none, d + 84, none) xr_369 (209, [(0, xR_ x0), (2, xI x2)], [], M) (xQi R) := by
  unfold f369_209b at h
  refine xe_ldn (ins := .iload_n 2) (len := 1) (by decide +kernel) rfl rfl rfl rfl ?_
  refine xe_alr (ins := .aload_n 0) (len := 1) (i := 0) (by decide +kernel) rfl rfl rfl rfl rfl ?_
  obtain ⟨v101, e102, h⟩ := xbnd h
  refine xs_gi (i := 574) (c := 15) (k := 52) (by decide +kernel) (by decide) (by decide +kernel) e102 rfl ?_
  refine xe_bipush (n := 8) (by decide +kernel) (by decide) rfl ?_
  refine xe_imul (by decide +kernel) rfl ?_
  refine xe_icmpge (off := 21) (t := 238) (by decide +kernel) (by decide) rfl hx2 (xin_wr _) (fun c103 => ?_) (fun c103 => ?_)
  · rw [if_pos c103] at h
    refine xe_alr (ins := .aload_n 0) (len := 1) (i := 0) (by decide +kernel) rfl rfl rfl rfl rfl ?_
    obtain ⟨v104, e105, h⟩ := xbnd h
    refine xs_gi (i := 574) (c := 15) (k := 52) (by decide +kernel) (by decide) (by decide +kernel) e105 rfl ?_
    cases h
    exact xe_ret_i (ty := .int) (by decide +kernel) rfl rfl ⟨rfl, rfl, (xq_gi_in e105)⟩
  · rw [if_neg c103] at h
    refine xe_alr (ins := .aload_n 0) (len := 1) (i := 0) (by decide +kernel) rfl rfl rfl rfl rfl ?_
    obtain ⟨v106, e107, h⟩ := xbnd h
    refine xs_gr (i := 1128) (c := 15) (k := 104) (by decide +kernel) (by decide) (by decide +kernel) e107 rfl ?_
    refine xe_ldn (ins := .iload_n 2) (len := 1) (by decide +kernel) rfl rfl rfl rfl ?_
    refine xe_alr (ins := .aload_n 0) (len := 1) (i := 0) (by decide +kernel) rfl rfl rfl rfl rfl ?_
    obtain ⟨v108, e109, h⟩ := xbnd h
    refine xs_gr (i := 577) (c := 15) (k := 49) (by decide +kernel) (by decide) (by decide +kernel) e109 rfl ?_
    refine xe_ldn (ins := .iload_n 2) (len := 1) (by decide +kernel) rfl rfl rfl rfl ?_
    obtain ⟨v110, e111, h⟩ := xbnd h
    refine xs_lald (by decide +kernel) hx2 e111 rfl ?_
    obtain ⟨M112, e113, h⟩ := xbnd h
    refine xs_last (by decide +kernel) hx2 e113 rfl ?_
    refine xe_iincr (i := 2) (n := 1) (by decide +kernel) (by decide) rfl (xk_k (show ¬ (0 : Nat) = 2 by decide) (Or.inl (show ¬ (0 + 1 : Nat) = 2 by decide)) (xk_d rfl xk_n)) rfl ?_
    refine xe_goto (off := -26) (nx := 209) (by decide +kernel) (by decide) ?_
    refine xW_lv rfl (l := [(0, xR_ (x0)), (2, xI (xwr ((x2) + (1))))]) (xsb_of ⟨rfl, rfl, trivial⟩ (show [2, 0].Nodup by decide)) ?_
    exact hr209 (xin_wr _) h
def f369_209   (f : Nat) : Nat → Nat → Int → xj_M → Option (Int × xj_M)
  | 0, _, _, _ => none
  | n + 1, x0, x2, M => f369_209b   (f369_209   f n) f x0 x2 M
theorem k369_209 {d f : Nat}     : ∀ {n : Nat} {x0 : Nat} {x2 : Int} {M : xj_M} {R : Int × xj_M}, xin x2 → f369_209   f n x0 x2 M = some R → xW (d + 84) (none, d + 84, none) xr_369 (209, [(0, xR_ x0), (2, xI x2)], [], M) (xQi R) := by
  intro n
  induction n with
  | zero => intros; rename_i h; cases h
  | succ n ih => intros; rename_i h; exact k369_209b   ih (by assumption) h
def f369_7b  (r7 : Nat → Int → xj_M → Option (Int × xj_M)) (f : Nat) (x0 : Nat) (x2 : Int) (M : xj_M) : Option (Int × xj_M) := ((xq_gr 15 29 (x0) M).bind fun v114 => ((xq_gi 14 14 (v114) M).bind fun v116 => (if (v116) ≤ (x2) then ((xq_gr 15 29 (x0) M).bind fun v119 => ((xq_is 15 (x0) M).bind fun _ => ((f258  f (x0) (v119) (24) M).bind fun M123 => ((xq_gi 15 26 (x0) M123).bind fun v125 => (if (v125) = 0 then ((xq_pi 15 39 (x0) (24) M123).bind fun M128 => ((xq_pi 15 38 (x0) (3) M128).bind fun M130 => ((xq_pi 15 40 (x0) (-1) M130).bind fun M132 => ((xq_pi 15 37 (x0) (0) M132).bind fun M134 => ((xq_pi 15 43 (x0) (0) M134).bind fun M136 => ((xq_pi 15 52 (x0) (0) M136).bind fun M138 => ((xq_gr 15 29 (x0) M138).bind fun v140 => ((xq_gr 14 22 (v140) M138).bind fun v142 => ((xq_ai 3 (v142) (24) M138).bind fun v144 => ((xq_pi 15 53 (x0) (v144) M138).bind fun M146 => ((xq_is 15 (x0) M146).bind fun _ => ((f275  f (x0) (0) M146).bind fun M150 => ((xq_gi 15 43 (x0) M150).bind fun v152 => (if (v152) = 0 then ((xq_gi 15 52 (x0) M150).bind fun v155 => (if ¬ (v155) = 0 then ((xq_gi 15 52 (x0) M150).bind fun v158 => ((xq_pi 15 105 (x0) (v158) M150).bind fun M160 => ((xq_gi 15 53 (x0) M160).bind fun v162 => ((xq_pi 15 106 (x0) (v162) M160).bind fun M164 => f369_209   f f (x0) (0) M164)))) else (some (0, M150)))) else (some (-6000, M150)))))))))))))))) else ((xq_gi 15 26 (x0) M123).bind fun v166 => ((xq_gi 15 27 (x0) M123).bind fun v168 => ((xq_is 15 (x0) M123).bind fun _ => ((f362  f (x0) (v166) (v168) M123).bind fun R172 => (some (R172.1, R172.2))))))))))) else ((xq_gr 15 29 (x0) M).bind fun v174 => ((xq_gr 14 10 (v174) M).bind fun v176 => ((xq_ai 3 (v176) (x2) M).bind fun v178 => (if ¬ (v178) = (-1) then ((xq_gr 15 29 (x0) M).bind fun v181 => ((xq_gr 14 1 (v181) M).bind fun v183 => ((xq_ai 3 (v183) (v178) M).bind fun v185 => ((xq_gr 15 29 (x0) M).bind fun v187 => ((xq_gr 14 12 (v187) M).bind fun v189 => ((xq_ai 3 (v189) (x2) M).bind fun v191 => (if (v185) = (v191) then f369_85  r7 f (x0) (x2) M else ((xq_gr 15 29 (x0) M).bind fun v194 => ((xq_gr 14 11 (v194) M).bind fun v196 => ((xq_ai 3 (v196) (x2) M).bind fun v198 => ((xq_is 15 (x0) M).bind fun _ => ((f251  f (x0) (3) (v198) M).bind fun M202 => f369_85  r7 f (x0) (x2) M202)))))))))))) else ((xq_gr 15 29 (x0) M).bind fun v204 => ((xq_gr 14 11 (v204) M).bind fun v206 => ((xq_ai 3 (v206) (x2) M).bind fun v208 => ((xq_is 15 (x0) M).bind fun _ => ((f251  f (x0) (2) (v208) M).bind fun M212 => f369_85  r7 f (x0) (x2) M212))))))))))))
theorem k369_7b {d f : Nat}  {r7 : Nat → Int → xj_M → Option (Int × xj_M)}  (hr7 : ∀ {x0 : Nat} {x2 : Int} {M : xj_M} {R : Int × xj_M}, xin x2 → r7 x0 x2 M = some R → xW (d + 84) (none, d + 84, none) xr_369 (7, [(0, xR_ x0), (2, xI x2)], [], M) (xQi R)) {x0 : Nat} {x2 : Int} {M : xj_M} {R : Int × xj_M} (hx2 : xin x2) (h : f369_7b  r7 f x0 x2 M = some R) : xW (d + 84) (none, d + 84, none) xr_369 (7, [(0, xR_ x0), (2, xI x2)], [], M) (xQi R) := by
  unfold f369_7b at h
  refine xe_ldn (ins := .iload_n 2) (len := 1) (by decide +kernel) rfl rfl rfl rfl ?_
  refine xe_alr (ins := .aload_n 0) (len := 1) (i := 0) (by decide +kernel) rfl rfl rfl rfl rfl ?_
  obtain ⟨v114, e115, h⟩ := xbnd h
  refine xs_gr (i := 439) (c := 15) (k := 29) (by decide +kernel) (by decide) (by decide +kernel) e115 rfl ?_
  obtain ⟨v116, e117, h⟩ := xbnd h
  refine xs_gi (i := 174) (c := 14) (k := 14) (by decide +kernel) (by decide) (by decide +kernel) e117 rfl ?_
  refine xe_icmpge (off := 76) (t := 91) (by decide +kernel) (by decide) rfl hx2 (xq_gi_in e117) (fun c118 => ?_) (fun c118 => ?_)
  · rw [if_pos c118] at h
    refine xe_alr (ins := .aload_n 0) (len := 1) (i := 0) (by decide +kernel) rfl rfl rfl rfl rfl ?_
    refine xe_alr (ins := .aload_n 0) (len := 1) (i := 0) (by decide +kernel) rfl rfl rfl rfl rfl ?_
    obtain ⟨v119, e120, h⟩ := xbnd h
    refine xs_gr (i := 439) (c := 15) (k := 29) (by decide +kernel) (by decide) (by decide +kernel) e120 rfl ?_
    refine xe_bipush (n := 24) (by decide +kernel) (by decide) rfl ?_
    obtain ⟨_, e122, h⟩ := xbnd h
    obtain ⟨M123, e121, h⟩ := xbnd h
    refine xs_cv (i := 398) (j := 258) (ar := [xI (24), xR_ (v119)]) (rest := []) (r2 := xr_258) (by decide +kernel) (by decide +kernel) (by decide +kernel) xr_258_e rfl (by decide) (by decide) e122 ?_
    refine xc_v (k258 (d := d + 81)  (show xin (24) by decide) e121) rfl ?_
    refine xe_alr (ins := .aload_n 0) (len := 1) (i := 0) (by decide +kernel) rfl rfl rfl rfl rfl ?_
    obtain ⟨v125, e126, h⟩ := xbnd h
    refine xs_gi (i := 382) (c := 15) (k := 26) (by decide +kernel) (by decide) (by decide +kernel) e126 rfl ?_
    refine xe_ifeq (off := 16) (t := 121) (by decide +kernel) (by decide) rfl (xq_gi_in e126) (fun c127 => ?_) (fun c127 => ?_)
    · rw [if_pos c127] at h
      refine xe_alr (ins := .aload_n 0) (len := 1) (i := 0) (by decide +kernel) rfl rfl rfl rfl rfl ?_
      refine xe_bipush (n := 24) (by decide +kernel) (by decide) rfl ?_
      obtain ⟨M128, e129, h⟩ := xbnd h
      refine xs_p (i := 501) (c := 15) (k := 39) (by decide +kernel) (by decide +kernel) (by decide +kernel) e129 rfl ?_
      refine xe_alr (ins := .aload_n 0) (len := 1) (i := 0) (by decide +kernel) rfl rfl rfl rfl rfl ?_
      refine xe_iconst (n := 3) (by decide +kernel) rfl ?_
      obtain ⟨M130, e131, h⟩ := xbnd h
      refine xs_p (i := 542) (c := 15) (k := 38) (by decide +kernel) (by decide +kernel) (by decide +kernel) e131 rfl ?_
      refine xe_alr (ins := .aload_n 0) (len := 1) (i := 0) (by decide +kernel) rfl rfl rfl rfl rfl ?_
      refine xe_iconst (n := -1) (by decide +kernel) rfl ?_
      obtain ⟨M132, e133, h⟩ := xbnd h
      refine xs_p (i := 482) (c := 15) (k := 40) (by decide +kernel) (by decide +kernel) (by decide +kernel) e133 rfl ?_
      refine xe_alr (ins := .aload_n 0) (len := 1) (i := 0) (by decide +kernel) rfl rfl rfl rfl rfl ?_
      refine xe_iconst (n := 0) (by decide +kernel) rfl ?_
      obtain ⟨M134, e135, h⟩ := xbnd h
      refine xs_p (i := 479) (c := 15) (k := 37) (by decide +kernel) (by decide +kernel) (by decide +kernel) e135 rfl ?_
      refine xe_alr (ins := .aload_n 0) (len := 1) (i := 0) (by decide +kernel) rfl rfl rfl rfl rfl ?_
      refine xe_iconst (n := 0) (by decide +kernel) rfl ?_
      obtain ⟨M136, e137, h⟩ := xbnd h
      refine xs_p (i := 498) (c := 15) (k := 43) (by decide +kernel) (by decide +kernel) (by decide +kernel) e137 rfl ?_
      refine xe_alr (ins := .aload_n 0) (len := 1) (i := 0) (by decide +kernel) rfl rfl rfl rfl rfl ?_
      refine xe_iconst (n := 0) (by decide +kernel) rfl ?_
      obtain ⟨M138, e139, h⟩ := xbnd h
      refine xs_p (i := 574) (c := 15) (k := 52) (by decide +kernel) (by decide +kernel) (by decide +kernel) e139 rfl ?_
      refine xe_alr (ins := .aload_n 0) (len := 1) (i := 0) (by decide +kernel) rfl rfl rfl rfl rfl ?_
      refine xe_alr (ins := .aload_n 0) (len := 1) (i := 0) (by decide +kernel) rfl rfl rfl rfl rfl ?_
      obtain ⟨v140, e141, h⟩ := xbnd h
      refine xs_gr (i := 439) (c := 15) (k := 29) (by decide +kernel) (by decide) (by decide +kernel) e141 rfl ?_
      obtain ⟨v142, e143, h⟩ := xbnd h
      refine xs_gr (i := 271) (c := 14) (k := 22) (by decide +kernel) (by decide) (by decide +kernel) e143 rfl ?_
      refine xe_bipush (n := 24) (by decide +kernel) (by decide) rfl ?_
      obtain ⟨v144, e145, h⟩ := xbnd h
      refine xs_iald rfl (by decide +kernel) (show xin (24) by decide) e145 rfl ?_
      obtain ⟨M146, e147, h⟩ := xbnd h
      refine xs_p (i := 580) (c := 15) (k := 53) (by decide +kernel) (by decide +kernel) (by decide +kernel) e147 rfl ?_
      refine xe_alr (ins := .aload_n 0) (len := 1) (i := 0) (by decide +kernel) rfl rfl rfl rfl rfl ?_
      refine xe_iconst (n := 0) (by decide +kernel) rfl ?_
      obtain ⟨_, e149, h⟩ := xbnd h
      obtain ⟨M150, e148, h⟩ := xbnd h
      refine xs_cv (i := 507) (j := 275) (ar := [xI (0)]) (rest := []) (r2 := xr_275) (by decide +kernel) (by decide +kernel) (by decide +kernel) xr_275_e rfl (by decide) (by decide) e149 ?_
      refine xc_v (k275 (d := d + 0)  (show xin (0) by decide) e148) rfl ?_
      refine xe_alr (ins := .aload_n 0) (len := 1) (i := 0) (by decide +kernel) rfl rfl rfl rfl rfl ?_
      obtain ⟨v152, e153, h⟩ := xbnd h
      refine xs_gi (i := 498) (c := 15) (k := 43) (by decide +kernel) (by decide) (by decide +kernel) e153 rfl ?_
      refine xe_ifeq (off := 7) (t := 182) (by decide +kernel) (by decide) rfl (xq_gi_in e153) (fun c154 => ?_) (fun c154 => ?_)
      · rw [if_pos c154] at h
        refine xe_alr (ins := .aload_n 0) (len := 1) (i := 0) (by decide +kernel) rfl rfl rfl rfl rfl ?_
        obtain ⟨v155, e156, h⟩ := xbnd h
        refine xs_gi (i := 574) (c := 15) (k := 52) (by decide +kernel) (by decide) (by decide +kernel) e156 rfl ?_
        refine xe_ifne (off := 5) (t := 191) (by decide +kernel) (by decide) rfl (xq_gi_in e156) (fun c157 => ?_) (fun c157 => ?_)
        · rw [if_pos c157] at h
          refine xe_alr (ins := .aload_n 0) (len := 1) (i := 0) (by decide +kernel) rfl rfl rfl rfl rfl ?_
          refine xe_alr (ins := .aload_n 0) (len := 1) (i := 0) (by decide +kernel) rfl rfl rfl rfl rfl ?_
          obtain ⟨v158, e159, h⟩ := xbnd h
          refine xs_gi (i := 574) (c := 15) (k := 52) (by decide +kernel) (by decide) (by decide +kernel) e159 rfl ?_
          obtain ⟨M160, e161, h⟩ := xbnd h
          refine xs_p (i := 1141) (c := 15) (k := 105) (by decide +kernel) (by decide +kernel) (by decide +kernel) e161 rfl ?_
          refine xe_alr (ins := .aload_n 0) (len := 1) (i := 0) (by decide +kernel) rfl rfl rfl rfl rfl ?_
          refine xe_alr (ins := .aload_n 0) (len := 1) (i := 0) (by decide +kernel) rfl rfl rfl rfl rfl ?_
          obtain ⟨v162, e163, h⟩ := xbnd h
          refine xs_gi (i := 580) (c := 15) (k := 53) (by decide +kernel) (by decide) (by decide +kernel) e163 rfl ?_
          obtain ⟨M164, e165, h⟩ := xbnd h
          refine xs_p (i := 1144) (c := 15) (k := 106) (by decide +kernel) (by decide +kernel) (by decide +kernel) e165 rfl ?_
          refine xe_iconst (n := 0) (by decide +kernel) rfl ?_
          refine xe_isr (ins := .istore_n 2) (len := 1) (i := 2) (by decide +kernel) rfl rfl rfl (by decide) (xk_k (show ¬ (0 : Nat) = 2 by decide) (Or.inl (show ¬ (0 + 1 : Nat) = 2 by decide)) (xk_d rfl xk_n)) rfl ?_
          refine xW_lv rfl (l := [(0, xR_ (x0)), (2, xI (0))]) (xsb_of ⟨rfl, rfl, trivial⟩ (show [2, 0].Nodup by decide)) ?_
          exact k369_209   (show xin (0) by decide) h
        · rw [if_neg c157] at h
          refine xe_iconst (n := 0) (by decide +kernel) rfl ?_
          cases h
          exact xe_ret_i (ty := .int) (by decide +kernel) rfl rfl ⟨rfl, rfl, (show xin (0) by decide)⟩
      · rw [if_neg c154] at h
        refine xe_sipush (n := -6000) (by decide +kernel) (by decide) rfl ?_
        cases h
        exact xe_ret_i (ty := .int) (by decide +kernel) rfl rfl ⟨rfl, rfl, (show xin (-6000) by decide)⟩
    · rw [if_neg c127] at h
      refine xe_alr (ins := .aload_n 0) (len := 1) (i := 0) (by decide +kernel) rfl rfl rfl rfl rfl ?_
      refine xe_alr (ins := .aload_n 0) (len := 1) (i := 0) (by decide +kernel) rfl rfl rfl rfl rfl ?_
      obtain ⟨v166, e167, h⟩ := xbnd h
      refine xs_gi (i := 382) (c := 15) (k := 26) (by decide +kernel) (by decide) (by decide +kernel) e167 rfl ?_
      refine xe_alr (ins := .aload_n 0) (len := 1) (i := 0) (by decide +kernel) rfl rfl rfl rfl rfl ?_
      obtain ⟨v168, e169, h⟩ := xbnd h
      refine xs_gi (i := 385) (c := 15) (k := 27) (by decide +kernel) (by decide) (by decide +kernel) e169 rfl ?_
      obtain ⟨_, e171, h⟩ := xbnd h
      obtain ⟨R172, e170, h⟩ := xbnd h
      refine xs_cv (i := 1134) (j := 362) (ar := [xI (v168), xI (v166)]) (rest := []) (r2 := xr_362) (by decide +kernel) (by decide +kernel) (by decide +kernel) xr_362_e rfl (by decide) (by decide) e171 ?_
      refine xc_i (k362 (d := d + 83)  (xq_gi_in e167) (xq_gi_in e169) e170) rfl (fun hi173 => ?_)
      cases h
      exact xe_ret_i (ty := .int) (by decide +kernel) rfl rfl ⟨rfl, rfl, hi173⟩
  · rw [if_neg c118] at h
    refine xe_alr (ins := .aload_n 0) (len := 1) (i := 0) (by decide +kernel) rfl rfl rfl rfl rfl ?_
    obtain ⟨v174, e175, h⟩ := xbnd h
    refine xs_gr (i := 439) (c := 15) (k := 29) (by decide +kernel) (by decide) (by decide +kernel) e175 rfl ?_
    obtain ⟨v176, e177, h⟩ := xbnd h
    refine xs_gr (i := 201) (c := 14) (k := 10) (by decide +kernel) (by decide) (by decide +kernel) e177 rfl ?_
    refine xe_ldn (ins := .iload_n 2) (len := 1) (by decide +kernel) rfl rfl rfl rfl ?_
    obtain ⟨v178, e179, h⟩ := xbnd h
    refine xs_iald rfl (by decide +kernel) hx2 e179 rfl ?_
    refine xe_isr (ins := .istore_n 3) (len := 1) (i := 3) (by decide +kernel) rfl rfl rfl (by decide) (xk_k (show ¬ (0 : Nat) = 3 by decide) (Or.inl (show ¬ (0 + 1 : Nat) = 3 by decide)) (xk_k (show ¬ (2 : Nat) = 3 by decide) (Or.inr (xI_cat _)) xk_n)) rfl ?_
    refine xe_ldn (ins := .iload_n 3) (len := 1) (by decide +kernel) rfl rfl rfl rfl ?_
    refine xe_iconst (n := -1) (by decide +kernel) rfl ?_
    refine xe_icmpne (off := 20) (t := 50) (by decide +kernel) (by decide) rfl (xq_ai_in e179) (show xin (-1) by decide) (fun c180 => ?_) (fun c180 => ?_)
    · rw [if_pos c180] at h
      refine xe_alr (ins := .aload_n 0) (len := 1) (i := 0) (by decide +kernel) rfl rfl rfl rfl rfl ?_
      obtain ⟨v181, e182, h⟩ := xbnd h
      refine xs_gr (i := 439) (c := 15) (k := 29) (by decide +kernel) (by decide) (by decide +kernel) e182 rfl ?_
      obtain ⟨v183, e184, h⟩ := xbnd h
      refine xs_gr (i := 180) (c := 14) (k := 1) (by decide +kernel) (by decide) (by decide +kernel) e184 rfl ?_
      refine xe_ldn (ins := .iload_n 3) (len := 1) (by decide +kernel) rfl rfl rfl rfl ?_
      obtain ⟨v185, e186, h⟩ := xbnd h
      refine xs_iald rfl (by decide +kernel) (xq_ai_in e179) e186 rfl ?_
      refine xe_alr (ins := .aload_n 0) (len := 1) (i := 0) (by decide +kernel) rfl rfl rfl rfl rfl ?_
      obtain ⟨v187, e188, h⟩ := xbnd h
      refine xs_gr (i := 439) (c := 15) (k := 29) (by decide +kernel) (by decide) (by decide +kernel) e188 rfl ?_
      obtain ⟨v189, e190, h⟩ := xbnd h
      refine xs_gr (i := 207) (c := 14) (k := 12) (by decide +kernel) (by decide) (by decide +kernel) e190 rfl ?_
      refine xe_ldn (ins := .iload_n 2) (len := 1) (by decide +kernel) rfl rfl rfl rfl ?_
      obtain ⟨v191, e192, h⟩ := xbnd h
      refine xs_iald rfl (by decide +kernel) hx2 e192 rfl ?_
      refine xe_icmpeq (off := 17) (t := 85) (by decide +kernel) (by decide) rfl (xq_ai_in e186) (xq_ai_in e192) (fun c193 => ?_) (fun c193 => ?_)
      · rw [if_pos c193] at h
        refine xW_lv rfl (l := [(0, xR_ (x0)), (2, xI (x2))]) (xsb_of ⟨rfl, rfl, trivial⟩ (show [3, 0, 2].Nodup by decide)) ?_
        exact k369_85  hr7 hx2 h
      · rw [if_neg c193] at h
        refine xe_alr (ins := .aload_n 0) (len := 1) (i := 0) (by decide +kernel) rfl rfl rfl rfl rfl ?_
        refine xe_iconst (n := 3) (by decide +kernel) rfl ?_
        refine xe_alr (ins := .aload_n 0) (len := 1) (i := 0) (by decide +kernel) rfl rfl rfl rfl rfl ?_
        obtain ⟨v194, e195, h⟩ := xbnd h
        refine xs_gr (i := 439) (c := 15) (k := 29) (by decide +kernel) (by decide) (by decide +kernel) e195 rfl ?_
        obtain ⟨v196, e197, h⟩ := xbnd h
        refine xs_gr (i := 204) (c := 14) (k := 11) (by decide +kernel) (by decide) (by decide +kernel) e197 rfl ?_
        refine xe_ldn (ins := .iload_n 2) (len := 1) (by decide +kernel) rfl rfl rfl rfl ?_
        obtain ⟨v198, e199, h⟩ := xbnd h
        refine xs_iald rfl (by decide +kernel) hx2 e199 rfl ?_
        obtain ⟨_, e201, h⟩ := xbnd h
        obtain ⟨M202, e200, h⟩ := xbnd h
        refine xs_cv (i := 392) (j := 251) (ar := [xI (v198), xI (3)]) (rest := []) (r2 := xr_251) (by decide +kernel) (by decide +kernel) (by decide +kernel) xr_251_e rfl (by decide) (by decide) e201 ?_
        refine xc_v (k251 (d := d + 83)  (show xin (3) by decide) (xq_ai_in e199) e200) rfl ?_
        refine xW_lv rfl (l := [(0, xR_ (x0)), (2, xI (x2))]) (xsb_of ⟨rfl, rfl, trivial⟩ (show [3, 0, 2].Nodup by decide)) ?_
        exact k369_85  hr7 hx2 h
    · rw [if_neg c180] at h
      refine xe_alr (ins := .aload_n 0) (len := 1) (i := 0) (by decide +kernel) rfl rfl rfl rfl rfl ?_
      refine xe_iconst (n := 2) (by decide +kernel) rfl ?_
      refine xe_alr (ins := .aload_n 0) (len := 1) (i := 0) (by decide +kernel) rfl rfl rfl rfl rfl ?_
      obtain ⟨v204, e205, h⟩ := xbnd h
      refine xs_gr (i := 439) (c := 15) (k := 29) (by decide +kernel) (by decide) (by decide +kernel) e205 rfl ?_
      obtain ⟨v206, e207, h⟩ := xbnd h
      refine xs_gr (i := 204) (c := 14) (k := 11) (by decide +kernel) (by decide) (by decide +kernel) e207 rfl ?_
      refine xe_ldn (ins := .iload_n 2) (len := 1) (by decide +kernel) rfl rfl rfl rfl ?_
      obtain ⟨v208, e209, h⟩ := xbnd h
      refine xs_iald rfl (by decide +kernel) hx2 e209 rfl ?_
      obtain ⟨_, e211, h⟩ := xbnd h
      obtain ⟨M212, e210, h⟩ := xbnd h
      refine xs_cv (i := 392) (j := 251) (ar := [xI (v208), xI (2)]) (rest := []) (r2 := xr_251) (by decide +kernel) (by decide +kernel) (by decide +kernel) xr_251_e rfl (by decide) (by decide) e211 ?_
      refine xc_v (k251 (d := d + 83)  (show xin (2) by decide) (xq_ai_in e209) e210) rfl ?_
      refine xe_goto (off := 38) (nx := 85) (by decide +kernel) (by decide) ?_
      refine xW_lv rfl (l := [(0, xR_ (x0)), (2, xI (x2))]) (xsb_of ⟨rfl, rfl, trivial⟩ (show [3, 0, 2].Nodup by decide)) ?_
      exact k369_85  hr7 hx2 h
def f369_7   (f : Nat) : Nat → Nat → Int → xj_M → Option (Int × xj_M)
  | 0, _, _, _ => none
  | n + 1, x0, x2, M => f369_7b   (f369_7   f n) f x0 x2 M
theorem k369_7 {d f : Nat}     : ∀ {n : Nat} {x0 : Nat} {x2 : Int} {M : xj_M} {R : Int × xj_M}, xin x2 → f369_7   f n x0 x2 M = some R → xW (d + 84) (none, d + 84, none) xr_369 (7, [(0, xR_ x0), (2, xI x2)], [], M) (xQi R) := by
  intro n
  induction n with
  | zero => intros; rename_i h; cases h
  | succ n ih => intros; rename_i h; exact k369_7b   ih (by assumption) h
def f369  (f : Nat) (a0 : Nat) (a1 : Int) (M : xj_M) : Option (Int × xj_M) := ((xq_pi 15 26 (a0) (0) M).bind fun M214 => f369_7   f f (a0) (a1) M214)
theorem k369 {d f : Nat}   {a0 : Nat} {a1 : Int} {M : xj_M} {R : Int × xj_M} (ha1 : xin a1) (h : f369  f a0 a1 M = some R) : xT (d + 85) 369 [xR_ a0, xI a1] M (xQi R) := by
  refine xT_m xr_369_e (X := (none, d + 84, none)) rfl (xa_1 (xR_cat _) (xa_1 (xI_cat _) xa_n)) (by decide) ?_
  unfold f369 at h
  refine xe_alr (ins := .aload_n 0) (len := 1) (i := 0) (by decide +kernel) rfl rfl rfl rfl rfl ?_
  refine xe_iconst (n := 0) (by decide +kernel) rfl ?_
  obtain ⟨M214, e215, h⟩ := xbnd h
  refine xs_p (i := 382) (c := 15) (k := 26) (by decide +kernel) (by decide +kernel) (by decide +kernel) e215 rfl ?_
  refine xe_ldn (ins := .iload_n 1) (len := 1) (by decide +kernel) rfl rfl rfl rfl ?_
  refine xe_isr (ins := .istore_n 2) (len := 1) (i := 2) (by decide +kernel) rfl rfl rfl (by decide) (xk_k (show ¬ (0 : Nat) = 2 by decide) (Or.inl (show ¬ (0 + 1 : Nat) = 2 by decide)) (xk_k (show ¬ (1 : Nat) = 2 by decide) (Or.inr (xI_cat _)) xk_n)) rfl ?_
  refine xW_lv rfl (l := [(0, xR_ (a0)), (2, xI (a1))]) (xsb_of ⟨rfl, rfl, trivial⟩ (show [2, 0, 1].Nodup by decide)) ?_
  exact k369_7   ha1 h
-- ChangeHouseModel.begin
def xr_212 : xj_mR := (15, yX15_begin, cX15_begin, 4, (Option.none : Option Jvm.ClassFile.FieldType), 3, false, (8, 137), (1, 12))
set_option maxRecDepth 20000 in
theorem xr_212_e : xj_row 212 = some xr_212 := rfl
def f212  (f : Nat) (a0 : Nat) (a1 : Nat) (a2 : Int) (a3 : Int) (M : xj_M) : Option (xj_M) := ((xq_pr 15 0 (a0) (a1) M).bind fun M101 => ((xq_pi 15 1 (a0) (a3) M101).bind fun M103 => ((xq_pi 15 7 (a0) (-1) M103).bind fun M105 => ((xq_pi 15 5 (a0) (a2) M105).bind fun M107 => ((xq_pi 15 8 (a0) (0) M107).bind fun M109 => ((xq_pi 15 11 (a0) (0) M109).bind fun M111 => ((xq_is 15 (a0) M111).bind fun _ => ((f214  f (a0) M111).bind fun M115 => (some M115)))))))))
theorem k212 {d f : Nat}   {a0 : Nat} {a1 : Nat} {a2 : Int} {a3 : Int} {M : xj_M} {R : xj_M} (ha2 : xin a2) (ha3 : xin a3) (h : f212  f a0 a1 a2 a3 M = some R) : xT (d + 7) 212 [xR_ a0, xR_ a1, xI a2, xI a3] M (xQv R) := by
  refine xT_m xr_212_e (X := (none, d + 6, none)) rfl (xa_1 (xR_cat _) (xa_1 (xR_cat _) (xa_1 (xI_cat _) (xa_1 (xI_cat _) xa_n)))) (by decide) ?_
  unfold f212 at h
  refine xe_alr (ins := .aload_n 0) (len := 1) (i := 0) (by decide +kernel) rfl rfl rfl rfl rfl ?_
  refine xe_alr (ins := .aload_n 1) (len := 1) (i := 1) (by decide +kernel) rfl rfl rfl rfl rfl ?_
  obtain ⟨M101, e102, h⟩ := xbnd h
  refine xs_p (i := 7) (c := 15) (k := 0) (by decide +kernel) (by decide +kernel) (by decide +kernel) e102 rfl ?_
  refine xe_alr (ins := .aload_n 0) (len := 1) (i := 0) (by decide +kernel) rfl rfl rfl rfl rfl ?_
  refine xe_ldn (ins := .iload_n 3) (len := 1) (by decide +kernel) rfl rfl rfl rfl ?_
  obtain ⟨M103, e104, h⟩ := xbnd h
  refine xs_p (i := 3) (c := 15) (k := 1) (by decide +kernel) (by decide +kernel) (by decide +kernel) e104 rfl ?_
  refine xe_alr (ins := .aload_n 0) (len := 1) (i := 0) (by decide +kernel) rfl rfl rfl rfl rfl ?_
  refine xe_iconst (n := -1) (by decide +kernel) rfl ?_
  obtain ⟨M105, e106, h⟩ := xbnd h
  refine xs_p (i := 11) (c := 15) (k := 7) (by decide +kernel) (by decide +kernel) (by decide +kernel) e106 rfl ?_
  refine xe_alr (ins := .aload_n 0) (len := 1) (i := 0) (by decide +kernel) rfl rfl rfl rfl rfl ?_
  refine xe_ldn (ins := .iload_n 2) (len := 1) (by decide +kernel) rfl rfl rfl rfl ?_
  obtain ⟨M107, e108, h⟩ := xbnd h
  refine xs_p (i := 14) (c := 15) (k := 5) (by decide +kernel) (by decide +kernel) (by decide +kernel) e108 rfl ?_
  refine xe_alr (ins := .aload_n 0) (len := 1) (i := 0) (by decide +kernel) rfl rfl rfl rfl rfl ?_
  refine xe_iconst (n := 0) (by decide +kernel) rfl ?_
  obtain ⟨M109, e110, h⟩ := xbnd h
  refine xs_p (i := 17) (c := 15) (k := 8) (by decide +kernel) (by decide +kernel) (by decide +kernel) e110 rfl ?_
  refine xe_alr (ins := .aload_n 0) (len := 1) (i := 0) (by decide +kernel) rfl rfl rfl rfl rfl ?_
  refine xe_iconst (n := 0) (by decide +kernel) rfl ?_
  obtain ⟨M111, e112, h⟩ := xbnd h
  refine xs_p (i := 20) (c := 15) (k := 11) (by decide +kernel) (by decide +kernel) (by decide +kernel) e112 rfl ?_
  refine xe_alr (ins := .aload_n 0) (len := 1) (i := 0) (by decide +kernel) rfl rfl rfl rfl rfl ?_
  obtain ⟨_, e114, h⟩ := xbnd h
  obtain ⟨M115, e113, h⟩ := xbnd h
  refine xs_cv (i := 24) (j := 214) (ar := []) (rest := []) (r2 := xr_214) (by decide +kernel) (by decide +kernel) (by decide +kernel) xr_214_e rfl (by decide) (by decide) e114 ?_
  refine xc_v (k214 (d := d + 0)   e113) rfl ?_
  cases h
  exact xe_ret_v (by decide +kernel) rfl ⟨rfl, rfl⟩
-- ChangeHouseModel.pass
def xr_213 : xj_mR := (15, yX15_pass, cX15_pass, 1, (Option.none : Option Jvm.ClassFile.FieldType), 0, false, (8, 205), (1, 12))
set_option maxRecDepth 20000 in
theorem xr_213_e : xj_row 213 = some xr_213 := rfl
def f213_31   (f : Nat)  (M : xj_M) : Option (xj_M) := (some M)
theorem k213_31 {d f : Nat}      {M : xj_M} {R : xj_M}  (h : f213_31   f  M = some R) : xW (d + 6) (none, d + 6, none) xr_213 (31, [], [], M) (xQv R) := by
  unfold f213_31 at h
  cases h
  exact xe_ret_v (by decide +kernel) rfl ⟨rfl, rfl⟩
def f213  (f : Nat) (a0 : Nat) (M : xj_M) : Option (xj_M) := ((xq_is 15 (a0) M).bind fun _ => ((f211  f (a0) M).bind fun R103 => (if (R103.1) = 0 then ((xq_gi 15 6 (a0) R103.2).bind fun v106 => (if (v106) = (-1) then ((xq_is 15 (a0) R103.2).bind fun _ => ((f214  f (a0) R103.2).bind fun M111 => f213_31   f  M111)) else ((xq_gi 15 6 (a0) R103.2).bind fun v113 => ((xq_is 15 (a0) R103.2).bind fun _ => ((f210  f (a0) (v113) R103.2).bind fun M117 => f213_31   f  M117))))) else (some R103.2))))
theorem k213 {d f : Nat}   {a0 : Nat} {M : xj_M} {R : xj_M}  (h : f213  f a0 M = some R) : xT (d + 7) 213 [xR_ a0] M (xQv R) := by
  refine xT_m xr_213_e (X := (none, d + 6, none)) rfl (xa_1 (xR_cat _) xa_n) (by decide) ?_
  unfold f213 at h
  refine xe_alr (ins := .aload_n 0) (len := 1) (i := 0) (by decide +kernel) rfl rfl rfl rfl rfl ?_
  obtain ⟨_, e102, h⟩ := xbnd h
  obtain ⟨R103, e101, h⟩ := xbnd h
  refine xs_cv (i := 28) (j := 211) (ar := []) (rest := []) (r2 := xr_211) (by decide +kernel) (by decide +kernel) (by decide +kernel) xr_211_e rfl (by decide) (by decide) e102 ?_
  refine xc_i (k211 (d := d + 5)   e101) rfl (fun hi104 => ?_)
  refine xe_ifeq (off := 4) (t := 8) (by decide +kernel) (by decide) rfl hi104 (fun c105 => ?_) (fun c105 => ?_)
  · rw [if_pos c105] at h
    refine xe_alr (ins := .aload_n 0) (len := 1) (i := 0) (by decide +kernel) rfl rfl rfl rfl rfl ?_
    obtain ⟨v106, e107, h⟩ := xbnd h
    refine xs_gi (i := 32) (c := 15) (k := 6) (by decide +kernel) (by decide) (by decide +kernel) e107 rfl ?_
    refine xe_iconst (n := -1) (by decide +kernel) rfl ?_
    refine xe_icmpeq (off := 14) (t := 27) (by decide +kernel) (by decide) rfl (xq_gi_in e107) (show xin (-1) by decide) (fun c108 => ?_) (fun c108 => ?_)
    · rw [if_pos c108] at h
      refine xe_alr (ins := .aload_n 0) (len := 1) (i := 0) (by decide +kernel) rfl rfl rfl rfl rfl ?_
      obtain ⟨_, e110, h⟩ := xbnd h
      obtain ⟨M111, e109, h⟩ := xbnd h
      refine xs_cv (i := 24) (j := 214) (ar := []) (rest := []) (r2 := xr_214) (by decide +kernel) (by decide +kernel) (by decide +kernel) xr_214_e rfl (by decide) (by decide) e110 ?_
      refine xc_v (k214 (d := d + 0)   e109) rfl ?_
      refine xW_lv rfl (l := []) (xsb_of trivial (show [0].Nodup by decide)) ?_
      exact k213_31    h
    · rw [if_neg c108] at h
      refine xe_alr (ins := .aload_n 0) (len := 1) (i := 0) (by decide +kernel) rfl rfl rfl rfl rfl ?_
      refine xe_alr (ins := .aload_n 0) (len := 1) (i := 0) (by decide +kernel) rfl rfl rfl rfl rfl ?_
      obtain ⟨v113, e114, h⟩ := xbnd h
      refine xs_gi (i := 32) (c := 15) (k := 6) (by decide +kernel) (by decide) (by decide +kernel) e114 rfl ?_
      obtain ⟨_, e116, h⟩ := xbnd h
      obtain ⟨M117, e115, h⟩ := xbnd h
      refine xs_cv (i := 35) (j := 210) (ar := [xI (v113)]) (rest := []) (r2 := xr_210) (by decide +kernel) (by decide +kernel) (by decide +kernel) xr_210_e rfl (by decide) (by decide) e116 ?_
      refine xc_v (k210 (d := d + 5)  (xq_gi_in e114) e115) rfl ?_
      refine xe_goto (off := 7) (nx := 31) (by decide +kernel) (by decide) ?_
      refine xW_lv rfl (l := []) (xsb_of trivial (show [0].Nodup by decide)) ?_
      exact k213_31    h
  · rw [if_neg c105] at h
    cases h
    exact xe_ret_v (by decide +kernel) rfl ⟨rfl, rfl⟩
-- ChangeHouseModel.need
def xr_222 : xj_mR := (15, yX15_need, cX15_need, 2, (Option.none : Option Jvm.ClassFile.FieldType), 1, false, (8, 233), (1, 12))
set_option maxRecDepth 20000 in
theorem xr_222_e : xj_row 222 = some xr_222 := rfl
def f222_23   (f : Nat)  (M : xj_M) : Option (xj_M) := (some M)
theorem k222_23 {d f : Nat}      {M : xj_M} {R : xj_M}  (h : f222_23   f  M = some R) : xW (d + 7) (none, d + 7, none) xr_222 (23, [], [], M) (xQv R) := by
  unfold f222_23 at h
  cases h
  exact xe_ret_v (by decide +kernel) rfl ⟨rfl, rfl⟩
def f222  (f : Nat) (a0 : Nat) (a1 : Int) (M : xj_M) : Option (xj_M) := ((xq_is 15 (a0) M).bind fun _ => ((f220  f (a0) (a1) M).bind fun R103 => (if (R103.1) = 0 then ((xq_gi 15 4 (a0) R103.2).bind fun v106 => ((xq_is 15 (a0) R103.2).bind fun _ => ((f210  f (a0) (v106) R103.2).bind fun M110 => f222_23   f  M110))) else ((xq_is 15 (a0) R103.2).bind fun _ => ((f213  f (a0) R103.2).bind fun M114 => f222_23   f  M114)))))
theorem k222 {d f : Nat}   {a0 : Nat} {a1 : Int} {M : xj_M} {R : xj_M} (ha1 : xin a1) (h : f222  f a0 a1 M = some R) : xT (d + 8) 222 [xR_ a0, xI a1] M (xQv R) := by
  refine xT_m xr_222_e (X := (none, d + 7, none)) rfl (xa_1 (xR_cat _) (xa_1 (xI_cat _) xa_n)) (by decide) ?_
  unfold f222 at h
  refine xe_alr (ins := .aload_n 0) (len := 1) (i := 0) (by decide +kernel) rfl rfl rfl rfl rfl ?_
  refine xe_ldn (ins := .iload_n 1) (len := 1) (by decide +kernel) rfl rfl rfl rfl ?_
  obtain ⟨_, e102, h⟩ := xbnd h
  obtain ⟨R103, e101, h⟩ := xbnd h
  refine xs_cv (i := 115) (j := 220) (ar := [xI (a1)]) (rest := []) (r2 := xr_220) (by decide +kernel) (by decide +kernel) (by decide +kernel) xr_220_e rfl (by decide) (by decide) e102 ?_
  refine xc_i (k220 (d := d + 5)  ha1 e101) rfl (fun hi104 => ?_)
  refine xe_ifeq (off := 10) (t := 15) (by decide +kernel) (by decide) rfl hi104 (fun c105 => ?_) (fun c105 => ?_)
  · rw [if_pos c105] at h
    refine xe_alr (ins := .aload_n 0) (len := 1) (i := 0) (by decide +kernel) rfl rfl rfl rfl rfl ?_
    refine xe_alr (ins := .aload_n 0) (len := 1) (i := 0) (by decide +kernel) rfl rfl rfl rfl rfl ?_
    obtain ⟨v106, e107, h⟩ := xbnd h
    refine xs_gi (i := 43) (c := 15) (k := 4) (by decide +kernel) (by decide) (by decide +kernel) e107 rfl ?_
    obtain ⟨_, e109, h⟩ := xbnd h
    obtain ⟨M110, e108, h⟩ := xbnd h
    refine xs_cv (i := 35) (j := 210) (ar := [xI (v106)]) (rest := []) (r2 := xr_210) (by decide +kernel) (by decide +kernel) (by decide +kernel) xr_210_e rfl (by decide) (by decide) e109 ?_
    refine xc_v (k210 (d := d + 6)  (xq_gi_in e107) e108) rfl ?_
    refine xW_lv rfl (l := []) (xsb_of trivial (show [0, 1].Nodup by decide)) ?_
    exact k222_23    h
  · rw [if_neg c105] at h
    refine xe_alr (ins := .aload_n 0) (len := 1) (i := 0) (by decide +kernel) rfl rfl rfl rfl rfl ?_
    obtain ⟨_, e113, h⟩ := xbnd h
    obtain ⟨M114, e112, h⟩ := xbnd h
    refine xs_cv (i := 118) (j := 213) (ar := []) (rest := []) (r2 := xr_213) (by decide +kernel) (by decide +kernel) (by decide +kernel) xr_213_e rfl (by decide) (by decide) e113 ?_
    refine xc_v (k213 (d := d + 0)   e112) rfl ?_
    refine xe_goto (off := 11) (nx := 23) (by decide +kernel) (by decide) ?_
    refine xW_lv rfl (l := []) (xsb_of trivial (show [0, 1].Nodup by decide)) ?_
    exact k222_23    h
-- ChangeHouseModel.value
def xr_227 : xj_mR := (15, yX15_value, cX15_value, 1, (Option.some Jvm.ClassFile.FieldType.boolean), 0, false, (9, 41), (1, 12))
set_option maxRecDepth 20000 in
theorem xr_227_e : xj_row 227 = some xr_227 := rfl
def f227_32   (f : Nat) (y0 : Int) (M : xj_M) : Option (Int × xj_M) := (if (y0) = 0 ∨ (y0) = 1 then some (y0, M) else none)
theorem k227_32 {d f : Nat}     {y0 : Int} {M : xj_M} {R : Int × xj_M} (hy0 : xin y0) (h : f227_32   f y0 M = some R) : xW (d + 7) (none, d + 7, none) xr_227 (32, [], [xI y0], M) (xQi R) := by
  unfold f227_32 at h
  by_cases c101 : (y0) = 0 ∨ (y0) = 1
  · rw [if_pos c101] at h; cases h; exact xe_ret_i (ty := .boolean) (by decide +kernel) rfl (xbool c101) ⟨rfl, rfl, hy0⟩
  · rw [if_neg c101] at h; cases h
def f227_113   (f : Nat) (y0 : Int) (M : xj_M) : Option (Int × xj_M) := (if (y0) = 0 ∨ (y0) = 1 then some (y0, M) else none)
theorem k227_113 {d f : Nat}     {y0 : Int} {M : xj_M} {R : Int × xj_M} (hy0 : xin y0) (h : f227_113   f y0 M = some R) : xW (d + 7) (none, d + 7, none) xr_227 (113, [], [xI y0], M) (xQi R) := by
  unfold f227_113 at h
  by_cases c102 : (y0) = 0 ∨ (y0) = 1
  · rw [if_pos c102] at h; cases h; exact xe_ret_i (ty := .boolean) (by decide +kernel) rfl (xbool c102) ⟨rfl, rfl, hy0⟩
  · rw [if_neg c102] at h; cases h
def f227_132   (f : Nat) (x0 : Nat) (M : xj_M) : Option (Int × xj_M) := ((xq_gi 15 4 (x0) M).bind fun v103 => ((xq_is 15 (x0) M).bind fun _ => ((f210  f (x0) (v103) M).bind fun M107 => (some (0, M107)))))
theorem k227_132 {d f : Nat}     {x0 : Nat} {M : xj_M} {R : Int × xj_M}  (h : f227_132   f x0 M = some R) : xW (d + 7) (none, d + 7, none) xr_227 (132, [(0, xR_ x0)], [], M) (xQi R) := by
  unfold f227_132 at h
  refine xe_alr (ins := .aload_n 0) (len := 1) (i := 0) (by decide +kernel) rfl rfl rfl rfl rfl ?_
  refine xe_alr (ins := .aload_n 0) (len := 1) (i := 0) (by decide +kernel) rfl rfl rfl rfl rfl ?_
  obtain ⟨v103, e104, h⟩ := xbnd h
  refine xs_gi (i := 43) (c := 15) (k := 4) (by decide +kernel) (by decide) (by decide +kernel) e104 rfl ?_
  obtain ⟨_, e106, h⟩ := xbnd h
  obtain ⟨M107, e105, h⟩ := xbnd h
  refine xs_cv (i := 35) (j := 210) (ar := [xI (v103)]) (rest := []) (r2 := xr_210) (by decide +kernel) (by decide +kernel) (by decide +kernel) xr_210_e rfl (by decide) (by decide) e106 ?_
  refine xc_v (k210 (d := d + 6)  (xq_gi_in e104) e105) rfl ?_
  refine xe_iconst (n := 0) (by decide +kernel) rfl ?_
  cases h
  exact xe_ret_i (ty := .boolean) (by decide +kernel) rfl (by decide) ⟨rfl, rfl, (show xin (0) by decide)⟩
def f227_166   (f : Nat) (y0 : Int) (M : xj_M) : Option (Int × xj_M) := (if (y0) = 0 ∨ (y0) = 1 then some (y0, M) else none)
theorem k227_166 {d f : Nat}     {y0 : Int} {M : xj_M} {R : Int × xj_M} (hy0 : xin y0) (h : f227_166   f y0 M = some R) : xW (d + 7) (none, d + 7, none) xr_227 (166, [], [xI y0], M) (xQi R) := by
  unfold f227_166 at h
  by_cases c109 : (y0) = 0 ∨ (y0) = 1
  · rw [if_pos c109] at h; cases h; exact xe_ret_i (ty := .boolean) (by decide +kernel) rfl (xbool c109) ⟨rfl, rfl, hy0⟩
  · rw [if_neg c109] at h; cases h
def f227  (f : Nat) (a0 : Nat) (M : xj_M) : Option (Int × xj_M) := ((xq_is 15 (a0) M).bind fun _ => ((f221  f (a0) (5) M).bind fun R112 => (if (R112.1) = 0 then ((xq_is 15 (a0) R112.2).bind fun _ => ((f220  f (a0) (45) R112.2).bind fun R117 => (if (R117.1) = 0 then ((xq_is 15 (a0) R117.2).bind fun _ => ((f226  f (a0) R117.2).bind fun R122 => (if (R122.1) = 0 then f227_132   f (a0) R122.2 else ((xq_gl 15 10 (a0) R122.2).bind fun v125 => (if ¬ (v125) = (-1) then ((xq_gl 15 10 (a0) R122.2).bind fun v128 => ((xq_pl 15 21 (a0) (v128) R122.2).bind fun M130 => ((xq_is 15 (a0) M130).bind fun _ => ((f213  f (a0) M130).bind fun M134 => ((xq_is 15 (a0) M134).bind fun _ => ((f211  f (a0) M134).bind fun R138 => (if ¬ (R138.1) = 0 then f227_166   f (0) R138.2 else f227_166   f (1) R138.2))))))) else f227_132   f (a0) R122.2))))) else ((xq_gi 15 5 (a0) R117.2).bind fun v141 => ((xq_is 15 (a0) R117.2).bind fun _ => ((f209  f (a0) (v141) R117.2).bind fun R145 => ((f208  f (R145.1) R145.2).bind fun R148 => (if ¬ (R148.1) = 0 then ((xq_is 15 (a0) R148.2).bind fun _ => ((f213  f (a0) R148.2).bind fun M153 => ((xq_is 15 (a0) M153).bind fun _ => ((f221  f (a0) (5) M153).bind fun R157 => (if ¬ (R157.1) = 0 then ((xq_gl 15 9 (a0) R157.2).bind fun v160 => ((xq_pl 15 21 (a0) (xneg8 (v160)) R157.2).bind fun M162 => ((xq_is 15 (a0) M162).bind fun _ => ((f213  f (a0) M162).bind fun M166 => ((xq_is 15 (a0) M166).bind fun _ => ((f211  f (a0) M166).bind fun R170 => (if ¬ (R170.1) = 0 then f227_113   f (0) R170.2 else f227_113   f (1) R170.2))))))) else ((xq_gi 15 4 (a0) R157.2).bind fun v173 => ((xq_is 15 (a0) R157.2).bind fun _ => ((f210  f (a0) (v173) R157.2).bind fun M177 => (some (0, M177)))))))))) else ((xq_gi 15 4 (a0) R148.2).bind fun v179 => ((xq_is 15 (a0) R148.2).bind fun _ => ((f210  f (a0) (v179) R148.2).bind fun M183 => (some (0, M183))))))))))))) else ((xq_gl 15 9 (a0) R112.2).bind fun v185 => ((xq_pl 15 21 (a0) (v185) R112.2).bind fun M187 => ((xq_is 15 (a0) M187).bind fun _ => ((f213  f (a0) M187).bind fun M191 => ((xq_is 15 (a0) M191).bind fun _ => ((f211  f (a0) M191).bind fun R195 => (if ¬ (R195.1) = 0 then f227_32   f (0) R195.2 else f227_32   f (1) R195.2))))))))))
theorem k227 {d f : Nat}   {a0 : Nat} {M : xj_M} {R : Int × xj_M}  (h : f227  f a0 M = some R) : xT (d + 8) 227 [xR_ a0] M (xQi R) := by
  refine xT_m xr_227_e (X := (none, d + 7, none)) rfl (xa_1 (xR_cat _) xa_n) (by decide) ?_
  unfold f227 at h
  refine xe_alr (ins := .aload_n 0) (len := 1) (i := 0) (by decide +kernel) rfl rfl rfl rfl rfl ?_
  refine xe_iconst (n := 5) (by decide +kernel) rfl ?_
  obtain ⟨_, e111, h⟩ := xbnd h
  obtain ⟨R112, e110, h⟩ := xbnd h
  refine xs_cv (i := 153) (j := 221) (ar := [xI (5)]) (rest := []) (r2 := xr_221) (by decide +kernel) (by decide +kernel) (by decide +kernel) xr_221_e rfl (by decide) (by decide) e111 ?_
  refine xc_i (k221 (d := d + 5)  (show xin (5) by decide) e110) rfl (fun hi113 => ?_)
  refine xe_ifeq (off := 28) (t := 33) (by decide +kernel) (by decide) rfl hi113 (fun c114 => ?_) (fun c114 => ?_)
  · rw [if_pos c114] at h
    refine xe_alr (ins := .aload_n 0) (len := 1) (i := 0) (by decide +kernel) rfl rfl rfl rfl rfl ?_
    refine xe_bipush (n := 45) (by decide +kernel) (by decide) rfl ?_
    obtain ⟨_, e116, h⟩ := xbnd h
    obtain ⟨R117, e115, h⟩ := xbnd h
    refine xs_cv (i := 115) (j := 220) (ar := [xI (45)]) (rest := []) (r2 := xr_220) (by decide +kernel) (by decide +kernel) (by decide +kernel) xr_220_e rfl (by decide) (by decide) e116 ?_
    refine xc_i (k220 (d := d + 5)  (show xin (45) by decide) e115) rfl (fun hi118 => ?_)
    refine xe_ifeq (off := 75) (t := 114) (by decide +kernel) (by decide) rfl hi118 (fun c119 => ?_) (fun c119 => ?_)
    · rw [if_pos c119] at h
      refine xe_alr (ins := .aload_n 0) (len := 1) (i := 0) (by decide +kernel) rfl rfl rfl rfl rfl ?_
      obtain ⟨_, e121, h⟩ := xbnd h
      obtain ⟨R122, e120, h⟩ := xbnd h
      refine xs_cv (i := 163) (j := 226) (ar := []) (rest := []) (r2 := xr_226) (by decide +kernel) (by decide +kernel) (by decide +kernel) xr_226_e rfl (by decide) (by decide) e121 ?_
      refine xc_i (k226 (d := d + 4)   e120) rfl (fun hi123 => ?_)
      refine xe_ifeq (off := 14) (t := 132) (by decide +kernel) (by decide) rfl hi123 (fun c124 => ?_) (fun c124 => ?_)
      · rw [if_pos c124] at h
        refine xW_lv rfl (l := [(0, xR_ (a0))]) (xsb_of ⟨rfl, trivial⟩ (show [0].Nodup by decide)) ?_
        exact k227_132    h
      · rw [if_neg c124] at h
        refine xe_alr (ins := .aload_n 0) (len := 1) (i := 0) (by decide +kernel) rfl rfl rfl rfl rfl ?_
        obtain ⟨v125, e126, h⟩ := xbnd h
        refine xs_gl (i := 82) (c := 15) (k := 10) (by decide +kernel) (by decide) (by decide +kernel) e126 rfl ?_
        refine xe_ldc2 (i := 80) (n := -1) (by decide +kernel) (by decide +kernel) rfl ?_
        refine xe_lcmp (by decide +kernel) rfl (xq_gl_in e126) (show xiN (-1) by decide) ?_
        refine xe_ifne (off := 13) (t := 142) (by decide +kernel) (by decide) rfl (xin_cmp8 _ _) (fun c127 => ?_) (fun c127 => ?_)
        · have c127 := xcmp8_ne.mp c127; rw [if_pos c127] at h
          refine xe_alr (ins := .aload_n 0) (len := 1) (i := 0) (by decide +kernel) rfl rfl rfl rfl rfl ?_
          refine xe_alr (ins := .aload_n 0) (len := 1) (i := 0) (by decide +kernel) rfl rfl rfl rfl rfl ?_
          obtain ⟨v128, e129, h⟩ := xbnd h
          refine xs_gl (i := 82) (c := 15) (k := 10) (by decide +kernel) (by decide) (by decide +kernel) e129 rfl ?_
          obtain ⟨M130, e131, h⟩ := xbnd h
          refine xs_p (i := 160) (c := 15) (k := 21) (by decide +kernel) (by decide +kernel) (by decide +kernel) e131 rfl ?_
          refine xe_alr (ins := .aload_n 0) (len := 1) (i := 0) (by decide +kernel) rfl rfl rfl rfl rfl ?_
          obtain ⟨_, e133, h⟩ := xbnd h
          obtain ⟨M134, e132, h⟩ := xbnd h
          refine xs_cv (i := 118) (j := 213) (ar := []) (rest := []) (r2 := xr_213) (by decide +kernel) (by decide +kernel) (by decide +kernel) xr_213_e rfl (by decide) (by decide) e133 ?_
          refine xc_v (k213 (d := d + 0)   e132) rfl ?_
          refine xe_alr (ins := .aload_n 0) (len := 1) (i := 0) (by decide +kernel) rfl rfl rfl rfl rfl ?_
          obtain ⟨_, e137, h⟩ := xbnd h
          obtain ⟨R138, e136, h⟩ := xbnd h
          refine xs_cv (i := 28) (j := 211) (ar := []) (rest := []) (r2 := xr_211) (by decide +kernel) (by decide +kernel) (by decide +kernel) xr_211_e rfl (by decide) (by decide) e137 ?_
          refine xc_i (k211 (d := d + 6)   e136) rfl (fun hi139 => ?_)
          refine xe_ifne (off := 7) (t := 165) (by decide +kernel) (by decide) rfl hi139 (fun c140 => ?_) (fun c140 => ?_)
          · rw [if_pos c140] at h
            refine xe_iconst (n := 0) (by decide +kernel) rfl ?_
            refine xW_lv rfl (l := []) (xsb_of trivial (show [0].Nodup by decide)) ?_
            exact k227_166   (show xin (0) by decide) h
          · rw [if_neg c140] at h
            refine xe_iconst (n := 1) (by decide +kernel) rfl ?_
            refine xe_goto (off := 4) (nx := 166) (by decide +kernel) (by decide) ?_
            refine xW_lv rfl (l := []) (xsb_of trivial (show [0].Nodup by decide)) ?_
            exact k227_166   (show xin (1) by decide) h
        · have c127 := (not_congr xcmp8_ne).mp c127; rw [if_neg c127] at h
          refine xW_lv rfl (l := [(0, xR_ (a0))]) (xsb_of ⟨rfl, trivial⟩ (show [0].Nodup by decide)) ?_
          exact k227_132    h
    · rw [if_neg c119] at h
      refine xe_alr (ins := .aload_n 0) (len := 1) (i := 0) (by decide +kernel) rfl rfl rfl rfl rfl ?_
      refine xe_alr (ins := .aload_n 0) (len := 1) (i := 0) (by decide +kernel) rfl rfl rfl rfl rfl ?_
      obtain ⟨v141, e142, h⟩ := xbnd h
      refine xs_gi (i := 14) (c := 15) (k := 5) (by decide +kernel) (by decide) (by decide +kernel) e142 rfl ?_
      obtain ⟨_, e144, h⟩ := xbnd h
      obtain ⟨R145, e143, h⟩ := xbnd h
      refine xs_cv (i := 39) (j := 209) (ar := [xI (v141)]) (rest := []) (r2 := xr_209) (by decide +kernel) (by decide +kernel) (by decide +kernel) xr_209_e rfl (by decide) (by decide) e144 ?_
      refine xc_i (k209 (d := d + 6)  (xq_gi_in e142) e143) rfl (fun hi146 => ?_)
      obtain ⟨R148, e147, h⟩ := xbnd h
      refine xs_cs (kd := 2) (by decide) (i := 62) (j := 208) (ar := [xI (R145.1)]) (rest := []) (r2 := xr_208) (by decide +kernel) (by decide +kernel) (by decide +kernel) xr_208_e rfl (by decide) ?_
      refine xc_i (k208 (d := d + 6)  hi146 e147) rfl (fun hi149 => ?_)
      refine xe_ifne (off := 13) (t := 66) (by decide +kernel) (by decide) rfl hi149 (fun c150 => ?_) (fun c150 => ?_)
      · rw [if_pos c150] at h
        refine xe_alr (ins := .aload_n 0) (len := 1) (i := 0) (by decide +kernel) rfl rfl rfl rfl rfl ?_
        obtain ⟨_, e152, h⟩ := xbnd h
        obtain ⟨M153, e151, h⟩ := xbnd h
        refine xs_cv (i := 118) (j := 213) (ar := []) (rest := []) (r2 := xr_213) (by decide +kernel) (by decide +kernel) (by decide +kernel) xr_213_e rfl (by decide) (by decide) e152 ?_
        refine xc_v (k213 (d := d + 0)   e151) rfl ?_
        refine xe_alr (ins := .aload_n 0) (len := 1) (i := 0) (by decide +kernel) rfl rfl rfl rfl rfl ?_
        refine xe_iconst (n := 5) (by decide +kernel) rfl ?_
        obtain ⟨_, e156, h⟩ := xbnd h
        obtain ⟨R157, e155, h⟩ := xbnd h
        refine xs_cv (i := 153) (j := 221) (ar := [xI (5)]) (rest := []) (r2 := xr_221) (by decide +kernel) (by decide +kernel) (by decide +kernel) xr_221_e rfl (by decide) (by decide) e156 ?_
        refine xc_i (k221 (d := d + 5)  (show xin (5) by decide) e155) rfl (fun hi158 => ?_)
        refine xe_ifne (off := 13) (t := 88) (by decide +kernel) (by decide) rfl hi158 (fun c159 => ?_) (fun c159 => ?_)
        · rw [if_pos c159] at h
          refine xe_alr (ins := .aload_n 0) (len := 1) (i := 0) (by decide +kernel) rfl rfl rfl rfl rfl ?_
          refine xe_alr (ins := .aload_n 0) (len := 1) (i := 0) (by decide +kernel) rfl rfl rfl rfl rfl ?_
          obtain ⟨v160, e161, h⟩ := xbnd h
          refine xs_gl (i := 71) (c := 15) (k := 9) (by decide +kernel) (by decide) (by decide +kernel) e161 rfl ?_
          refine xe_lneg (by decide +kernel) rfl ?_
          obtain ⟨M162, e163, h⟩ := xbnd h
          refine xs_p (i := 160) (c := 15) (k := 21) (by decide +kernel) (by decide +kernel) (by decide +kernel) e163 rfl ?_
          refine xe_alr (ins := .aload_n 0) (len := 1) (i := 0) (by decide +kernel) rfl rfl rfl rfl rfl ?_
          obtain ⟨_, e165, h⟩ := xbnd h
          obtain ⟨M166, e164, h⟩ := xbnd h
          refine xs_cv (i := 118) (j := 213) (ar := []) (rest := []) (r2 := xr_213) (by decide +kernel) (by decide +kernel) (by decide +kernel) xr_213_e rfl (by decide) (by decide) e165 ?_
          refine xc_v (k213 (d := d + 0)   e164) rfl ?_
          refine xe_alr (ins := .aload_n 0) (len := 1) (i := 0) (by decide +kernel) rfl rfl rfl rfl rfl ?_
          obtain ⟨_, e169, h⟩ := xbnd h
          obtain ⟨R170, e168, h⟩ := xbnd h
          refine xs_cv (i := 28) (j := 211) (ar := []) (rest := []) (r2 := xr_211) (by decide +kernel) (by decide +kernel) (by decide +kernel) xr_211_e rfl (by decide) (by decide) e169 ?_
          refine xc_i (k211 (d := d + 6)   e168) rfl (fun hi171 => ?_)
          refine xe_ifne (off := 7) (t := 112) (by decide +kernel) (by decide) rfl hi171 (fun c172 => ?_) (fun c172 => ?_)
          · rw [if_pos c172] at h
            refine xe_iconst (n := 0) (by decide +kernel) rfl ?_
            refine xW_lv rfl (l := []) (xsb_of trivial (show [0].Nodup by decide)) ?_
            exact k227_113   (show xin (0) by decide) h
          · rw [if_neg c172] at h
            refine xe_iconst (n := 1) (by decide +kernel) rfl ?_
            refine xe_goto (off := 4) (nx := 113) (by decide +kernel) (by decide) ?_
            refine xW_lv rfl (l := []) (xsb_of trivial (show [0].Nodup by decide)) ?_
            exact k227_113   (show xin (1) by decide) h
        · rw [if_neg c159] at h
          refine xe_alr (ins := .aload_n 0) (len := 1) (i := 0) (by decide +kernel) rfl rfl rfl rfl rfl ?_
          refine xe_alr (ins := .aload_n 0) (len := 1) (i := 0) (by decide +kernel) rfl rfl rfl rfl rfl ?_
          obtain ⟨v173, e174, h⟩ := xbnd h
          refine xs_gi (i := 43) (c := 15) (k := 4) (by decide +kernel) (by decide) (by decide +kernel) e174 rfl ?_
          obtain ⟨_, e176, h⟩ := xbnd h
          obtain ⟨M177, e175, h⟩ := xbnd h
          refine xs_cv (i := 35) (j := 210) (ar := [xI (v173)]) (rest := []) (r2 := xr_210) (by decide +kernel) (by decide +kernel) (by decide +kernel) xr_210_e rfl (by decide) (by decide) e176 ?_
          refine xc_v (k210 (d := d + 6)  (xq_gi_in e174) e175) rfl ?_
          refine xe_iconst (n := 0) (by decide +kernel) rfl ?_
          cases h
          exact xe_ret_i (ty := .boolean) (by decide +kernel) rfl (by decide) ⟨rfl, rfl, (show xin (0) by decide)⟩
      · rw [if_neg c150] at h
        refine xe_alr (ins := .aload_n 0) (len := 1) (i := 0) (by decide +kernel) rfl rfl rfl rfl rfl ?_
        refine xe_alr (ins := .aload_n 0) (len := 1) (i := 0) (by decide +kernel) rfl rfl rfl rfl rfl ?_
        obtain ⟨v179, e180, h⟩ := xbnd h
        refine xs_gi (i := 43) (c := 15) (k := 4) (by decide +kernel) (by decide) (by decide +kernel) e180 rfl ?_
        obtain ⟨_, e182, h⟩ := xbnd h
        obtain ⟨M183, e181, h⟩ := xbnd h
        refine xs_cv (i := 35) (j := 210) (ar := [xI (v179)]) (rest := []) (r2 := xr_210) (by decide +kernel) (by decide +kernel) (by decide +kernel) xr_210_e rfl (by decide) (by decide) e182 ?_
        refine xc_v (k210 (d := d + 6)  (xq_gi_in e180) e181) rfl ?_
        refine xe_iconst (n := 0) (by decide +kernel) rfl ?_
        cases h
        exact xe_ret_i (ty := .boolean) (by decide +kernel) rfl (by decide) ⟨rfl, rfl, (show xin (0) by decide)⟩
  · rw [if_neg c114] at h
    refine xe_alr (ins := .aload_n 0) (len := 1) (i := 0) (by decide +kernel) rfl rfl rfl rfl rfl ?_
    refine xe_alr (ins := .aload_n 0) (len := 1) (i := 0) (by decide +kernel) rfl rfl rfl rfl rfl ?_
    obtain ⟨v185, e186, h⟩ := xbnd h
    refine xs_gl (i := 71) (c := 15) (k := 9) (by decide +kernel) (by decide) (by decide +kernel) e186 rfl ?_
    obtain ⟨M187, e188, h⟩ := xbnd h
    refine xs_p (i := 160) (c := 15) (k := 21) (by decide +kernel) (by decide +kernel) (by decide +kernel) e188 rfl ?_
    refine xe_alr (ins := .aload_n 0) (len := 1) (i := 0) (by decide +kernel) rfl rfl rfl rfl rfl ?_
    obtain ⟨_, e190, h⟩ := xbnd h
    obtain ⟨M191, e189, h⟩ := xbnd h
    refine xs_cv (i := 118) (j := 213) (ar := []) (rest := []) (r2 := xr_213) (by decide +kernel) (by decide +kernel) (by decide +kernel) xr_213_e rfl (by decide) (by decide) e190 ?_
    refine xc_v (k213 (d := d + 0)   e189) rfl ?_
    refine xe_alr (ins := .aload_n 0) (len := 1) (i := 0) (by decide +kernel) rfl rfl rfl rfl rfl ?_
    obtain ⟨_, e194, h⟩ := xbnd h
    obtain ⟨R195, e193, h⟩ := xbnd h
    refine xs_cv (i := 28) (j := 211) (ar := []) (rest := []) (r2 := xr_211) (by decide +kernel) (by decide +kernel) (by decide +kernel) xr_211_e rfl (by decide) (by decide) e194 ?_
    refine xc_i (k211 (d := d + 6)   e193) rfl (fun hi196 => ?_)
    refine xe_ifne (off := 7) (t := 31) (by decide +kernel) (by decide) rfl hi196 (fun c197 => ?_) (fun c197 => ?_)
    · rw [if_pos c197] at h
      refine xe_iconst (n := 0) (by decide +kernel) rfl ?_
      refine xW_lv rfl (l := []) (xsb_of trivial (show [0].Nodup by decide)) ?_
      exact k227_32   (show xin (0) by decide) h
    · rw [if_neg c197] at h
      refine xe_iconst (n := 1) (by decide +kernel) rfl ?_
      refine xe_goto (off := 4) (nx := 32) (by decide +kernel) (by decide) ?_
      refine xW_lv rfl (l := []) (xsb_of trivial (show [0].Nodup by decide)) ?_
      exact k227_32   (show xin (1) by decide) h
-- ChangeHouseModel.needNumber
def xr_233 : xj_mR := (15, yX15_needNumber, cX15_needNumber, 4, (Option.some Jvm.ClassFile.FieldType.int), 2, false, (9, 1), (1, 12))
set_option maxRecDepth 20000 in
theorem xr_233_e : xj_row 233 = some xr_233 := rfl
def f233_28   (f : Nat) (x0 : Nat) (x1 : Int) (M : xj_M) : Option (Int × xj_M) := ((xq_gi 15 4 (x0) M).bind fun v101 => ((xq_is 15 (x0) M).bind fun _ => ((f210  f (x0) (v101) M).bind fun M105 => (some (x1, M105)))))
theorem k233_28 {d f : Nat}     {x0 : Nat} {x1 : Int} {M : xj_M} {R : Int × xj_M} (hx1 : xin x1) (h : f233_28   f x0 x1 M = some R) : xW (d + 7) (none, d + 7, none) xr_233 (28, [(0, xR_ x0), (1, xI x1)], [], M) (xQi R) := by
  unfold f233_28 at h
  refine xe_alr (ins := .aload_n 0) (len := 1) (i := 0) (by decide +kernel) rfl rfl rfl rfl rfl ?_
  refine xe_alr (ins := .aload_n 0) (len := 1) (i := 0) (by decide +kernel) rfl rfl rfl rfl rfl ?_
  obtain ⟨v101, e102, h⟩ := xbnd h
  refine xs_gi (i := 43) (c := 15) (k := 4) (by decide +kernel) (by decide) (by decide +kernel) e102 rfl ?_
  obtain ⟨_, e104, h⟩ := xbnd h
  obtain ⟨M105, e103, h⟩ := xbnd h
  refine xs_cv (i := 35) (j := 210) (ar := [xI (v101)]) (rest := []) (r2 := xr_210) (by decide +kernel) (by decide +kernel) (by decide +kernel) xr_210_e rfl (by decide) (by decide) e104 ?_
  refine xc_v (k210 (d := d + 6)  (xq_gi_in e102) e103) rfl ?_
  refine xe_ldn (ins := .iload_n 1) (len := 1) (by decide +kernel) rfl rfl rfl rfl ?_
  cases h
  exact xe_ret_i (ty := .int) (by decide +kernel) rfl rfl ⟨rfl, rfl, hx1⟩
def f233  (f : Nat) (a0 : Nat) (a1 : Int) (a2 : Int) (M : xj_M) : Option (Int × xj_M) := ((xq_is 15 (a0) M).bind fun _ => ((f221  f (a0) (5) M).bind fun R109 => (if (R109.1) = 0 then f233_28   f (a0) (a1) R109.2 else ((xq_gl 15 9 (a0) R109.2).bind fun v112 => (if (v112) < (a1) then f233_28   f (a0) (a1) R109.2 else ((xq_gl 15 9 (a0) R109.2).bind fun v115 => (if (v115) ≤ (a2) then ((xq_gl 15 9 (a0) R109.2).bind fun v118 => ((xq_is 15 (a0) R109.2).bind fun _ => ((f213  f (a0) R109.2).bind fun M122 => (some (xwr (v118), M122))))) else f233_28   f (a0) (a1) R109.2)))))))
theorem k233 {d f : Nat}   {a0 : Nat} {a1 : Int} {a2 : Int} {M : xj_M} {R : Int × xj_M} (ha1 : xin a1) (ha2 : xin a2) (h : f233  f a0 a1 a2 M = some R) : xT (d + 8) 233 [xR_ a0, xI a1, xI a2] M (xQi R) := by
  refine xT_m xr_233_e (X := (none, d + 7, none)) rfl (xa_1 (xR_cat _) (xa_1 (xI_cat _) (xa_1 (xI_cat _) xa_n))) (by decide) ?_
  unfold f233 at h
  refine xe_alr (ins := .aload_n 0) (len := 1) (i := 0) (by decide +kernel) rfl rfl rfl rfl rfl ?_
  refine xe_iconst (n := 5) (by decide +kernel) rfl ?_
  obtain ⟨_, e108, h⟩ := xbnd h
  obtain ⟨R109, e107, h⟩ := xbnd h
  refine xs_cv (i := 153) (j := 221) (ar := [xI (5)]) (rest := []) (r2 := xr_221) (by decide +kernel) (by decide +kernel) (by decide +kernel) xr_221_e rfl (by decide) (by decide) e108 ?_
  refine xc_i (k221 (d := d + 5)  (show xin (5) by decide) e107) rfl (fun hi110 => ?_)
  refine xe_ifeq (off := 23) (t := 28) (by decide +kernel) (by decide) rfl hi110 (fun c111 => ?_) (fun c111 => ?_)
  · rw [if_pos c111] at h
    refine xW_lv rfl (l := [(0, xR_ (a0)), (1, xI (a1))]) (xsb_of ⟨rfl, rfl, trivial⟩ (show [0, 1, 2].Nodup by decide)) ?_
    exact k233_28   ha1 h
  · rw [if_neg c111] at h
    refine xe_alr (ins := .aload_n 0) (len := 1) (i := 0) (by decide +kernel) rfl rfl rfl rfl rfl ?_
    obtain ⟨v112, e113, h⟩ := xbnd h
    refine xs_gl (i := 71) (c := 15) (k := 9) (by decide +kernel) (by decide) (by decide +kernel) e113 rfl ?_
    refine xe_ldn (ins := .iload_n 1) (len := 1) (by decide +kernel) rfl rfl rfl rfl ?_
    refine xe_i2l (by decide +kernel) rfl ha1 ?_
    refine xe_lcmp (by decide +kernel) rfl (xq_gl_in e113) (xin_N ha1) ?_
    refine xe_iflt (off := 13) (t := 28) (by decide +kernel) (by decide) rfl (xin_cmp8 _ _) (fun c114 => ?_) (fun c114 => ?_)
    · have c114 := xcmp8_lt.mp c114; rw [if_pos c114] at h
      refine xW_lv rfl (l := [(0, xR_ (a0)), (1, xI (a1))]) (xsb_of ⟨rfl, rfl, trivial⟩ (show [0, 1, 2].Nodup by decide)) ?_
      exact k233_28   ha1 h
    · have c114 := (not_congr xcmp8_lt).mp c114; rw [if_neg c114] at h
      refine xe_alr (ins := .aload_n 0) (len := 1) (i := 0) (by decide +kernel) rfl rfl rfl rfl rfl ?_
      obtain ⟨v115, e116, h⟩ := xbnd h
      refine xs_gl (i := 71) (c := 15) (k := 9) (by decide +kernel) (by decide) (by decide +kernel) e116 rfl ?_
      refine xe_ldn (ins := .iload_n 2) (len := 1) (by decide +kernel) rfl rfl rfl rfl ?_
      refine xe_i2l (by decide +kernel) rfl ha2 ?_
      refine xe_lcmp (by decide +kernel) rfl (xq_gl_in e116) (xin_N ha2) ?_
      refine xe_ifle (off := 13) (t := 38) (by decide +kernel) (by decide) rfl (xin_cmp8 _ _) (fun c117 => ?_) (fun c117 => ?_)
      · have c117 := xcmp8_le.mp c117; rw [if_pos c117] at h
        refine xe_alr (ins := .aload_n 0) (len := 1) (i := 0) (by decide +kernel) rfl rfl rfl rfl rfl ?_
        obtain ⟨v118, e119, h⟩ := xbnd h
        refine xs_gl (i := 71) (c := 15) (k := 9) (by decide +kernel) (by decide) (by decide +kernel) e119 rfl ?_
        refine xe_l2i (by decide +kernel) rfl ?_
        refine xe_isr (ins := .istore_n 3) (len := 1) (i := 3) (by decide +kernel) rfl rfl rfl (by decide) (xk_k (show ¬ (0 : Nat) = 3 by decide) (Or.inl (show ¬ (0 + 1 : Nat) = 3 by decide)) (xk_k (show ¬ (1 : Nat) = 3 by decide) (Or.inl (show ¬ (1 + 1 : Nat) = 3 by decide)) (xk_k (show ¬ (2 : Nat) = 3 by decide) (Or.inr (xI_cat _)) xk_n))) rfl ?_
        refine xe_alr (ins := .aload_n 0) (len := 1) (i := 0) (by decide +kernel) rfl rfl rfl rfl rfl ?_
        obtain ⟨_, e121, h⟩ := xbnd h
        obtain ⟨M122, e120, h⟩ := xbnd h
        refine xs_cv (i := 118) (j := 213) (ar := []) (rest := []) (r2 := xr_213) (by decide +kernel) (by decide +kernel) (by decide +kernel) xr_213_e rfl (by decide) (by decide) e121 ?_
        refine xc_v (k213 (d := d + 0)   e120) rfl ?_
        refine xe_ldn (ins := .iload_n 3) (len := 1) (by decide +kernel) rfl rfl rfl rfl ?_
        cases h
        exact xe_ret_i (ty := .int) (by decide +kernel) rfl rfl ⟨rfl, rfl, (xin_wr _)⟩
      · have c117 := (not_congr xcmp8_le).mp c117; rw [if_neg c117] at h
        refine xW_lv rfl (l := [(0, xR_ (a0)), (1, xI (a1))]) (xsb_of ⟨rfl, rfl, trivial⟩ (show [0, 1, 2].Nodup by decide)) ?_
        exact k233_28   ha1 h
