/-! Mirrors (written by mk_mir.py) -/
-- ChangeHouse$Rule.variablesOf
def xr_92 : xj_mR := (6, yX6_variablesOf, cX6_variablesOf, 4, (Option.some Jvm.ClassFile.FieldType.int), 1, false, (5, 180), (1, 26))
set_option maxRecDepth 20000 in
theorem xr_92_e : xj_row 92 = some xr_92 := rfl
def f92_41  (r9 : Nat → Int → Int → Int → xj_M → Option (Int × xj_M)) (f : Nat) (x0 : Nat) (x1 : Int) (x2 : Int) (x3 : Int) (M : xj_M) : Option (Int × xj_M) := r9 (x0) (x1) (x2) (xwr ((x3) + (1))) M
theorem k92_41 {d f : Nat}  {r9 : Nat → Int → Int → Int → xj_M → Option (Int × xj_M)}  (hr9 : ∀ {x0 : Nat} {x1 : Int} {x2 : Int} {x3 : Int} {M : xj_M} {R : Int × xj_M}, xin x1 → xin x2 → xin x3 → r9 x0 x1 x2 x3 M = some R → xW (d + 0) (none, d + 0, none) xr_92 (9, [(0, xR_ x0), (1, xI x1), (2, xI x2), (3, xI x3)], [], M) (xQi R)) {x0 : Nat} {x1 : Int} {x2 : Int} {x3 : Int} {M : xj_M} {R : Int × xj_M} (hx1 : xin x1) (hx2 : xin x2) (hx3 : xin x3) (h : f92_41  r9 f x0 x1 x2 x3 M = some R) : xW (d + 0) (none, d + 0, none) xr_92 (41, [(0, xR_ x0), (1, xI x1), (2, xI x2), (3, xI x3)], [], M) (xQi R) := by
  unfold f92_41 at h
  refine xe_iincr (i := 3) (n := 1) (by decide +kernel) (by decide) rfl (xk_k (show ¬ (0 : Nat) = 3 by decide) (Or.inl (show ¬ (0 + 1 : Nat) = 3 by decide)) (xk_k (show ¬ (1 : Nat) = 3 by decide) (Or.inl (show ¬ (1 + 1 : Nat) = 3 by decide)) (xk_k (show ¬ (2 : Nat) = 3 by decide) (Or.inr (xI_cat _)) (xk_d rfl xk_n)))) rfl ?_
  refine xe_goto (off := -35) (nx := 9) (by decide +kernel) (by decide) ?_
  refine xW_lv rfl (l := [(0, xR_ (x0)), (1, xI (x1)), (2, xI (x2)), (3, xI (xwr ((x3) + (1))))]) (xsb_of ⟨rfl, rfl, rfl, rfl, trivial⟩ (show [3, 0, 1, 2].Nodup by decide)) ?_
  exact hr9 hx1 hx2 (xin_wr _) h
def f92_9b  (r9 : Nat → Int → Int → Int → xj_M → Option (Int × xj_M)) (f : Nat) (x0 : Nat) (x1 : Int) (x2 : Int) (x3 : Int) (M : xj_M) : Option (Int × xj_M) := ((xq_gr 6 15 (x0) M).bind fun v101 => ((xq_ai 3 (v101) (x1) M).bind fun v103 => (if (v103) ≤ (x3) then (some (x2, M)) else ((xq_gr 6 16 (x0) M).bind fun v106 => ((xq_ai 3 (v106) (x3) M).bind fun v108 => (if ¬ (v108) = (2) then f92_41  r9 f (x0) (x1) (x2) (x3) M else ((xq_gr 6 17 (x0) M).bind fun v111 => ((xq_al (v111) (x3) M).bind fun v113 => f92_41  r9 f (x0) (x1) (xor_ (x2) (xshl (1) (xwr (v113)))) (x3) M))))))))
theorem k92_9b {d f : Nat}  {r9 : Nat → Int → Int → Int → xj_M → Option (Int × xj_M)}  (hr9 : ∀ {x0 : Nat} {x1 : Int} {x2 : Int} {x3 : Int} {M : xj_M} {R : Int × xj_M}, xin x1 → xin x2 → xin x3 → r9 x0 x1 x2 x3 M = some R → xW (d + 0) (none, d + 0, none) xr_92 (9, [(0, xR_ x0), (1, xI x1), (2, xI x2), (3, xI x3)], [], M) (xQi R)) {x0 : Nat} {x1 : Int} {x2 : Int} {x3 : Int} {M : xj_M} {R : Int × xj_M} (hx1 : xin x1) (hx2 : xin x2) (hx3 : xin x3) (h : f92_9b  r9 f x0 x1 x2 x3 M = some R) : xW (d + 0) (none, d + 0, none) xr_92 (9, [(0, xR_ x0), (1, xI x1), (2, xI x2), (3, xI x3)], [], M) (xQi R) := by
  unfold f92_9b at h
  refine xe_ldn (ins := .iload_n 3) (len := 1) (by decide +kernel) rfl rfl rfl rfl ?_
  refine xe_alr (ins := .aload_n 0) (len := 1) (i := 0) (by decide +kernel) rfl rfl rfl rfl rfl ?_
  obtain ⟨v101, e102, h⟩ := xbnd h
  refine xs_gr (i := 41) (c := 6) (k := 15) (by decide +kernel) (by decide) (by decide +kernel) e102 rfl ?_
  refine xe_ldn (ins := .iload_n 1) (len := 1) (by decide +kernel) rfl rfl rfl rfl ?_
  obtain ⟨v103, e104, h⟩ := xbnd h
  refine xs_iald rfl (by decide +kernel) hx1 e104 rfl ?_
  refine xe_icmpge (off := 31) (t := 47) (by decide +kernel) (by decide) rfl hx3 (xq_ai_in e104) (fun c105 => ?_) (fun c105 => ?_)
  · rw [if_pos c105] at h
    refine xe_ldn (ins := .iload_n 2) (len := 1) (by decide +kernel) rfl rfl rfl rfl ?_
    cases h
    exact xe_ret_i (ty := .int) (by decide +kernel) rfl rfl ⟨rfl, rfl, hx2⟩
  · rw [if_neg c105] at h
    refine xe_alr (ins := .aload_n 0) (len := 1) (i := 0) (by decide +kernel) rfl rfl rfl rfl rfl ?_
    obtain ⟨v106, e107, h⟩ := xbnd h
    refine xs_gr (i := 56) (c := 6) (k := 16) (by decide +kernel) (by decide) (by decide +kernel) e107 rfl ?_
    refine xe_ldn (ins := .iload_n 3) (len := 1) (by decide +kernel) rfl rfl rfl rfl ?_
    obtain ⟨v108, e109, h⟩ := xbnd h
    refine xs_iald rfl (by decide +kernel) hx3 e109 rfl ?_
    refine xe_iconst (n := 2) (by decide +kernel) rfl ?_
    refine xe_icmpne (off := 15) (t := 41) (by decide +kernel) (by decide) rfl (xq_ai_in e109) (show xin (2) by decide) (fun c110 => ?_) (fun c110 => ?_)
    · rw [if_pos c110] at h
      refine xW_lv rfl (l := [(0, xR_ (x0)), (1, xI (x1)), (2, xI (x2)), (3, xI (x3))]) (xsb_of ⟨rfl, rfl, rfl, rfl, trivial⟩ (show [0, 1, 2, 3].Nodup by decide)) ?_
      exact k92_41  hr9 hx1 hx2 hx3 h
    · rw [if_neg c110] at h
      refine xe_ldn (ins := .iload_n 2) (len := 1) (by decide +kernel) rfl rfl rfl rfl ?_
      refine xe_iconst (n := 1) (by decide +kernel) rfl ?_
      refine xe_alr (ins := .aload_n 0) (len := 1) (i := 0) (by decide +kernel) rfl rfl rfl rfl rfl ?_
      obtain ⟨v111, e112, h⟩ := xbnd h
      refine xs_gr (i := 62) (c := 6) (k := 17) (by decide +kernel) (by decide) (by decide +kernel) e112 rfl ?_
      refine xe_ldn (ins := .iload_n 3) (len := 1) (by decide +kernel) rfl rfl rfl rfl ?_
      obtain ⟨v113, e114, h⟩ := xbnd h
      refine xs_lald (by decide +kernel) hx3 e114 rfl ?_
      refine xe_l2i (by decide +kernel) rfl ?_
      refine xe_ishl (by decide +kernel) rfl ?_
      refine xe_ior (by decide +kernel) rfl ?_
      refine xe_isr (ins := .istore_n 2) (len := 1) (i := 2) (by decide +kernel) rfl rfl rfl (by decide) (xk_k (show ¬ (0 : Nat) = 2 by decide) (Or.inl (show ¬ (0 + 1 : Nat) = 2 by decide)) (xk_k (show ¬ (1 : Nat) = 2 by decide) (Or.inr (xI_cat _)) (xk_d rfl (xk_k (show ¬ (3 : Nat) = 2 by decide) (Or.inl (show ¬ (3 + 1 : Nat) = 2 by decide)) xk_n)))) rfl ?_
      refine xW_lv rfl (l := [(0, xR_ (x0)), (1, xI (x1)), (2, xI (xor_ (x2) (xshl (1) (xwr (v113))))), (3, xI (x3))]) (xsb_of ⟨rfl, rfl, rfl, rfl, trivial⟩ (show [2, 0, 1, 3].Nodup by decide)) ?_
      exact k92_41  hr9 hx1 (xin_of _) hx3 h
def f92_9   (f : Nat) : Nat → Nat → Int → Int → Int → xj_M → Option (Int × xj_M)
  | 0, _, _, _, _, _ => none
  | n + 1, x0, x1, x2, x3, M => f92_9b   (f92_9   f n) f x0 x1 x2 x3 M
theorem k92_9 {d f : Nat}     : ∀ {n : Nat} {x0 : Nat} {x1 : Int} {x2 : Int} {x3 : Int} {M : xj_M} {R : Int × xj_M}, xin x1 → xin x2 → xin x3 → f92_9   f n x0 x1 x2 x3 M = some R → xW (d + 0) (none, d + 0, none) xr_92 (9, [(0, xR_ x0), (1, xI x1), (2, xI x2), (3, xI x3)], [], M) (xQi R) := by
  intro n
  induction n with
  | zero => intros; rename_i h; cases h
  | succ n ih => intros; rename_i h; exact k92_9b   ih (by assumption) (by assumption) (by assumption) h
def f92  (f : Nat) (a0 : Nat) (a1 : Int) (M : xj_M) : Option (Int × xj_M) := ((xq_gr 6 14 (a0) M).bind fun v115 => ((xq_ai 3 (v115) (a1) M).bind fun v117 => f92_9   f f (a0) (a1) (0) (v117) M))
theorem k92 {d f : Nat}   {a0 : Nat} {a1 : Int} {M : xj_M} {R : Int × xj_M} (ha1 : xin a1) (h : f92  f a0 a1 M = some R) : xT (d + 1) 92 [xR_ a0, xI a1] M (xQi R) := by
  refine xT_m xr_92_e (X := (none, d + 0, none)) rfl (xa_1 (xR_cat _) (xa_1 (xI_cat _) xa_n)) (by decide) ?_
  unfold f92 at h
  refine xe_iconst (n := 0) (by decide +kernel) rfl ?_
  refine xe_isr (ins := .istore_n 2) (len := 1) (i := 2) (by decide +kernel) rfl rfl rfl (by decide) (xk_k (show ¬ (0 : Nat) = 2 by decide) (Or.inl (show ¬ (0 + 1 : Nat) = 2 by decide)) (xk_k (show ¬ (1 : Nat) = 2 by decide) (Or.inr (xI_cat _)) xk_n)) rfl ?_
  refine xe_alr (ins := .aload_n 0) (len := 1) (i := 0) (by decide +kernel) rfl rfl rfl rfl rfl ?_
  obtain ⟨v115, e116, h⟩ := xbnd h
  refine xs_gr (i := 38) (c := 6) (k := 14) (by decide +kernel) (by decide) (by decide +kernel) e116 rfl ?_
  refine xe_ldn (ins := .iload_n 1) (len := 1) (by decide +kernel) rfl rfl rfl rfl ?_
  obtain ⟨v117, e118, h⟩ := xbnd h
  refine xs_iald rfl (by decide +kernel) ha1 e118 rfl ?_
  refine xe_isr (ins := .istore_n 3) (len := 1) (i := 3) (by decide +kernel) rfl rfl rfl (by decide) (xk_k (show ¬ (2 : Nat) = 3 by decide) (Or.inr (xI_cat _)) (xk_k (show ¬ (0 : Nat) = 3 by decide) (Or.inl (show ¬ (0 + 1 : Nat) = 3 by decide)) (xk_k (show ¬ (1 : Nat) = 3 by decide) (Or.inl (show ¬ (1 + 1 : Nat) = 3 by decide)) xk_n))) rfl ?_
  refine xW_lv rfl (l := [(0, xR_ (a0)), (1, xI (a1)), (2, xI (0)), (3, xI (v117))]) (xsb_of ⟨rfl, rfl, rfl, rfl, trivial⟩ (show [3, 2, 0, 1].Nodup by decide)) ?_
  exact k92_9   ha1 (show xin (0) by decide) (xq_ai_in e118) h
-- ChangeHouse$Rule.variablesIn
def xr_93 : xj_mR := (6, yX6_variablesIn, cX6_variablesIn, 4, (Option.some Jvm.ClassFile.FieldType.int), 1, false, (5, 172), (1, 26))
set_option maxRecDepth 20000 in
theorem xr_93_e : xj_row 93 = some xr_93 := rfl
def f93_74  (r34 : Nat → Int → Int → Int → xj_M → Option (Int × xj_M)) (f : Nat) (x0 : Nat) (x1 : Int) (x2 : Int) (x3 : Int) (M : xj_M) : Option (Int × xj_M) := r34 (x0) (x1) (x2) (xwr ((x3) + (1))) M
theorem k93_74 {d f : Nat}  {r34 : Nat → Int → Int → Int → xj_M → Option (Int × xj_M)}  (hr34 : ∀ {x0 : Nat} {x1 : Int} {x2 : Int} {x3 : Int} {M : xj_M} {R : Int × xj_M}, xin x1 → xin x2 → xin x3 → r34 x0 x1 x2 x3 M = some R → xW (d + 1) (none, d + 1, none) xr_93 (34, [(0, xR_ x0), (1, xI x1), (2, xI x2), (3, xI x3)], [], M) (xQi R)) {x0 : Nat} {x1 : Int} {x2 : Int} {x3 : Int} {M : xj_M} {R : Int × xj_M} (hx1 : xin x1) (hx2 : xin x2) (hx3 : xin x3) (h : f93_74  r34 f x0 x1 x2 x3 M = some R) : xW (d + 1) (none, d + 1, none) xr_93 (74, [(0, xR_ x0), (1, xI x1), (2, xI x2), (3, xI x3)], [], M) (xQi R) := by
  unfold f93_74 at h
  refine xe_iincr (i := 3) (n := 1) (by decide +kernel) (by decide) rfl (xk_k (show ¬ (0 : Nat) = 3 by decide) (Or.inl (show ¬ (0 + 1 : Nat) = 3 by decide)) (xk_k (show ¬ (1 : Nat) = 3 by decide) (Or.inl (show ¬ (1 + 1 : Nat) = 3 by decide)) (xk_k (show ¬ (2 : Nat) = 3 by decide) (Or.inr (xI_cat _)) (xk_d rfl xk_n)))) rfl ?_
  refine xe_goto (off := -43) (nx := 34) (by decide +kernel) (by decide) ?_
  refine xW_lv rfl (l := [(0, xR_ (x0)), (1, xI (x1)), (2, xI (x2)), (3, xI (xwr ((x3) + (1))))]) (xsb_of ⟨rfl, rfl, rfl, rfl, trivial⟩ (show [3, 0, 1, 2].Nodup by decide)) ?_
  exact hr34 hx1 hx2 (xin_wr _) h
def f93_34b  (r34 : Nat → Int → Int → Int → xj_M → Option (Int × xj_M)) (f : Nat) (x0 : Nat) (x1 : Int) (x2 : Int) (x3 : Int) (M : xj_M) : Option (Int × xj_M) := ((xq_gr 6 11 (x0) M).bind fun v101 => ((xq_ai 3 (v101) (x1) M).bind fun v103 => (if (v103) ≤ (x3) then (some (x2, M)) else ((xq_gr 6 12 (x0) M).bind fun v106 => ((xq_ai 3 (v106) (xwr ((xwr ((4) * (x1))) + (x3))) M).bind fun v108 => (if ¬ (v108) = (2) then f93_74  r34 f (x0) (x1) (x2) (x3) M else ((xq_gr 6 13 (x0) M).bind fun v111 => ((xq_al (v111) (xwr ((xwr ((4) * (x1))) + (x3))) M).bind fun v113 => f93_74  r34 f (x0) (x1) (xor_ (x2) (xshl (1) (xwr (v113)))) (x3) M))))))))
theorem k93_34b {d f : Nat}  {r34 : Nat → Int → Int → Int → xj_M → Option (Int × xj_M)}  (hr34 : ∀ {x0 : Nat} {x1 : Int} {x2 : Int} {x3 : Int} {M : xj_M} {R : Int × xj_M}, xin x1 → xin x2 → xin x3 → r34 x0 x1 x2 x3 M = some R → xW (d + 1) (none, d + 1, none) xr_93 (34, [(0, xR_ x0), (1, xI x1), (2, xI x2), (3, xI x3)], [], M) (xQi R)) {x0 : Nat} {x1 : Int} {x2 : Int} {x3 : Int} {M : xj_M} {R : Int × xj_M} (hx1 : xin x1) (hx2 : xin x2) (hx3 : xin x3) (h : f93_34b  r34 f x0 x1 x2 x3 M = some R) : xW (d + 1) (none, d + 1, none) xr_93 (34, [(0, xR_ x0), (1, xI x1), (2, xI x2), (3, xI x3)], [], M) (xQi R) := by
  unfold f93_34b at h
  refine xe_ldn (ins := .iload_n 3) (len := 1) (by decide +kernel) rfl rfl rfl rfl ?_
  refine xe_alr (ins := .aload_n 0) (len := 1) (i := 0) (by decide +kernel) rfl rfl rfl rfl rfl ?_
  obtain ⟨v101, e102, h⟩ := xbnd h
  refine xs_gr (i := 28) (c := 6) (k := 11) (by decide +kernel) (by decide) (by decide +kernel) e102 rfl ?_
  refine xe_ldn (ins := .iload_n 1) (len := 1) (by decide +kernel) rfl rfl rfl rfl ?_
  obtain ⟨v103, e104, h⟩ := xbnd h
  refine xs_iald rfl (by decide +kernel) hx1 e104 rfl ?_
  refine xe_icmpge (off := 39) (t := 80) (by decide +kernel) (by decide) rfl hx3 (xq_ai_in e104) (fun c105 => ?_) (fun c105 => ?_)
  · rw [if_pos c105] at h
    refine xe_ldn (ins := .iload_n 2) (len := 1) (by decide +kernel) rfl rfl rfl rfl ?_
    cases h
    exact xe_ret_i (ty := .int) (by decide +kernel) rfl rfl ⟨rfl, rfl, hx2⟩
  · rw [if_neg c105] at h
    refine xe_alr (ins := .aload_n 0) (len := 1) (i := 0) (by decide +kernel) rfl rfl rfl rfl rfl ?_
    obtain ⟨v106, e107, h⟩ := xbnd h
    refine xs_gr (i := 31) (c := 6) (k := 12) (by decide +kernel) (by decide) (by decide +kernel) e107 rfl ?_
    refine xe_iconst (n := 4) (by decide +kernel) rfl ?_
    refine xe_ldn (ins := .iload_n 1) (len := 1) (by decide +kernel) rfl rfl rfl rfl ?_
    refine xe_imul (by decide +kernel) rfl ?_
    refine xe_ldn (ins := .iload_n 3) (len := 1) (by decide +kernel) rfl rfl rfl rfl ?_
    refine xe_iadd (by decide +kernel) rfl ?_
    obtain ⟨v108, e109, h⟩ := xbnd h
    refine xs_iald rfl (by decide +kernel) (xin_wr _) e109 rfl ?_
    refine xe_iconst (n := 2) (by decide +kernel) rfl ?_
    refine xe_icmpne (off := 19) (t := 74) (by decide +kernel) (by decide) rfl (xq_ai_in e109) (show xin (2) by decide) (fun c110 => ?_) (fun c110 => ?_)
    · rw [if_pos c110] at h
      refine xW_lv rfl (l := [(0, xR_ (x0)), (1, xI (x1)), (2, xI (x2)), (3, xI (x3))]) (xsb_of ⟨rfl, rfl, rfl, rfl, trivial⟩ (show [0, 1, 2, 3].Nodup by decide)) ?_
      exact k93_74  hr34 hx1 hx2 hx3 h
    · rw [if_neg c110] at h
      refine xe_ldn (ins := .iload_n 2) (len := 1) (by decide +kernel) rfl rfl rfl rfl ?_
      refine xe_iconst (n := 1) (by decide +kernel) rfl ?_
      refine xe_alr (ins := .aload_n 0) (len := 1) (i := 0) (by decide +kernel) rfl rfl rfl rfl rfl ?_
      obtain ⟨v111, e112, h⟩ := xbnd h
      refine xs_gr (i := 34) (c := 6) (k := 13) (by decide +kernel) (by decide) (by decide +kernel) e112 rfl ?_
      refine xe_iconst (n := 4) (by decide +kernel) rfl ?_
      refine xe_ldn (ins := .iload_n 1) (len := 1) (by decide +kernel) rfl rfl rfl rfl ?_
      refine xe_imul (by decide +kernel) rfl ?_
      refine xe_ldn (ins := .iload_n 3) (len := 1) (by decide +kernel) rfl rfl rfl rfl ?_
      refine xe_iadd (by decide +kernel) rfl ?_
      obtain ⟨v113, e114, h⟩ := xbnd h
      refine xs_lald (by decide +kernel) (xin_wr _) e114 rfl ?_
      refine xe_l2i (by decide +kernel) rfl ?_
      refine xe_ishl (by decide +kernel) rfl ?_
      refine xe_ior (by decide +kernel) rfl ?_
      refine xe_isr (ins := .istore_n 2) (len := 1) (i := 2) (by decide +kernel) rfl rfl rfl (by decide) (xk_k (show ¬ (0 : Nat) = 2 by decide) (Or.inl (show ¬ (0 + 1 : Nat) = 2 by decide)) (xk_k (show ¬ (1 : Nat) = 2 by decide) (Or.inr (xI_cat _)) (xk_d rfl (xk_k (show ¬ (3 : Nat) = 2 by decide) (Or.inl (show ¬ (3 + 1 : Nat) = 2 by decide)) xk_n)))) rfl ?_
      refine xW_lv rfl (l := [(0, xR_ (x0)), (1, xI (x1)), (2, xI (xor_ (x2) (xshl (1) (xwr (v113))))), (3, xI (x3))]) (xsb_of ⟨rfl, rfl, rfl, rfl, trivial⟩ (show [2, 0, 1, 3].Nodup by decide)) ?_
      exact k93_74  hr34 hx1 (xin_of _) hx3 h
def f93_34   (f : Nat) : Nat → Nat → Int → Int → Int → xj_M → Option (Int × xj_M)
  | 0, _, _, _, _, _ => none
  | n + 1, x0, x1, x2, x3, M => f93_34b   (f93_34   f n) f x0 x1 x2 x3 M
theorem k93_34 {d f : Nat}     : ∀ {n : Nat} {x0 : Nat} {x1 : Int} {x2 : Int} {x3 : Int} {M : xj_M} {R : Int × xj_M}, xin x1 → xin x2 → xin x3 → f93_34   f n x0 x1 x2 x3 M = some R → xW (d + 1) (none, d + 1, none) xr_93 (34, [(0, xR_ x0), (1, xI x1), (2, xI x2), (3, xI x3)], [], M) (xQi R) := by
  intro n
  induction n with
  | zero => intros; rename_i h; cases h
  | succ n ih => intros; rename_i h; exact k93_34b   ih (by assumption) (by assumption) (by assumption) h
def f93  (f : Nat) (a0 : Nat) (a1 : Int) (M : xj_M) : Option (Int × xj_M) := ((xq_is 6 (a0) M).bind fun _ => ((f90  f (a0) (a1) M).bind fun R117 => (if ¬ (R117.1) = 0 then f93_34   f f (a0) (a1) (0) (0) R117.2 else ((xq_is 6 (a0) R117.2).bind fun _ => ((f92  f (a0) (xwr ((4) + (xwr ((2) * (a1))))) R117.2).bind fun R122 => ((xq_is 6 (a0) R122.2).bind fun _ => ((f92  f (a0) (xwr ((xwr ((4) + (xwr ((2) * (a1))))) + (1))) R122.2).bind fun R126 => (some (xor_ (R122.1) (R126.1), R126.2)))))))))
theorem k93 {d f : Nat}   {a0 : Nat} {a1 : Int} {M : xj_M} {R : Int × xj_M} (ha1 : xin a1) (h : f93  f a0 a1 M = some R) : xT (d + 2) 93 [xR_ a0, xI a1] M (xQi R) := by
  refine xT_m xr_93_e (X := (none, d + 1, none)) rfl (xa_1 (xR_cat _) (xa_1 (xI_cat _) xa_n)) (by decide) ?_
  unfold f93 at h
  refine xe_alr (ins := .aload_n 0) (len := 1) (i := 0) (by decide +kernel) rfl rfl rfl rfl rfl ?_
  refine xe_ldn (ins := .iload_n 1) (len := 1) (by decide +kernel) rfl rfl rfl rfl ?_
  obtain ⟨_, e116, h⟩ := xbnd h
  obtain ⟨R117, e115, h⟩ := xbnd h
  refine xs_cv (i := 71) (j := 90) (ar := [xI (a1)]) (rest := []) (r2 := xr_90) (by decide +kernel) (by decide +kernel) (by decide +kernel) xr_90_e rfl (by decide) (by decide) e116 ?_
  refine xc_i (k90 (d := d + 0)  ha1 e115) rfl (fun hi118 => ?_)
  refine xe_ifne (off := 25) (t := 30) (by decide +kernel) (by decide) rfl hi118 (fun c119 => ?_) (fun c119 => ?_)
  · rw [if_pos c119] at h
    refine xe_iconst (n := 0) (by decide +kernel) rfl ?_
    refine xe_isr (ins := .istore_n 2) (len := 1) (i := 2) (by decide +kernel) rfl rfl rfl (by decide) (xk_k (show ¬ (0 : Nat) = 2 by decide) (Or.inl (show ¬ (0 + 1 : Nat) = 2 by decide)) (xk_k (show ¬ (1 : Nat) = 2 by decide) (Or.inr (xI_cat _)) xk_n)) rfl ?_
    refine xe_iconst (n := 0) (by decide +kernel) rfl ?_
    refine xe_isr (ins := .istore_n 3) (len := 1) (i := 3) (by decide +kernel) rfl rfl rfl (by decide) (xk_k (show ¬ (2 : Nat) = 3 by decide) (Or.inr (xI_cat _)) (xk_k (show ¬ (0 : Nat) = 3 by decide) (Or.inl (show ¬ (0 + 1 : Nat) = 3 by decide)) (xk_k (show ¬ (1 : Nat) = 3 by decide) (Or.inl (show ¬ (1 + 1 : Nat) = 3 by decide)) xk_n))) rfl ?_
    refine xW_lv rfl (l := [(0, xR_ (a0)), (1, xI (a1)), (2, xI (0)), (3, xI (0))]) (xsb_of ⟨rfl, rfl, rfl, rfl, trivial⟩ (show [3, 2, 0, 1].Nodup by decide)) ?_
    exact k93_34   ha1 (show xin (0) by decide) (show xin (0) by decide) h
  · rw [if_neg c119] at h
    refine xe_alr (ins := .aload_n 0) (len := 1) (i := 0) (by decide +kernel) rfl rfl rfl rfl rfl ?_
    refine xe_iconst (n := 4) (by decide +kernel) rfl ?_
    refine xe_iconst (n := 2) (by decide +kernel) rfl ?_
    refine xe_ldn (ins := .iload_n 1) (len := 1) (by decide +kernel) rfl rfl rfl rfl ?_
    refine xe_imul (by decide +kernel) rfl ?_
    refine xe_iadd (by decide +kernel) rfl ?_
    obtain ⟨_, e121, h⟩ := xbnd h
    obtain ⟨R122, e120, h⟩ := xbnd h
    refine xs_cv (i := 75) (j := 92) (ar := [xI (xwr ((4) + (xwr ((2) * (a1)))))]) (rest := []) (r2 := xr_92) (by decide +kernel) (by decide +kernel) (by decide +kernel) xr_92_e rfl (by decide) (by decide) e121 ?_
    refine xc_i (k92 (d := d + 0)  (xin_wr _) e120) rfl (fun hi123 => ?_)
    refine xe_alr (ins := .aload_n 0) (len := 1) (i := 0) (by decide +kernel) rfl rfl rfl rfl rfl ?_
    refine xe_iconst (n := 4) (by decide +kernel) rfl ?_
    refine xe_iconst (n := 2) (by decide +kernel) rfl ?_
    refine xe_ldn (ins := .iload_n 1) (len := 1) (by decide +kernel) rfl rfl rfl rfl ?_
    refine xe_imul (by decide +kernel) rfl ?_
    refine xe_iadd (by decide +kernel) rfl ?_
    refine xe_iconst (n := 1) (by decide +kernel) rfl ?_
    refine xe_iadd (by decide +kernel) rfl ?_
    obtain ⟨_, e125, h⟩ := xbnd h
    obtain ⟨R126, e124, h⟩ := xbnd h
    refine xs_cv (i := 75) (j := 92) (ar := [xI (xwr ((xwr ((4) + (xwr ((2) * (a1))))) + (1)))]) (rest := [xI (R122.1)]) (r2 := xr_92) (by decide +kernel) (by decide +kernel) (by decide +kernel) xr_92_e rfl (by decide) (by simp only [List.map_cons, List.map_nil, List.sum_cons, List.sum_nil, xR_cat, xI_cat, xZ_cat]; decide) e125 ?_
    refine xc_i (k92 (d := d + 0)  (xin_wr _) e124) rfl (fun hi127 => ?_)
    refine xe_ior (by decide +kernel) rfl ?_
    cases h
    exact xe_ret_i (ty := .int) (by decide +kernel) rfl rfl ⟨rfl, rfl, (xin_of _)⟩
-- ChangeHouse$Rule.boundBehind
def xr_94 : xj_mR := (6, yX6_boundBehind, cX6_boundBehind, 7, (Option.some Jvm.ClassFile.FieldType.int), 2, false, (5, 168), (1, 26))
set_option maxRecDepth 20000 in
theorem xr_94_e : xj_row 94 = some xr_94 := rfl
def f94_25   (f : Nat) (x2 : Int) (x3 : Int) (M : xj_M) : Option (Int × xj_M) := (some (xor_ (x2) (x3), M))
theorem k94_25 {d f : Nat}     {x2 : Int} {x3 : Int} {M : xj_M} {R : Int × xj_M} (hx2 : xin x2) (hx3 : xin x3) (h : f94_25   f x2 x3 M = some R) : xW (d + 2) (none, d + 2, none) xr_94 (25, [(2, xI x2), (3, xI x3)], [], M) (xQi R) := by
  unfold f94_25 at h
  refine xe_ldn (ins := .iload_n 2) (len := 1) (by decide +kernel) rfl rfl rfl rfl ?_
  refine xe_ldn (ins := .iload_n 3) (len := 1) (by decide +kernel) rfl rfl rfl rfl ?_
  refine xe_ior (by decide +kernel) rfl ?_
  cases h
  exact xe_ret_i (ty := .int) (by decide +kernel) rfl rfl ⟨rfl, rfl, (xin_of _)⟩
def f94_120   (f : Nat) (y0 : Int) (M : xj_M) : Option (Int × xj_M) := (some (y0, M))
theorem k94_120 {d f : Nat}     {y0 : Int} {M : xj_M} {R : Int × xj_M} (hy0 : xin y0) (h : f94_120   f y0 M = some R) : xW (d + 2) (none, d + 2, none) xr_94 (120, [], [xI y0], M) (xQi R) := by
  unfold f94_120 at h
  cases h
  exact xe_ret_i (ty := .int) (by decide +kernel) rfl rfl ⟨rfl, rfl, hy0⟩
def f94_106   (f : Nat) (x2 : Int) (x3 : Int) (y0 : Int) (M : xj_M) : Option (Int × xj_M) := (if (y0) = 0 then f94_120   f (-1) M else f94_120   f (xor_ (x2) (x3)) M)
theorem k94_106 {d f : Nat}     {x2 : Int} {x3 : Int} {y0 : Int} {M : xj_M} {R : Int × xj_M} (hx2 : xin x2) (hx3 : xin x3) (hy0 : xin y0) (h : f94_106   f x2 x3 y0 M = some R) : xW (d + 2) (none, d + 2, none) xr_94 (106, [(2, xI x2), (3, xI x3)], [xI y0], M) (xQi R) := by
  unfold f94_106 at h
  refine xe_isr (ins := .istore 6) (len := 2) (i := 6) (by decide +kernel) rfl rfl rfl (by decide) (xk_k (show ¬ (2 : Nat) = 6 by decide) (Or.inl (show ¬ (2 + 1 : Nat) = 6 by decide)) (xk_k (show ¬ (3 : Nat) = 6 by decide) (Or.inl (show ¬ (3 + 1 : Nat) = 6 by decide)) xk_n)) rfl ?_
  refine xe_ldn (ins := .iload 6) (len := 2) (by decide +kernel) rfl rfl rfl rfl ?_
  refine xe_ifeq (off := 9) (t := 119) (by decide +kernel) (by decide) rfl hy0 (fun c101 => ?_) (fun c101 => ?_)
  · rw [if_pos c101] at h
    refine xe_iconst (n := -1) (by decide +kernel) rfl ?_
    refine xW_lv rfl (l := []) (xsb_of trivial (show [6, 2, 3].Nodup by decide)) ?_
    exact k94_120   (show xin (-1) by decide) h
  · rw [if_neg c101] at h
    refine xe_ldn (ins := .iload_n 2) (len := 1) (by decide +kernel) rfl rfl rfl rfl ?_
    refine xe_ldn (ins := .iload_n 3) (len := 1) (by decide +kernel) rfl rfl rfl rfl ?_
    refine xe_ior (by decide +kernel) rfl ?_
    refine xe_goto (off := 4) (nx := 120) (by decide +kernel) (by decide) ?_
    refine xW_lv rfl (l := []) (xsb_of trivial (show [6, 2, 3].Nodup by decide)) ?_
    exact k94_120   (xin_of _) h
def f94_101   (f : Nat) (x2 : Int) (x3 : Int) (M : xj_M) : Option (Int × xj_M) := f94_106   f (x2) (x3) (1) M
theorem k94_101 {d f : Nat}     {x2 : Int} {x3 : Int} {M : xj_M} {R : Int × xj_M} (hx2 : xin x2) (hx3 : xin x3) (h : f94_101   f x2 x3 M = some R) : xW (d + 2) (none, d + 2, none) xr_94 (101, [(2, xI x2), (3, xI x3)], [], M) (xQi R) := by
  unfold f94_101 at h
  refine xe_iconst (n := 1) (by decide +kernel) rfl ?_
  refine xe_goto (off := 4) (nx := 106) (by decide +kernel) (by decide) ?_
  refine xW_lv rfl (l := [(2, xI (x2)), (3, xI (x3))]) (xsb_of ⟨rfl, rfl, trivial⟩ (show [2, 3].Nodup by decide)) ?_
  exact k94_106   hx2 hx3 (show xin (1) by decide) h
def f94_105   (f : Nat) (x2 : Int) (x3 : Int) (M : xj_M) : Option (Int × xj_M) := f94_106   f (x2) (x3) (0) M
theorem k94_105 {d f : Nat}     {x2 : Int} {x3 : Int} {M : xj_M} {R : Int × xj_M} (hx2 : xin x2) (hx3 : xin x3) (h : f94_105   f x2 x3 M = some R) : xW (d + 2) (none, d + 2, none) xr_94 (105, [(2, xI x2), (3, xI x3)], [], M) (xQi R) := by
  unfold f94_105 at h
  refine xe_iconst (n := 0) (by decide +kernel) rfl ?_
  refine xW_lv rfl (l := [(2, xI (x2)), (3, xI (x3))]) (xsb_of ⟨rfl, rfl, trivial⟩ (show [2, 3].Nodup by decide)) ?_
  exact k94_106   hx2 hx3 (show xin (0) by decide) h
def f94_78   (f : Nat) (x0 : Nat) (x2 : Int) (x3 : Int) (x4 : Int) (x5 : Int) (M : xj_M) : Option (Int × xj_M) := ((xq_is 6 (x0) M).bind fun _ => ((f91  f (x0) (x5) M).bind fun R104 => (if (R104.1) = (-1) then f94_105   f (x2) (x3) R104.2 else ((xq_is 6 (x0) R104.2).bind fun _ => ((f92  f (x0) (x4) R104.2).bind fun R109 => (if ¬ (xand (R109.1) (xxor (x2) (-1))) = 0 then f94_105   f (x2) (x3) R109.2 else f94_101   f (x2) (x3) R109.2))))))
theorem k94_78 {d f : Nat}     {x0 : Nat} {x2 : Int} {x3 : Int} {x4 : Int} {x5 : Int} {M : xj_M} {R : Int × xj_M} (hx2 : xin x2) (hx3 : xin x3) (hx4 : xin x4) (hx5 : xin x5) (h : f94_78   f x0 x2 x3 x4 x5 M = some R) : xW (d + 2) (none, d + 2, none) xr_94 (78, [(0, xR_ x0), (2, xI x2), (3, xI x3), (4, xI x4), (5, xI x5)], [], M) (xQi R) := by
  unfold f94_78 at h
  refine xe_alr (ins := .aload_n 0) (len := 1) (i := 0) (by decide +kernel) rfl rfl rfl rfl rfl ?_
  refine xe_ldn (ins := .iload 5) (len := 2) (by decide +kernel) rfl rfl rfl rfl ?_
  obtain ⟨_, e103, h⟩ := xbnd h
  obtain ⟨R104, e102, h⟩ := xbnd h
  refine xs_cv (i := 82) (j := 91) (ar := [xI (x5)]) (rest := []) (r2 := xr_91) (by decide +kernel) (by decide +kernel) (by decide +kernel) xr_91_e rfl (by decide) (by decide) e103 ?_
  refine xc_i (k91 (d := d + 1)  hx5 e102) rfl (fun hi105 => ?_)
  refine xe_iconst (n := -1) (by decide +kernel) rfl ?_
  refine xe_icmpeq (off := 20) (t := 105) (by decide +kernel) (by decide) rfl hi105 (show xin (-1) by decide) (fun c106 => ?_) (fun c106 => ?_)
  · rw [if_pos c106] at h
    refine xW_lv rfl (l := [(2, xI (x2)), (3, xI (x3))]) (xsb_of ⟨rfl, rfl, trivial⟩ (show [0, 2, 3, 4, 5].Nodup by decide)) ?_
    exact k94_105   hx2 hx3 h
  · rw [if_neg c106] at h
    refine xe_alr (ins := .aload_n 0) (len := 1) (i := 0) (by decide +kernel) rfl rfl rfl rfl rfl ?_
    refine xe_ldn (ins := .iload 4) (len := 2) (by decide +kernel) rfl rfl rfl rfl ?_
    obtain ⟨_, e108, h⟩ := xbnd h
    obtain ⟨R109, e107, h⟩ := xbnd h
    refine xs_cv (i := 75) (j := 92) (ar := [xI (x4)]) (rest := []) (r2 := xr_92) (by decide +kernel) (by decide +kernel) (by decide +kernel) xr_92_e rfl (by decide) (by decide) e108 ?_
    refine xc_i (k92 (d := d + 1)  hx4 e107) rfl (fun hi110 => ?_)
    refine xe_ldn (ins := .iload_n 2) (len := 1) (by decide +kernel) rfl rfl rfl rfl ?_
    refine xe_iconst (n := -1) (by decide +kernel) rfl ?_
    refine xe_ixor (by decide +kernel) rfl ?_
    refine xe_iand (by decide +kernel) rfl ?_
    refine xe_ifne (off := 7) (t := 105) (by decide +kernel) (by decide) rfl (xin_of _) (fun c111 => ?_) (fun c111 => ?_)
    · rw [if_pos c111] at h
      refine xW_lv rfl (l := [(2, xI (x2)), (3, xI (x3))]) (xsb_of ⟨rfl, rfl, trivial⟩ (show [0, 2, 3, 4, 5].Nodup by decide)) ?_
      exact k94_105   hx2 hx3 h
    · rw [if_neg c111] at h
      refine xW_lv rfl (l := [(2, xI (x2)), (3, xI (x3))]) (xsb_of ⟨rfl, rfl, trivial⟩ (show [0, 2, 3, 4, 5].Nodup by decide)) ?_
      exact k94_101   hx2 hx3 h
def f94  (f : Nat) (a0 : Nat) (a1 : Int) (a2 : Int) (M : xj_M) : Option (Int × xj_M) := ((xq_is 6 (a0) M).bind fun _ => ((f93  f (a0) (a1) M).bind fun R114 => ((xq_gr 6 9 (a0) R114.2).bind fun v116 => ((xq_ai 3 (v116) (a1) R114.2).bind fun v118 => (if (v118) = (15) then f94_25   f (a2) (R114.1) R114.2 else (if ¬ (xand (R114.1) (xxor (a2) (-1))) = 0 then ((xq_gr 6 9 (a0) R114.2).bind fun v122 => ((xq_ai 3 (v122) (a1) R114.2).bind fun v124 => (if (v124) = (61) then ((xq_is 6 (a0) R114.2).bind fun _ => ((f91  f (a0) (xwr ((4) + (xwr ((2) * (a1))))) R114.2).bind fun R129 => (if (R129.1) = (-1) then f94_78   f (a0) (a2) (R114.1) (xwr ((4) + (xwr ((2) * (a1))))) (xwr ((xwr ((4) + (xwr ((2) * (a1))))) + (1))) R129.2 else ((xq_is 6 (a0) R129.2).bind fun _ => ((f92  f (a0) (xwr ((xwr ((4) + (xwr ((2) * (a1))))) + (1))) R129.2).bind fun R134 => (if (xand (R134.1) (xxor (a2) (-1))) = 0 then f94_101   f (a2) (R114.1) R134.2 else f94_78   f (a0) (a2) (R114.1) (xwr ((4) + (xwr ((2) * (a1))))) (xwr ((xwr ((4) + (xwr ((2) * (a1))))) + (1))) R134.2)))))) else (some (-1, R114.2))))) else f94_25   f (a2) (R114.1) R114.2))))))
theorem k94 {d f : Nat}   {a0 : Nat} {a1 : Int} {a2 : Int} {M : xj_M} {R : Int × xj_M} (ha1 : xin a1) (ha2 : xin a2) (h : f94  f a0 a1 a2 M = some R) : xT (d + 3) 94 [xR_ a0, xI a1, xI a2] M (xQi R) := by
  refine xT_m xr_94_e (X := (none, d + 2, none)) rfl (xa_1 (xR_cat _) (xa_1 (xI_cat _) (xa_1 (xI_cat _) xa_n))) (by decide) ?_
  unfold f94 at h
  refine xe_alr (ins := .aload_n 0) (len := 1) (i := 0) (by decide +kernel) rfl rfl rfl rfl rfl ?_
  refine xe_ldn (ins := .iload_n 1) (len := 1) (by decide +kernel) rfl rfl rfl rfl ?_
  obtain ⟨_, e113, h⟩ := xbnd h
  obtain ⟨R114, e112, h⟩ := xbnd h
  refine xs_cv (i := 79) (j := 93) (ar := [xI (a1)]) (rest := []) (r2 := xr_93) (by decide +kernel) (by decide +kernel) (by decide +kernel) xr_93_e rfl (by decide) (by decide) e113 ?_
  refine xc_i (k93 (d := d + 0)  ha1 e112) rfl (fun hi115 => ?_)
  refine xe_isr (ins := .istore_n 3) (len := 1) (i := 3) (by decide +kernel) rfl rfl rfl (by decide) (xk_k (show ¬ (0 : Nat) = 3 by decide) (Or.inl (show ¬ (0 + 1 : Nat) = 3 by decide)) (xk_k (show ¬ (1 : Nat) = 3 by decide) (Or.inl (show ¬ (1 + 1 : Nat) = 3 by decide)) (xk_k (show ¬ (2 : Nat) = 3 by decide) (Or.inr (xI_cat _)) xk_n))) rfl ?_
  refine xe_alr (ins := .aload_n 0) (len := 1) (i := 0) (by decide +kernel) rfl rfl rfl rfl rfl ?_
  obtain ⟨v116, e117, h⟩ := xbnd h
  refine xs_gr (i := 22) (c := 6) (k := 9) (by decide +kernel) (by decide) (by decide +kernel) e117 rfl ?_
  refine xe_ldn (ins := .iload_n 1) (len := 1) (by decide +kernel) rfl rfl rfl rfl ?_
  obtain ⟨v118, e119, h⟩ := xbnd h
  refine xs_iald rfl (by decide +kernel) ha1 e119 rfl ?_
  refine xe_bipush (n := 15) (by decide +kernel) (by decide) rfl ?_
  refine xe_icmpeq (off := 11) (t := 25) (by decide +kernel) (by decide) rfl (xq_ai_in e119) (show xin (15) by decide) (fun c120 => ?_) (fun c120 => ?_)
  · rw [if_pos c120] at h
    refine xW_lv rfl (l := [(2, xI (a2)), (3, xI (R114.1))]) (xsb_of ⟨rfl, rfl, trivial⟩ (show [3, 0, 1, 2].Nodup by decide)) ?_
    exact k94_25   ha2 hi115 h
  · rw [if_neg c120] at h
    refine xe_ldn (ins := .iload_n 3) (len := 1) (by decide +kernel) rfl rfl rfl rfl ?_
    refine xe_ldn (ins := .iload_n 2) (len := 1) (by decide +kernel) rfl rfl rfl rfl ?_
    refine xe_iconst (n := -1) (by decide +kernel) rfl ?_
    refine xe_ixor (by decide +kernel) rfl ?_
    refine xe_iand (by decide +kernel) rfl ?_
    refine xe_ifne (off := 7) (t := 29) (by decide +kernel) (by decide) rfl (xin_of _) (fun c121 => ?_) (fun c121 => ?_)
    · rw [if_pos c121] at h
      refine xe_alr (ins := .aload_n 0) (len := 1) (i := 0) (by decide +kernel) rfl rfl rfl rfl rfl ?_
      obtain ⟨v122, e123, h⟩ := xbnd h
      refine xs_gr (i := 22) (c := 6) (k := 9) (by decide +kernel) (by decide) (by decide +kernel) e123 rfl ?_
      refine xe_ldn (ins := .iload_n 1) (len := 1) (by decide +kernel) rfl rfl rfl rfl ?_
      obtain ⟨v124, e125, h⟩ := xbnd h
      refine xs_iald rfl (by decide +kernel) ha1 e125 rfl ?_
      refine xe_bipush (n := 61) (by decide +kernel) (by decide) rfl ?_
      refine xe_icmpeq (off := 5) (t := 42) (by decide +kernel) (by decide) rfl (xq_ai_in e125) (show xin (61) by decide) (fun c126 => ?_) (fun c126 => ?_)
      · rw [if_pos c126] at h
        refine xe_iconst (n := 4) (by decide +kernel) rfl ?_
        refine xe_iconst (n := 2) (by decide +kernel) rfl ?_
        refine xe_ldn (ins := .iload_n 1) (len := 1) (by decide +kernel) rfl rfl rfl rfl ?_
        refine xe_imul (by decide +kernel) rfl ?_
        refine xe_iadd (by decide +kernel) rfl ?_
        refine xe_isr (ins := .istore 4) (len := 2) (i := 4) (by decide +kernel) rfl rfl rfl (by decide) (xk_k (show ¬ (3 : Nat) = 4 by decide) (Or.inr (xI_cat _)) (xk_k (show ¬ (0 : Nat) = 4 by decide) (Or.inl (show ¬ (0 + 1 : Nat) = 4 by decide)) (xk_k (show ¬ (1 : Nat) = 4 by decide) (Or.inl (show ¬ (1 + 1 : Nat) = 4 by decide)) (xk_k (show ¬ (2 : Nat) = 4 by decide) (Or.inl (show ¬ (2 + 1 : Nat) = 4 by decide)) xk_n)))) rfl ?_
        refine xe_ldn (ins := .iload 4) (len := 2) (by decide +kernel) rfl rfl rfl rfl ?_
        refine xe_iconst (n := 1) (by decide +kernel) rfl ?_
        refine xe_iadd (by decide +kernel) rfl ?_
        refine xe_isr (ins := .istore 5) (len := 2) (i := 5) (by decide +kernel) rfl rfl rfl (by decide) (xk_k (show ¬ (4 : Nat) = 5 by decide) (Or.inr (xI_cat _)) (xk_k (show ¬ (3 : Nat) = 5 by decide) (Or.inl (show ¬ (3 + 1 : Nat) = 5 by decide)) (xk_k (show ¬ (0 : Nat) = 5 by decide) (Or.inl (show ¬ (0 + 1 : Nat) = 5 by decide)) (xk_k (show ¬ (1 : Nat) = 5 by decide) (Or.inl (show ¬ (1 + 1 : Nat) = 5 by decide)) (xk_k (show ¬ (2 : Nat) = 5 by decide) (Or.inl (show ¬ (2 + 1 : Nat) = 5 by decide)) xk_n))))) rfl ?_
        refine xe_alr (ins := .aload_n 0) (len := 1) (i := 0) (by decide +kernel) rfl rfl rfl rfl rfl ?_
        refine xe_ldn (ins := .iload 4) (len := 2) (by decide +kernel) rfl rfl rfl rfl ?_
        obtain ⟨_, e128, h⟩ := xbnd h
        obtain ⟨R129, e127, h⟩ := xbnd h
        refine xs_cv (i := 82) (j := 91) (ar := [xI (xwr ((4) + (xwr ((2) * (a1)))))]) (rest := []) (r2 := xr_91) (by decide +kernel) (by decide +kernel) (by decide +kernel) xr_91_e rfl (by decide) (by decide) e128 ?_
        refine xc_i (k91 (d := d + 1)  (xin_wr _) e127) rfl (fun hi130 => ?_)
        refine xe_iconst (n := -1) (by decide +kernel) rfl ?_
        refine xe_icmpeq (off := 16) (t := 78) (by decide +kernel) (by decide) rfl hi130 (show xin (-1) by decide) (fun c131 => ?_) (fun c131 => ?_)
        · rw [if_pos c131] at h
          refine xW_lv rfl (l := [(0, xR_ (a0)), (2, xI (a2)), (3, xI (R114.1)), (4, xI (xwr ((4) + (xwr ((2) * (a1)))))), (5, xI (xwr ((xwr ((4) + (xwr ((2) * (a1))))) + (1))))]) (xsb_of ⟨rfl, rfl, rfl, rfl, rfl, trivial⟩ (show [5, 4, 3, 0, 1, 2].Nodup by decide)) ?_
          exact k94_78   ha2 hi115 (xin_wr _) (xin_wr _) h
        · rw [if_neg c131] at h
          refine xe_alr (ins := .aload_n 0) (len := 1) (i := 0) (by decide +kernel) rfl rfl rfl rfl rfl ?_
          refine xe_ldn (ins := .iload 5) (len := 2) (by decide +kernel) rfl rfl rfl rfl ?_
          obtain ⟨_, e133, h⟩ := xbnd h
          obtain ⟨R134, e132, h⟩ := xbnd h
          refine xs_cv (i := 75) (j := 92) (ar := [xI (xwr ((xwr ((4) + (xwr ((2) * (a1))))) + (1)))]) (rest := []) (r2 := xr_92) (by decide +kernel) (by decide +kernel) (by decide +kernel) xr_92_e rfl (by decide) (by decide) e133 ?_
          refine xc_i (k92 (d := d + 1)  (xin_wr _) e132) rfl (fun hi135 => ?_)
          refine xe_ldn (ins := .iload_n 2) (len := 1) (by decide +kernel) rfl rfl rfl rfl ?_
          refine xe_iconst (n := -1) (by decide +kernel) rfl ?_
          refine xe_ixor (by decide +kernel) rfl ?_
          refine xe_iand (by decide +kernel) rfl ?_
          refine xe_ifeq (off := 26) (t := 101) (by decide +kernel) (by decide) rfl (xin_of _) (fun c136 => ?_) (fun c136 => ?_)
          · rw [if_pos c136] at h
            refine xW_lv rfl (l := [(2, xI (a2)), (3, xI (R114.1))]) (xsb_of ⟨rfl, rfl, trivial⟩ (show [5, 4, 3, 0, 1, 2].Nodup by decide)) ?_
            exact k94_101   ha2 hi115 h
          · rw [if_neg c136] at h
            refine xW_lv rfl (l := [(0, xR_ (a0)), (2, xI (a2)), (3, xI (R114.1)), (4, xI (xwr ((4) + (xwr ((2) * (a1)))))), (5, xI (xwr ((xwr ((4) + (xwr ((2) * (a1))))) + (1))))]) (xsb_of ⟨rfl, rfl, rfl, rfl, rfl, trivial⟩ (show [5, 4, 3, 0, 1, 2].Nodup by decide)) ?_
            exact k94_78   ha2 hi115 (xin_wr _) (xin_wr _) h
      · rw [if_neg c126] at h
        refine xe_iconst (n := -1) (by decide +kernel) rfl ?_
        cases h
        exact xe_ret_i (ty := .int) (by decide +kernel) rfl rfl ⟨rfl, rfl, (show xin (-1) by decide)⟩
    · rw [if_neg c121] at h
      refine xW_lv rfl (l := [(2, xI (a2)), (3, xI (R114.1))]) (xsb_of ⟨rfl, rfl, trivial⟩ (show [3, 0, 1, 2].Nodup by decide)) ?_
      exact k94_25   ha2 hi115 h
-- ChangeHouse$Rule.unsafePlace
def xr_95 : xj_mR := (6, yX6_unsafePlace, cX6_unsafePlace, 5, (Option.some Jvm.ClassFile.FieldType.int), 0, false, (5, 208), (1, 26))
set_option maxRecDepth 20000 in
theorem xr_95_e : xj_row 95 = some xr_95 := rfl
def f95_40  (r4 : Nat → Int → Int → xj_M → Option (Int × xj_M)) (r12 : Nat → Int → Int → Int → xj_M → Option (Int × xj_M)) (f : Nat) (x0 : Nat) (x2 : Int) (x3 : Int) (y0 : Int) (M : xj_M) : Option (Int × xj_M) := r12 (x0) (y0) (x2) (xwr ((x3) + (1))) M
theorem k95_40 {d f : Nat}  {r4 : Nat → Int → Int → xj_M → Option (Int × xj_M)} {r12 : Nat → Int → Int → Int → xj_M → Option (Int × xj_M)}  (hr4 : ∀ {x0 : Nat} {x1 : Int} {x2 : Int} {M : xj_M} {R : Int × xj_M}, xin x1 → xin x2 → r4 x0 x1 x2 M = some R → xW (d + 3) (none, d + 3, none) xr_95 (4, [(0, xR_ x0), (1, xI x1), (2, xI x2)], [], M) (xQi R)) (hr12 : ∀ {x0 : Nat} {x1 : Int} {x2 : Int} {x3 : Int} {M : xj_M} {R : Int × xj_M}, xin x1 → xin x2 → xin x3 → r12 x0 x1 x2 x3 M = some R → xW (d + 3) (none, d + 3, none) xr_95 (12, [(0, xR_ x0), (1, xI x1), (2, xI x2), (3, xI x3)], [], M) (xQi R)) {x0 : Nat} {x2 : Int} {x3 : Int} {y0 : Int} {M : xj_M} {R : Int × xj_M} (hx2 : xin x2) (hx3 : xin x3) (hy0 : xin y0) (h : f95_40  r4 r12 f x0 x2 x3 y0 M = some R) : xW (d + 3) (none, d + 3, none) xr_95 (40, [(0, xR_ x0), (2, xI x2), (3, xI x3)], [xI y0], M) (xQi R) := by
  unfold f95_40 at h
  refine xe_isr (ins := .istore_n 1) (len := 1) (i := 1) (by decide +kernel) rfl rfl rfl (by decide) (xk_k (show ¬ (0 : Nat) = 1 by decide) (Or.inr (xR_cat _)) (xk_k (show ¬ (2 : Nat) = 1 by decide) (Or.inl (show ¬ (2 + 1 : Nat) = 1 by decide)) (xk_k (show ¬ (3 : Nat) = 1 by decide) (Or.inl (show ¬ (3 + 1 : Nat) = 1 by decide)) xk_n))) rfl ?_
  refine xe_iincr (i := 3) (n := 1) (by decide +kernel) (by decide) rfl (xk_k (show ¬ (1 : Nat) = 3 by decide) (Or.inl (show ¬ (1 + 1 : Nat) = 3 by decide)) (xk_k (show ¬ (0 : Nat) = 3 by decide) (Or.inl (show ¬ (0 + 1 : Nat) = 3 by decide)) (xk_k (show ¬ (2 : Nat) = 3 by decide) (Or.inr (xI_cat _)) (xk_d rfl xk_n)))) rfl ?_
  refine xe_goto (off := -32) (nx := 12) (by decide +kernel) (by decide) ?_
  refine xW_lv rfl (l := [(0, xR_ (x0)), (1, xI (y0)), (2, xI (x2)), (3, xI (xwr ((x3) + (1))))]) (xsb_of ⟨rfl, rfl, rfl, rfl, trivial⟩ (show [3, 1, 0, 2].Nodup by decide)) ?_
  exact hr12 hy0 hx2 (xin_wr _) h
def f95_12b  (r4 : Nat → Int → Int → xj_M → Option (Int × xj_M)) (r12 : Nat → Int → Int → Int → xj_M → Option (Int × xj_M)) (f : Nat) (x0 : Nat) (x1 : Int) (x2 : Int) (x3 : Int) (M : xj_M) : Option (Int × xj_M) := ((xq_gi 6 8 (x0) M).bind fun v101 => (if (v101) ≤ (x3) then r4 (x0) (x1) (xwr ((x2) + (1))) M else ((xq_is 6 (x0) M).bind fun _ => ((f94  f (x0) (x3) (x1) M).bind fun R106 => (if ¬ (R106.1) = (-1) then f95_40  r4 r12 f (x0) (x2) (x3) (R106.1) R106.2 else f95_40  r4 r12 f (x0) (x2) (x3) (x1) R106.2)))))
theorem k95_12b {d f : Nat}  {r4 : Nat → Int → Int → xj_M → Option (Int × xj_M)} {r12 : Nat → Int → Int → Int → xj_M → Option (Int × xj_M)}  (hr4 : ∀ {x0 : Nat} {x1 : Int} {x2 : Int} {M : xj_M} {R : Int × xj_M}, xin x1 → xin x2 → r4 x0 x1 x2 M = some R → xW (d + 3) (none, d + 3, none) xr_95 (4, [(0, xR_ x0), (1, xI x1), (2, xI x2)], [], M) (xQi R)) (hr12 : ∀ {x0 : Nat} {x1 : Int} {x2 : Int} {x3 : Int} {M : xj_M} {R : Int × xj_M}, xin x1 → xin x2 → xin x3 → r12 x0 x1 x2 x3 M = some R → xW (d + 3) (none, d + 3, none) xr_95 (12, [(0, xR_ x0), (1, xI x1), (2, xI x2), (3, xI x3)], [], M) (xQi R)) {x0 : Nat} {x1 : Int} {x2 : Int} {x3 : Int} {M : xj_M} {R : Int × xj_M} (hx1 : xin x1) (hx2 : xin x2) (hx3 : xin x3) (h : f95_12b  r4 r12 f x0 x1 x2 x3 M = some R) : xW (d + 3) (none, d + 3, none) xr_95 (12, [(0, xR_ x0), (1, xI x1), (2, xI x2), (3, xI x3)], [], M) (xQi R) := by
  unfold f95_12b at h
  refine xe_ldn (ins := .iload_n 3) (len := 1) (by decide +kernel) rfl rfl rfl rfl ?_
  refine xe_alr (ins := .aload_n 0) (len := 1) (i := 0) (by decide +kernel) rfl rfl rfl rfl rfl ?_
  obtain ⟨v101, e102, h⟩ := xbnd h
  refine xs_gi (i := 68) (c := 6) (k := 8) (by decide +kernel) (by decide) (by decide +kernel) e102 rfl ?_
  refine xe_icmpge (off := 30) (t := 47) (by decide +kernel) (by decide) rfl hx3 (xq_gi_in e102) (fun c103 => ?_) (fun c103 => ?_)
  · rw [if_pos c103] at h
    refine xe_iincr (i := 2) (n := 1) (by decide +kernel) (by decide) rfl (xk_k (show ¬ (0 : Nat) = 2 by decide) (Or.inl (show ¬ (0 + 1 : Nat) = 2 by decide)) (xk_k (show ¬ (1 : Nat) = 2 by decide) (Or.inr (xI_cat _)) (xk_d rfl (xk_k (show ¬ (3 : Nat) = 2 by decide) (Or.inl (show ¬ (3 + 1 : Nat) = 2 by decide)) xk_n)))) rfl ?_
    refine xe_goto (off := -46) (nx := 4) (by decide +kernel) (by decide) ?_
    refine xW_lv rfl (l := [(0, xR_ (x0)), (1, xI (x1)), (2, xI (xwr ((x2) + (1))))]) (xsb_of ⟨rfl, rfl, rfl, trivial⟩ (show [2, 0, 1, 3].Nodup by decide)) ?_
    exact hr4 hx1 (xin_wr _) h
  · rw [if_neg c103] at h
    refine xe_alr (ins := .aload_n 0) (len := 1) (i := 0) (by decide +kernel) rfl rfl rfl rfl rfl ?_
    refine xe_ldn (ins := .iload_n 3) (len := 1) (by decide +kernel) rfl rfl rfl rfl ?_
    refine xe_ldn (ins := .iload_n 1) (len := 1) (by decide +kernel) rfl rfl rfl rfl ?_
    obtain ⟨_, e105, h⟩ := xbnd h
    obtain ⟨R106, e104, h⟩ := xbnd h
    refine xs_cv (i := 85) (j := 94) (ar := [xI (x1), xI (x3)]) (rest := []) (r2 := xr_94) (by decide +kernel) (by decide +kernel) (by decide +kernel) xr_94_e rfl (by decide) (by decide) e105 ?_
    refine xc_i (k94 (d := d + 0)  hx3 hx1 e104) rfl (fun hi107 => ?_)
    refine xe_isr (ins := .istore 4) (len := 2) (i := 4) (by decide +kernel) rfl rfl rfl (by decide) (xk_k (show ¬ (0 : Nat) = 4 by decide) (Or.inl (show ¬ (0 + 1 : Nat) = 4 by decide)) (xk_k (show ¬ (1 : Nat) = 4 by decide) (Or.inl (show ¬ (1 + 1 : Nat) = 4 by decide)) (xk_k (show ¬ (2 : Nat) = 4 by decide) (Or.inl (show ¬ (2 + 1 : Nat) = 4 by decide)) (xk_k (show ¬ (3 : Nat) = 4 by decide) (Or.inr (xI_cat _)) xk_n)))) rfl ?_
    refine xe_ldn (ins := .iload 4) (len := 2) (by decide +kernel) rfl rfl rfl rfl ?_
    refine xe_iconst (n := -1) (by decide +kernel) rfl ?_
    refine xe_icmpne (off := 7) (t := 38) (by decide +kernel) (by decide) rfl hi107 (show xin (-1) by decide) (fun c108 => ?_) (fun c108 => ?_)
    · rw [if_pos c108] at h
      refine xe_ldn (ins := .iload 4) (len := 2) (by decide +kernel) rfl rfl rfl rfl ?_
      refine xW_lv rfl (l := [(0, xR_ (x0)), (2, xI (x2)), (3, xI (x3))]) (xsb_of ⟨rfl, rfl, rfl, trivial⟩ (show [4, 0, 1, 2, 3].Nodup by decide)) ?_
      exact k95_40  hr4 hr12 hx2 hx3 hi107 h
    · rw [if_neg c108] at h
      refine xe_ldn (ins := .iload_n 1) (len := 1) (by decide +kernel) rfl rfl rfl rfl ?_
      refine xe_goto (off := 5) (nx := 40) (by decide +kernel) (by decide) ?_
      refine xW_lv rfl (l := [(0, xR_ (x0)), (2, xI (x2)), (3, xI (x3))]) (xsb_of ⟨rfl, rfl, rfl, trivial⟩ (show [4, 0, 1, 2, 3].Nodup by decide)) ?_
      exact k95_40  hr4 hr12 hx2 hx3 hx1 h
def f95_12  (r4 : Nat → Int → Int → xj_M → Option (Int × xj_M)) (f : Nat) : Nat → Nat → Int → Int → Int → xj_M → Option (Int × xj_M)
  | 0, _, _, _, _, _ => none
  | n + 1, x0, x1, x2, x3, M => f95_12b  r4 (f95_12  r4 f n) f x0 x1 x2 x3 M
theorem k95_12 {d f : Nat}  {r4 : Nat → Int → Int → xj_M → Option (Int × xj_M)}  (hr4 : ∀ {x0 : Nat} {x1 : Int} {x2 : Int} {M : xj_M} {R : Int × xj_M}, xin x1 → xin x2 → r4 x0 x1 x2 M = some R → xW (d + 3) (none, d + 3, none) xr_95 (4, [(0, xR_ x0), (1, xI x1), (2, xI x2)], [], M) (xQi R)) : ∀ {n : Nat} {x0 : Nat} {x1 : Int} {x2 : Int} {x3 : Int} {M : xj_M} {R : Int × xj_M}, xin x1 → xin x2 → xin x3 → f95_12  r4 f n x0 x1 x2 x3 M = some R → xW (d + 3) (none, d + 3, none) xr_95 (12, [(0, xR_ x0), (1, xI x1), (2, xI x2), (3, xI x3)], [], M) (xQi R) := by
  intro n
  induction n with
  | zero => intros; rename_i h; cases h
  | succ n ih => intros; rename_i h; exact k95_12b  hr4 ih (by assumption) (by assumption) (by assumption) h
def f95_55b  (r55 : Nat → Int → Int → xj_M → Option (Int × xj_M)) (f : Nat) (x0 : Nat) (x1 : Int) (x2 : Int) (M : xj_M) : Option (Int × xj_M) := ((xq_gi 6 6 (x0) M).bind fun v109 => (if (v109) ≤ (x2) then (some (-1, M)) else (if ¬ (xand (xshr (x1) (x2)) (1)) = 0 then r55 (x0) (x1) (xwr ((x2) + (1))) M else ((xq_gr 6 7 (x0) M).bind fun v113 => ((xq_ai 3 (v113) (x2) M).bind fun v115 => (some (v115, M)))))))
theorem k95_55b {d f : Nat}  {r55 : Nat → Int → Int → xj_M → Option (Int × xj_M)}  (hr55 : ∀ {x0 : Nat} {x1 : Int} {x2 : Int} {M : xj_M} {R : Int × xj_M}, xin x1 → xin x2 → r55 x0 x1 x2 M = some R → xW (d + 3) (none, d + 3, none) xr_95 (55, [(0, xR_ x0), (1, xI x1), (2, xI x2)], [], M) (xQi R)) {x0 : Nat} {x1 : Int} {x2 : Int} {M : xj_M} {R : Int × xj_M} (hx1 : xin x1) (hx2 : xin x2) (h : f95_55b  r55 f x0 x1 x2 M = some R) : xW (d + 3) (none, d + 3, none) xr_95 (55, [(0, xR_ x0), (1, xI x1), (2, xI x2)], [], M) (xQi R) := by
  unfold f95_55b at h
  refine xe_ldn (ins := .iload_n 2) (len := 1) (by decide +kernel) rfl rfl rfl rfl ?_
  refine xe_alr (ins := .aload_n 0) (len := 1) (i := 0) (by decide +kernel) rfl rfl rfl rfl rfl ?_
  obtain ⟨v109, e110, h⟩ := xbnd h
  refine xs_gi (i := 89) (c := 6) (k := 6) (by decide +kernel) (by decide) (by decide +kernel) e110 rfl ?_
  refine xe_icmpge (off := 24) (t := 84) (by decide +kernel) (by decide) rfl hx2 (xq_gi_in e110) (fun c111 => ?_) (fun c111 => ?_)
  · rw [if_pos c111] at h
    refine xe_iconst (n := -1) (by decide +kernel) rfl ?_
    cases h
    exact xe_ret_i (ty := .int) (by decide +kernel) rfl rfl ⟨rfl, rfl, (show xin (-1) by decide)⟩
  · rw [if_neg c111] at h
    refine xe_ldn (ins := .iload_n 1) (len := 1) (by decide +kernel) rfl rfl rfl rfl ?_
    refine xe_ldn (ins := .iload_n 2) (len := 1) (by decide +kernel) rfl rfl rfl rfl ?_
    refine xe_ishr (by decide +kernel) rfl ?_
    refine xe_iconst (n := 1) (by decide +kernel) rfl ?_
    refine xe_iand (by decide +kernel) rfl ?_
    refine xe_ifne (off := 10) (t := 78) (by decide +kernel) (by decide) rfl (xin_of _) (fun c112 => ?_) (fun c112 => ?_)
    · rw [if_pos c112] at h
      refine xe_iincr (i := 2) (n := 1) (by decide +kernel) (by decide) rfl (xk_k (show ¬ (0 : Nat) = 2 by decide) (Or.inl (show ¬ (0 + 1 : Nat) = 2 by decide)) (xk_k (show ¬ (1 : Nat) = 2 by decide) (Or.inr (xI_cat _)) (xk_d rfl xk_n))) rfl ?_
      refine xe_goto (off := -26) (nx := 55) (by decide +kernel) (by decide) ?_
      refine xW_lv rfl (l := [(0, xR_ (x0)), (1, xI (x1)), (2, xI (xwr ((x2) + (1))))]) (xsb_of ⟨rfl, rfl, rfl, trivial⟩ (show [2, 0, 1].Nodup by decide)) ?_
      exact hr55 hx1 (xin_wr _) h
    · rw [if_neg c112] at h
      refine xe_alr (ins := .aload_n 0) (len := 1) (i := 0) (by decide +kernel) rfl rfl rfl rfl rfl ?_
      obtain ⟨v113, e114, h⟩ := xbnd h
      refine xs_gr (i := 18) (c := 6) (k := 7) (by decide +kernel) (by decide) (by decide +kernel) e114 rfl ?_
      refine xe_ldn (ins := .iload_n 2) (len := 1) (by decide +kernel) rfl rfl rfl rfl ?_
      obtain ⟨v115, e116, h⟩ := xbnd h
      refine xs_iald rfl (by decide +kernel) hx2 e116 rfl ?_
      cases h
      exact xe_ret_i (ty := .int) (by decide +kernel) rfl rfl ⟨rfl, rfl, (xq_ai_in e116)⟩
def f95_55   (f : Nat) : Nat → Nat → Int → Int → xj_M → Option (Int × xj_M)
  | 0, _, _, _, _ => none
  | n + 1, x0, x1, x2, M => f95_55b   (f95_55   f n) f x0 x1 x2 M
theorem k95_55 {d f : Nat}     : ∀ {n : Nat} {x0 : Nat} {x1 : Int} {x2 : Int} {M : xj_M} {R : Int × xj_M}, xin x1 → xin x2 → f95_55   f n x0 x1 x2 M = some R → xW (d + 3) (none, d + 3, none) xr_95 (55, [(0, xR_ x0), (1, xI x1), (2, xI x2)], [], M) (xQi R) := by
  intro n
  induction n with
  | zero => intros; rename_i h; cases h
  | succ n ih => intros; rename_i h; exact k95_55b   ih (by assumption) (by assumption) h
def f95_4b  (r4 : Nat → Int → Int → xj_M → Option (Int × xj_M)) (f : Nat) (x0 : Nat) (x1 : Int) (x2 : Int) (M : xj_M) : Option (Int × xj_M) := (if (8) < (x2) then f95_55   f f (x0) (x1) (0) M else f95_12  r4 f f (x0) (x1) (x2) (0) M)
theorem k95_4b {d f : Nat}  {r4 : Nat → Int → Int → xj_M → Option (Int × xj_M)}  (hr4 : ∀ {x0 : Nat} {x1 : Int} {x2 : Int} {M : xj_M} {R : Int × xj_M}, xin x1 → xin x2 → r4 x0 x1 x2 M = some R → xW (d + 3) (none, d + 3, none) xr_95 (4, [(0, xR_ x0), (1, xI x1), (2, xI x2)], [], M) (xQi R)) {x0 : Nat} {x1 : Int} {x2 : Int} {M : xj_M} {R : Int × xj_M} (hx1 : xin x1) (hx2 : xin x2) (h : f95_4b  r4 f x0 x1 x2 M = some R) : xW (d + 3) (none, d + 3, none) xr_95 (4, [(0, xR_ x0), (1, xI x1), (2, xI x2)], [], M) (xQi R) := by
  unfold f95_4b at h
  refine xe_ldn (ins := .iload_n 2) (len := 1) (by decide +kernel) rfl rfl rfl rfl ?_
  refine xe_bipush (n := 8) (by decide +kernel) (by decide) rfl ?_
  refine xe_icmpgt (off := 46) (t := 53) (by decide +kernel) (by decide) rfl hx2 (show xin (8) by decide) (fun c117 => ?_) (fun c117 => ?_)
  · rw [if_pos c117] at h
    refine xe_iconst (n := 0) (by decide +kernel) rfl ?_
    refine xe_isr (ins := .istore_n 2) (len := 1) (i := 2) (by decide +kernel) rfl rfl rfl (by decide) (xk_k (show ¬ (0 : Nat) = 2 by decide) (Or.inl (show ¬ (0 + 1 : Nat) = 2 by decide)) (xk_k (show ¬ (1 : Nat) = 2 by decide) (Or.inr (xI_cat _)) (xk_d rfl xk_n))) rfl ?_
    refine xW_lv rfl (l := [(0, xR_ (x0)), (1, xI (x1)), (2, xI (0))]) (xsb_of ⟨rfl, rfl, rfl, trivial⟩ (show [2, 0, 1].Nodup by decide)) ?_
    exact k95_55   hx1 (show xin (0) by decide) h
  · rw [if_neg c117] at h
    refine xe_iconst (n := 0) (by decide +kernel) rfl ?_
    refine xe_isr (ins := .istore_n 3) (len := 1) (i := 3) (by decide +kernel) rfl rfl rfl (by decide) (xk_k (show ¬ (0 : Nat) = 3 by decide) (Or.inl (show ¬ (0 + 1 : Nat) = 3 by decide)) (xk_k (show ¬ (1 : Nat) = 3 by decide) (Or.inl (show ¬ (1 + 1 : Nat) = 3 by decide)) (xk_k (show ¬ (2 : Nat) = 3 by decide) (Or.inr (xI_cat _)) xk_n))) rfl ?_
    refine xW_lv rfl (l := [(0, xR_ (x0)), (1, xI (x1)), (2, xI (x2)), (3, xI (0))]) (xsb_of ⟨rfl, rfl, rfl, rfl, trivial⟩ (show [3, 0, 1, 2].Nodup by decide)) ?_
    exact k95_12  hr4 hx1 hx2 (show xin (0) by decide) h
def f95_4   (f : Nat) : Nat → Nat → Int → Int → xj_M → Option (Int × xj_M)
  | 0, _, _, _, _ => none
  | n + 1, x0, x1, x2, M => f95_4b   (f95_4   f n) f x0 x1 x2 M
theorem k95_4 {d f : Nat}     : ∀ {n : Nat} {x0 : Nat} {x1 : Int} {x2 : Int} {M : xj_M} {R : Int × xj_M}, xin x1 → xin x2 → f95_4   f n x0 x1 x2 M = some R → xW (d + 3) (none, d + 3, none) xr_95 (4, [(0, xR_ x0), (1, xI x1), (2, xI x2)], [], M) (xQi R) := by
  intro n
  induction n with
  | zero => intros; rename_i h; cases h
  | succ n ih => intros; rename_i h; exact k95_4b   ih (by assumption) (by assumption) h
def f95  (f : Nat) (a0 : Nat) (M : xj_M) : Option (Int × xj_M) := f95_4   f f (a0) (0) (0) M
theorem k95 {d f : Nat}   {a0 : Nat} {M : xj_M} {R : Int × xj_M}  (h : f95  f a0 M = some R) : xT (d + 4) 95 [xR_ a0] M (xQi R) := by
  refine xT_m xr_95_e (X := (none, d + 3, none)) rfl (xa_1 (xR_cat _) xa_n) (by decide) ?_
  unfold f95 at h
  refine xe_iconst (n := 0) (by decide +kernel) rfl ?_
  refine xe_isr (ins := .istore_n 1) (len := 1) (i := 1) (by decide +kernel) rfl rfl rfl (by decide) (xk_k (show ¬ (0 : Nat) = 1 by decide) (Or.inr (xR_cat _)) xk_n) rfl ?_
  refine xe_iconst (n := 0) (by decide +kernel) rfl ?_
  refine xe_isr (ins := .istore_n 2) (len := 1) (i := 2) (by decide +kernel) rfl rfl rfl (by decide) (xk_k (show ¬ (1 : Nat) = 2 by decide) (Or.inr (xI_cat _)) (xk_k (show ¬ (0 : Nat) = 2 by decide) (Or.inl (show ¬ (0 + 1 : Nat) = 2 by decide)) xk_n)) rfl ?_
  refine xW_lv rfl (l := [(0, xR_ (a0)), (1, xI (0)), (2, xI (0))]) (xsb_of ⟨rfl, rfl, rfl, trivial⟩ (show [2, 1, 0].Nodup by decide)) ?_
  exact k95_4   (show xin (0) by decide) (show xin (0) by decide) h
-- ChangeHouse$Rule.columnsBound
def xr_97 : xj_mR := (6, yX6_columnsBound, cX6_columnsBound, 6, (Option.some Jvm.ClassFile.FieldType.int), 2, false, (5, 188), (1, 26))
set_option maxRecDepth 20000 in
theorem xr_97_e : xj_row 97 = some xr_97 := rfl
def f97_72   (f : Nat) (x3 : Int) (M : xj_M) : Option (Int × xj_M) := (some (x3, M))
theorem k97_72 {d f : Nat}     {x3 : Int} {M : xj_M} {R : Int × xj_M} (hx3 : xin x3) (h : f97_72   f x3 M = some R) : xW (d + 0) (none, d + 0, none) xr_97 (72, [(3, xI x3)], [], M) (xQi R) := by
  unfold f97_72 at h
  refine xe_ldn (ins := .iload_n 3) (len := 1) (by decide +kernel) rfl rfl rfl rfl ?_
  cases h
  exact xe_ret_i (ty := .int) (by decide +kernel) rfl rfl ⟨rfl, rfl, hx3⟩
def f97_63  (r5 : Nat → Int → Int → Int → Int → xj_M → Option (Int × xj_M)) (f : Nat) (x0 : Nat) (x1 : Int) (x2 : Int) (x3 : Int) (x4 : Int) (M : xj_M) : Option (Int × xj_M) := r5 (x0) (x1) (x2) (xwr ((x3) + (1))) (xwr ((x4) + (1))) M
theorem k97_63 {d f : Nat}  {r5 : Nat → Int → Int → Int → Int → xj_M → Option (Int × xj_M)}  (hr5 : ∀ {x0 : Nat} {x1 : Int} {x2 : Int} {x3 : Int} {x4 : Int} {M : xj_M} {R : Int × xj_M}, xin x1 → xin x2 → xin x3 → xin x4 → r5 x0 x1 x2 x3 x4 M = some R → xW (d + 0) (none, d + 0, none) xr_97 (5, [(0, xR_ x0), (1, xI x1), (2, xI x2), (3, xI x3), (4, xI x4)], [], M) (xQi R)) {x0 : Nat} {x1 : Int} {x2 : Int} {x3 : Int} {x4 : Int} {M : xj_M} {R : Int × xj_M} (hx1 : xin x1) (hx2 : xin x2) (hx3 : xin x3) (hx4 : xin x4) (h : f97_63  r5 f x0 x1 x2 x3 x4 M = some R) : xW (d + 0) (none, d + 0, none) xr_97 (63, [(0, xR_ x0), (1, xI x1), (2, xI x2), (3, xI x3), (4, xI x4)], [], M) (xQi R) := by
  unfold f97_63 at h
  refine xe_iincr (i := 3) (n := 1) (by decide +kernel) (by decide) rfl (xk_k (show ¬ (0 : Nat) = 3 by decide) (Or.inl (show ¬ (0 + 1 : Nat) = 3 by decide)) (xk_k (show ¬ (1 : Nat) = 3 by decide) (Or.inl (show ¬ (1 + 1 : Nat) = 3 by decide)) (xk_k (show ¬ (2 : Nat) = 3 by decide) (Or.inr (xI_cat _)) (xk_d rfl (xk_k (show ¬ (4 : Nat) = 3 by decide) (Or.inl (show ¬ (4 + 1 : Nat) = 3 by decide)) xk_n))))) rfl ?_
  refine xe_iincr (i := 4) (n := 1) (by decide +kernel) (by decide) rfl (xk_k (show ¬ (3 : Nat) = 4 by decide) (Or.inr (xI_cat _)) (xk_k (show ¬ (0 : Nat) = 4 by decide) (Or.inl (show ¬ (0 + 1 : Nat) = 4 by decide)) (xk_k (show ¬ (1 : Nat) = 4 by decide) (Or.inl (show ¬ (1 + 1 : Nat) = 4 by decide)) (xk_k (show ¬ (2 : Nat) = 4 by decide) (Or.inl (show ¬ (2 + 1 : Nat) = 4 by decide)) (xk_d rfl xk_n))))) rfl ?_
  refine xe_goto (off := -64) (nx := 5) (by decide +kernel) (by decide) ?_
  refine xW_lv rfl (l := [(0, xR_ (x0)), (1, xI (x1)), (2, xI (x2)), (3, xI (xwr ((x3) + (1)))), (4, xI (xwr ((x4) + (1))))]) (xsb_of ⟨rfl, rfl, rfl, rfl, rfl, trivial⟩ (show [4, 3, 0, 1, 2].Nodup by decide)) ?_
  exact hr5 hx1 hx2 (xin_wr _) (xin_wr _) h
def f97_5b  (r5 : Nat → Int → Int → Int → Int → xj_M → Option (Int × xj_M)) (f : Nat) (x0 : Nat) (x1 : Int) (x2 : Int) (x3 : Int) (x4 : Int) (M : xj_M) : Option (Int × xj_M) := ((xq_gr 6 11 (x0) M).bind fun v101 => ((xq_ai 3 (v101) (x1) M).bind fun v103 => (if (v103) ≤ (x4) then f97_72   f (x3) M else ((xq_gr 6 12 (x0) M).bind fun v106 => ((xq_ai 3 (v106) (xwr ((xwr ((4) * (x1))) + (x4))) M).bind fun v108 => (if (v108) = (3) then f97_72   f (x3) M else (if ¬ (v108) = (2) then f97_63  r5 f (x0) (x1) (x2) (x3) (x4) M else ((xq_gr 6 13 (x0) M).bind fun v112 => ((xq_al (v112) (xwr ((xwr ((4) * (x1))) + (x4))) M).bind fun v114 => (if ¬ (xand (xshr (x2) (xwr (v114))) (1)) = 0 then f97_63  r5 f (x0) (x1) (x2) (x3) (x4) M else f97_72   f (x3) M))))))))))
theorem k97_5b {d f : Nat}  {r5 : Nat → Int → Int → Int → Int → xj_M → Option (Int × xj_M)}  (hr5 : ∀ {x0 : Nat} {x1 : Int} {x2 : Int} {x3 : Int} {x4 : Int} {M : xj_M} {R : Int × xj_M}, xin x1 → xin x2 → xin x3 → xin x4 → r5 x0 x1 x2 x3 x4 M = some R → xW (d + 0) (none, d + 0, none) xr_97 (5, [(0, xR_ x0), (1, xI x1), (2, xI x2), (3, xI x3), (4, xI x4)], [], M) (xQi R)) {x0 : Nat} {x1 : Int} {x2 : Int} {x3 : Int} {x4 : Int} {M : xj_M} {R : Int × xj_M} (hx1 : xin x1) (hx2 : xin x2) (hx3 : xin x3) (hx4 : xin x4) (h : f97_5b  r5 f x0 x1 x2 x3 x4 M = some R) : xW (d + 0) (none, d + 0, none) xr_97 (5, [(0, xR_ x0), (1, xI x1), (2, xI x2), (3, xI x3), (4, xI x4)], [], M) (xQi R) := by
  unfold f97_5b at h
  refine xe_ldn (ins := .iload 4) (len := 2) (by decide +kernel) rfl rfl rfl rfl ?_
  refine xe_alr (ins := .aload_n 0) (len := 1) (i := 0) (by decide +kernel) rfl rfl rfl rfl rfl ?_
  obtain ⟨v101, e102, h⟩ := xbnd h
  refine xs_gr (i := 28) (c := 6) (k := 11) (by decide +kernel) (by decide) (by decide +kernel) e102 rfl ?_
  refine xe_ldn (ins := .iload_n 1) (len := 1) (by decide +kernel) rfl rfl rfl rfl ?_
  obtain ⟨v103, e104, h⟩ := xbnd h
  refine xs_iald rfl (by decide +kernel) hx1 e104 rfl ?_
  refine xe_icmpge (off := 59) (t := 72) (by decide +kernel) (by decide) rfl hx4 (xq_ai_in e104) (fun c105 => ?_) (fun c105 => ?_)
  · rw [if_pos c105] at h
    refine xW_lv rfl (l := [(3, xI (x3))]) (xsb_of ⟨rfl, trivial⟩ (show [0, 1, 2, 3, 4].Nodup by decide)) ?_
    exact k97_72   hx3 h
  · rw [if_neg c105] at h
    refine xe_alr (ins := .aload_n 0) (len := 1) (i := 0) (by decide +kernel) rfl rfl rfl rfl rfl ?_
    obtain ⟨v106, e107, h⟩ := xbnd h
    refine xs_gr (i := 31) (c := 6) (k := 12) (by decide +kernel) (by decide) (by decide +kernel) e107 rfl ?_
    refine xe_iconst (n := 4) (by decide +kernel) rfl ?_
    refine xe_ldn (ins := .iload_n 1) (len := 1) (by decide +kernel) rfl rfl rfl rfl ?_
    refine xe_imul (by decide +kernel) rfl ?_
    refine xe_ldn (ins := .iload 4) (len := 2) (by decide +kernel) rfl rfl rfl rfl ?_
    refine xe_iadd (by decide +kernel) rfl ?_
    obtain ⟨v108, e109, h⟩ := xbnd h
    refine xs_iald rfl (by decide +kernel) (xin_wr _) e109 rfl ?_
    refine xe_isr (ins := .istore 5) (len := 2) (i := 5) (by decide +kernel) rfl rfl rfl (by decide) (xk_k (show ¬ (0 : Nat) = 5 by decide) (Or.inl (show ¬ (0 + 1 : Nat) = 5 by decide)) (xk_k (show ¬ (1 : Nat) = 5 by decide) (Or.inl (show ¬ (1 + 1 : Nat) = 5 by decide)) (xk_k (show ¬ (2 : Nat) = 5 by decide) (Or.inl (show ¬ (2 + 1 : Nat) = 5 by decide)) (xk_k (show ¬ (3 : Nat) = 5 by decide) (Or.inl (show ¬ (3 + 1 : Nat) = 5 by decide)) (xk_k (show ¬ (4 : Nat) = 5 by decide) (Or.inr (xI_cat _)) xk_n))))) rfl ?_
    refine xe_ldn (ins := .iload 5) (len := 2) (by decide +kernel) rfl rfl rfl rfl ?_
    refine xe_iconst (n := 3) (by decide +kernel) rfl ?_
    refine xe_icmpeq (off := 40) (t := 72) (by decide +kernel) (by decide) rfl (xq_ai_in e109) (show xin (3) by decide) (fun c110 => ?_) (fun c110 => ?_)
    · rw [if_pos c110] at h
      refine xW_lv rfl (l := [(3, xI (x3))]) (xsb_of ⟨rfl, trivial⟩ (show [5, 0, 1, 2, 3, 4].Nodup by decide)) ?_
      exact k97_72   hx3 h
    · rw [if_neg c110] at h
      refine xe_ldn (ins := .iload 5) (len := 2) (by decide +kernel) rfl rfl rfl rfl ?_
      refine xe_iconst (n := 2) (by decide +kernel) rfl ?_
      refine xe_icmpne (off := 25) (t := 63) (by decide +kernel) (by decide) rfl (xq_ai_in e109) (show xin (2) by decide) (fun c111 => ?_) (fun c111 => ?_)
      · rw [if_pos c111] at h
        refine xW_lv rfl (l := [(0, xR_ (x0)), (1, xI (x1)), (2, xI (x2)), (3, xI (x3)), (4, xI (x4))]) (xsb_of ⟨rfl, rfl, rfl, rfl, rfl, trivial⟩ (show [5, 0, 1, 2, 3, 4].Nodup by decide)) ?_
        exact k97_63  hr5 hx1 hx2 hx3 hx4 h
      · rw [if_neg c111] at h
        refine xe_ldn (ins := .iload_n 2) (len := 1) (by decide +kernel) rfl rfl rfl rfl ?_
        refine xe_alr (ins := .aload_n 0) (len := 1) (i := 0) (by decide +kernel) rfl rfl rfl rfl rfl ?_
        obtain ⟨v112, e113, h⟩ := xbnd h
        refine xs_gr (i := 34) (c := 6) (k := 13) (by decide +kernel) (by decide) (by decide +kernel) e113 rfl ?_
        refine xe_iconst (n := 4) (by decide +kernel) rfl ?_
        refine xe_ldn (ins := .iload_n 1) (len := 1) (by decide +kernel) rfl rfl rfl rfl ?_
        refine xe_imul (by decide +kernel) rfl ?_
        refine xe_ldn (ins := .iload 4) (len := 2) (by decide +kernel) rfl rfl rfl rfl ?_
        refine xe_iadd (by decide +kernel) rfl ?_
        obtain ⟨v114, e115, h⟩ := xbnd h
        refine xs_lald (by decide +kernel) (xin_wr _) e115 rfl ?_
        refine xe_l2i (by decide +kernel) rfl ?_
        refine xe_ishr (by decide +kernel) rfl ?_
        refine xe_iconst (n := 1) (by decide +kernel) rfl ?_
        refine xe_iand (by decide +kernel) rfl ?_
        refine xe_ifne (off := 6) (t := 63) (by decide +kernel) (by decide) rfl (xin_of _) (fun c116 => ?_) (fun c116 => ?_)
        · rw [if_pos c116] at h
          refine xW_lv rfl (l := [(0, xR_ (x0)), (1, xI (x1)), (2, xI (x2)), (3, xI (x3)), (4, xI (x4))]) (xsb_of ⟨rfl, rfl, rfl, rfl, rfl, trivial⟩ (show [5, 0, 1, 2, 3, 4].Nodup by decide)) ?_
          exact k97_63  hr5 hx1 hx2 hx3 hx4 h
        · rw [if_neg c116] at h
          refine xe_goto (off := 12) (nx := 72) (by decide +kernel) (by decide) ?_
          refine xW_lv rfl (l := [(3, xI (x3))]) (xsb_of ⟨rfl, trivial⟩ (show [5, 0, 1, 2, 3, 4].Nodup by decide)) ?_
          exact k97_72   hx3 h
def f97_5   (f : Nat) : Nat → Nat → Int → Int → Int → Int → xj_M → Option (Int × xj_M)
  | 0, _, _, _, _, _, _ => none
  | n + 1, x0, x1, x2, x3, x4, M => f97_5b   (f97_5   f n) f x0 x1 x2 x3 x4 M
theorem k97_5 {d f : Nat}     : ∀ {n : Nat} {x0 : Nat} {x1 : Int} {x2 : Int} {x3 : Int} {x4 : Int} {M : xj_M} {R : Int × xj_M}, xin x1 → xin x2 → xin x3 → xin x4 → f97_5   f n x0 x1 x2 x3 x4 M = some R → xW (d + 0) (none, d + 0, none) xr_97 (5, [(0, xR_ x0), (1, xI x1), (2, xI x2), (3, xI x3), (4, xI x4)], [], M) (xQi R) := by
  intro n
  induction n with
  | zero => intros; rename_i h; cases h
  | succ n ih => intros; rename_i h; exact k97_5b   ih (by assumption) (by assumption) (by assumption) (by assumption) h
def f97  (f : Nat) (a0 : Nat) (a1 : Int) (a2 : Int) (M : xj_M) : Option (Int × xj_M) := f97_5   f f (a0) (a1) (a2) (0) (0) M
theorem k97 {d f : Nat}   {a0 : Nat} {a1 : Int} {a2 : Int} {M : xj_M} {R : Int × xj_M} (ha1 : xin a1) (ha2 : xin a2) (h : f97  f a0 a1 a2 M = some R) : xT (d + 1) 97 [xR_ a0, xI a1, xI a2] M (xQi R) := by
  refine xT_m xr_97_e (X := (none, d + 0, none)) rfl (xa_1 (xR_cat _) (xa_1 (xI_cat _) (xa_1 (xI_cat _) xa_n))) (by decide) ?_
  unfold f97 at h
  refine xe_iconst (n := 0) (by decide +kernel) rfl ?_
  refine xe_isr (ins := .istore_n 3) (len := 1) (i := 3) (by decide +kernel) rfl rfl rfl (by decide) (xk_k (show ¬ (0 : Nat) = 3 by decide) (Or.inl (show ¬ (0 + 1 : Nat) = 3 by decide)) (xk_k (show ¬ (1 : Nat) = 3 by decide) (Or.inl (show ¬ (1 + 1 : Nat) = 3 by decide)) (xk_k (show ¬ (2 : Nat) = 3 by decide) (Or.inr (xI_cat _)) xk_n))) rfl ?_
  refine xe_iconst (n := 0) (by decide +kernel) rfl ?_
  refine xe_isr (ins := .istore 4) (len := 2) (i := 4) (by decide +kernel) rfl rfl rfl (by decide) (xk_k (show ¬ (3 : Nat) = 4 by decide) (Or.inr (xI_cat _)) (xk_k (show ¬ (0 : Nat) = 4 by decide) (Or.inl (show ¬ (0 + 1 : Nat) = 4 by decide)) (xk_k (show ¬ (1 : Nat) = 4 by decide) (Or.inl (show ¬ (1 + 1 : Nat) = 4 by decide)) (xk_k (show ¬ (2 : Nat) = 4 by decide) (Or.inl (show ¬ (2 + 1 : Nat) = 4 by decide)) xk_n)))) rfl ?_
  refine xW_lv rfl (l := [(0, xR_ (a0)), (1, xI (a1)), (2, xI (a2)), (3, xI (0)), (4, xI (0))]) (xsb_of ⟨rfl, rfl, rfl, rfl, rfl, trivial⟩ (show [4, 3, 0, 1, 2].Nodup by decide)) ?_
  exact k97_5   ha1 ha2 (show xin (0) by decide) (show xin (0) by decide) h
-- ChangeHouse$Sheet.<init>
def xr_98 : xj_mR := (7, yX7_init, cX7_init, 1, (Option.none : Option Jvm.ClassFile.FieldType), 0, true, (2, 65), (1, 7))
set_option maxRecDepth 20000 in
theorem xr_98_e : xj_row 98 = some xr_98 := rfl
def f98  (f : Nat) (a0 : Nat) (M : xj_M) : Option (xj_M) := ((xq_nz (a0)).bind fun _ => ((xq_na 4 (72) M).bind fun p102 => ((xq_pr 7 2 (a0) (p102.1) p102.2).bind fun M104 => ((xq_na 4 (72) M104).bind fun p106 => ((xq_pr 7 3 (a0) (p106.1) p106.2).bind fun M108 => ((xq_na 4 (32) M108).bind fun p110 => ((xq_pr 7 4 (a0) (p110.1) p110.2).bind fun M112 => (some M112))))))))
theorem k98 {d f : Nat}   {a0 : Nat} {M : xj_M} {R : xj_M}  (h : f98  f a0 M = some R) : xT (d + 1) 98 [xR_ a0] M (xQv R) := by
  refine xT_m xr_98_e (X := (none, d + 0, none)) rfl (xa_1 (xR_cat _) xa_n) (by decide) ?_
  unfold f98 at h
  refine xe_alr (ins := .aload_n 0) (len := 1) (i := 0) (by decide +kernel) rfl rfl rfl rfl rfl ?_
  obtain ⟨_, e101, h⟩ := xbnd h
  refine xe_oi (i := 3) (j := 0) (by decide +kernel) (by decide +kernel) (by rfl) (xq_nz_ne e101) rfl ?_
  refine xe_alr (ins := .aload_n 0) (len := 1) (i := 0) (by decide +kernel) rfl rfl rfl rfl rfl ?_
  refine xe_bipush (n := 72) (by decide +kernel) (by decide) rfl ?_
  obtain ⟨p102, e103, h⟩ := xbnd h
  refine xs_na (kk := 4) (ty := .long) (x := p102.1) (M1 := p102.2) (by decide +kernel) rfl (show xin (72) by decide) e103 rfl ?_
  obtain ⟨M104, e105, h⟩ := xbnd h
  refine xs_p (i := 9) (c := 7) (k := 2) (by decide +kernel) (by decide +kernel) (by decide +kernel) e105 rfl ?_
  refine xe_alr (ins := .aload_n 0) (len := 1) (i := 0) (by decide +kernel) rfl rfl rfl rfl rfl ?_
  refine xe_bipush (n := 72) (by decide +kernel) (by decide) rfl ?_
  obtain ⟨p106, e107, h⟩ := xbnd h
  refine xs_na (kk := 4) (ty := .long) (x := p106.1) (M1 := p106.2) (by decide +kernel) rfl (show xin (72) by decide) e107 rfl ?_
  obtain ⟨M108, e109, h⟩ := xbnd h
  refine xs_p (i := 15) (c := 7) (k := 3) (by decide +kernel) (by decide +kernel) (by decide +kernel) e109 rfl ?_
  refine xe_alr (ins := .aload_n 0) (len := 1) (i := 0) (by decide +kernel) rfl rfl rfl rfl rfl ?_
  refine xe_bipush (n := 32) (by decide +kernel) (by decide) rfl ?_
  obtain ⟨p110, e111, h⟩ := xbnd h
  refine xs_na (kk := 4) (ty := .long) (x := p110.1) (M1 := p110.2) (by decide +kernel) rfl (show xin (32) by decide) e111 rfl ?_
  obtain ⟨M112, e113, h⟩ := xbnd h
  refine xs_p (i := 18) (c := 7) (k := 4) (by decide +kernel) (by decide +kernel) (by decide +kernel) e113 rfl ?_
  cases h
  exact xe_ret_v (by decide +kernel) rfl ⟨rfl, rfl⟩
-- ChangeHouse$Sheet.isIn
def xr_101 : xj_mR := (7, yX7_isIn, cX7_isIn, 5, (Option.some Jvm.ClassFile.FieldType.boolean), 3, false, (7, 70), (1, 7))
set_option maxRecDepth 20000 in
theorem xr_101_e : xj_row 101 = some xr_101 := rfl
def f101_30   (f : Nat) (y0 : Int) (M : xj_M) : Option (Int × xj_M) := (if (y0) = 0 ∨ (y0) = 1 then some (y0, M) else none)
theorem k101_30 {d f : Nat}     {y0 : Int} {M : xj_M} {R : Int × xj_M} (hy0 : xin y0) (h : f101_30   f y0 M = some R) : xW (d + 0) (none, d + 0, none) xr_101 (30, [], [xI y0], M) (xQi R) := by
  unfold f101_30 at h
  by_cases c101 : (y0) = 0 ∨ (y0) = 1
  · rw [if_pos c101] at h; cases h; exact xe_ret_i (ty := .boolean) (by decide +kernel) rfl (xbool c101) ⟨rfl, rfl, hy0⟩
  · rw [if_neg c101] at h; cases h
def f101_18   (f : Nat) (y0 : Int) (M : xj_M) : Option (Int × xj_M) := (if ¬ (xand8 (y0) (1)) = (1) then f101_30   f (0) M else f101_30   f (1) M)
theorem k101_18 {d f : Nat}     {y0 : Int} {M : xj_M} {R : Int × xj_M} (hy0 : xiN y0) (h : f101_18   f y0 M = some R) : xW (d + 0) (none, d + 0, none) xr_101 (18, [], [xZ y0], M) (xQi R) := by
  unfold f101_18 at h
  refine xe_lconst (n := 1) (z := 1) (by decide +kernel) rfl rfl ?_
  refine xe_land (by decide +kernel) rfl ?_
  refine xe_lconst (n := 1) (z := 1) (by decide +kernel) rfl rfl ?_
  refine xe_lcmp (by decide +kernel) rfl (xiN_of _) (show xiN (1) by decide) ?_
  refine xe_ifne (off := 7) (t := 29) (by decide +kernel) (by decide) rfl (xin_cmp8 _ _) (fun c102 => ?_) (fun c102 => ?_)
  · have c102 := xcmp8_ne.mp c102; rw [if_pos c102] at h
    refine xe_iconst (n := 0) (by decide +kernel) rfl ?_
    refine xW_lv rfl (l := []) (xsb_of trivial (show [].Nodup by decide)) ?_
    exact k101_30   (show xin (0) by decide) h
  · have c102 := (not_congr xcmp8_ne).mp c102; rw [if_neg c102] at h
    refine xe_iconst (n := 1) (by decide +kernel) rfl ?_
    refine xe_goto (off := 4) (nx := 30) (by decide +kernel) (by decide) ?_
    refine xW_lv rfl (l := []) (xsb_of trivial (show [].Nodup by decide)) ?_
    exact k101_30   (show xin (1) by decide) h
def f101  (f : Nat) (a0 : Int) (a1 : Int) (a2 : Int) (M : xj_M) : Option (Int × xj_M) := (if (64) ≤ (a0) then f101_18   f (xshr8 (a2) (xwr ((a0) - (64)))) M else f101_18   f (xshr8 (a1) (a0)) M)
theorem k101 {d f : Nat}   {a0 : Int} {a1 : Int} {a2 : Int} {M : xj_M} {R : Int × xj_M} (ha0 : xin a0) (ha1 : xiN a1) (ha2 : xiN a2) (h : f101  f a0 a1 a2 M = some R) : xT (d + 1) 101 [xI a0, xZ a1, xZ a2] M (xQi R) := by
  refine xT_m xr_101_e (X := (none, d + 0, none)) rfl (xa_1 (xI_cat _) (xa_2 (xZ_cat _) (xa_2 (xZ_cat _) xa_n))) (by decide) ?_
  unfold f101 at h
  refine xe_ldn (ins := .iload_n 0) (len := 1) (by decide +kernel) rfl rfl rfl rfl ?_
  refine xe_bipush (n := 64) (by decide +kernel) (by decide) rfl ?_
  refine xe_icmpge (off := 9) (t := 12) (by decide +kernel) (by decide) rfl ha0 (show xin (64) by decide) (fun c103 => ?_) (fun c103 => ?_)
  · rw [if_pos c103] at h
    refine xe_ldn (ins := .lload_n 3) (len := 1) (by decide +kernel) rfl rfl rfl rfl ?_
    refine xe_ldn (ins := .iload_n 0) (len := 1) (by decide +kernel) rfl rfl rfl rfl ?_
    refine xe_bipush (n := 64) (by decide +kernel) (by decide) rfl ?_
    refine xe_isub (by decide +kernel) rfl ?_
    refine xe_lshr (by decide +kernel) rfl ?_
    refine xW_lv rfl (l := []) (xsb_of trivial (show [0, 1, 3].Nodup by decide)) ?_
    exact k101_18   (xiN_of _) h
  · rw [if_neg c103] at h
    refine xe_ldn (ins := .lload_n 1) (len := 1) (by decide +kernel) rfl rfl rfl rfl ?_
    refine xe_ldn (ins := .iload_n 0) (len := 1) (by decide +kernel) rfl rfl rfl rfl ?_
    refine xe_lshr (by decide +kernel) rfl ?_
    refine xe_goto (off := 9) (nx := 18) (by decide +kernel) (by decide) ?_
    refine xW_lv rfl (l := []) (xsb_of trivial (show [0, 1, 3].Nodup by decide)) ?_
    exact k101_18   (xiN_of _) h
-- ChangeHouse$Sheet.readsChanged
def xr_104 : xj_mR := (7, yX7_readsChanged, cX7_readsChanged, 6, (Option.some Jvm.ClassFile.FieldType.boolean), 2, false, (7, 118), (1, 7))
set_option maxRecDepth 20000 in
theorem xr_104_e : xj_row 104 = some xr_104 := rfl
def f104_18   (f : Nat) (x1 : Nat) (M : xj_M) : Option (Int × xj_M) := ((xq_gi 0 4 (x1) M).bind fun v101 => (if (v101) = 0 ∨ (v101) = 1 then some (v101, M) else none))
theorem k104_18 {d f : Nat}     {x1 : Nat} {M : xj_M} {R : Int × xj_M}  (h : f104_18   f x1 M = some R) : xW (d + 1) (none, d + 1, none) xr_104 (18, [(1, xR_ x1)], [], M) (xQi R) := by
  unfold f104_18 at h
  refine xe_alr (ins := .aload_n 1) (len := 1) (i := 1) (by decide +kernel) rfl rfl rfl rfl rfl ?_
  obtain ⟨v101, e102, h⟩ := xbnd h
  refine xs_gi (i := 101) (c := 0) (k := 4) (by decide +kernel) (by decide) (by decide +kernel) e102 rfl ?_
  by_cases c103 : (v101) = 0 ∨ (v101) = 1
  · rw [if_pos c103] at h; cases h; exact xe_ret_i (ty := .boolean) (by decide +kernel) rfl (xbool c103) ⟨rfl, rfl, (xq_gi_in e102)⟩
  · rw [if_neg c103] at h; cases h
def f104_96  (r25 : Nat → Nat → Int → Int → xj_M → Option (Int × xj_M)) (f : Nat) (x0 : Nat) (x1 : Nat) (x2 : Int) (x3 : Int) (M : xj_M) : Option (Int × xj_M) := r25 (x0) (x1) (x2) (xwr ((x3) + (1))) M
theorem k104_96 {d f : Nat}  {r25 : Nat → Nat → Int → Int → xj_M → Option (Int × xj_M)}  (hr25 : ∀ {x0 : Nat} {x1 : Nat} {x2 : Int} {x3 : Int} {M : xj_M} {R : Int × xj_M}, xin x2 → xin x3 → r25 x0 x1 x2 x3 M = some R → xW (d + 1) (none, d + 1, none) xr_104 (25, [(0, xR_ x0), (1, xR_ x1), (2, xI x2), (3, xI x3)], [], M) (xQi R)) {x0 : Nat} {x1 : Nat} {x2 : Int} {x3 : Int} {M : xj_M} {R : Int × xj_M} (hx2 : xin x2) (hx3 : xin x3) (h : f104_96  r25 f x0 x1 x2 x3 M = some R) : xW (d + 1) (none, d + 1, none) xr_104 (96, [(0, xR_ x0), (1, xR_ x1), (2, xI x2), (3, xI x3)], [], M) (xQi R) := by
  unfold f104_96 at h
  refine xe_iincr (i := 3) (n := 1) (by decide +kernel) (by decide) rfl (xk_k (show ¬ (0 : Nat) = 3 by decide) (Or.inl (show ¬ (0 + 1 : Nat) = 3 by decide)) (xk_k (show ¬ (1 : Nat) = 3 by decide) (Or.inl (show ¬ (1 + 1 : Nat) = 3 by decide)) (xk_k (show ¬ (2 : Nat) = 3 by decide) (Or.inr (xI_cat _)) (xk_d rfl xk_n)))) rfl ?_
  refine xe_goto (off := -74) (nx := 25) (by decide +kernel) (by decide) ?_
  refine xW_lv rfl (l := [(0, xR_ (x0)), (1, xR_ (x1)), (2, xI (x2)), (3, xI (xwr ((x3) + (1))))]) (xsb_of ⟨rfl, rfl, rfl, rfl, trivial⟩ (show [3, 0, 1, 2].Nodup by decide)) ?_
  exact hr25 hx2 (xin_wr _) h
def f104_25b  (r25 : Nat → Nat → Int → Int → xj_M → Option (Int × xj_M)) (f : Nat) (x0 : Nat) (x1 : Nat) (x2 : Int) (x3 : Int) (M : xj_M) : Option (Int × xj_M) := ((xq_gr 0 0 (x1) M).bind fun v104 => ((xq_ln (v104) M).bind fun v106 => (if (v106) ≤ (x3) then (some (0, M)) else ((xq_gr 0 0 (x1) M).bind fun v109 => ((xq_ai 3 (v109) (x3) M).bind fun v111 => (if (xand (v111) (255)) < (10) then f104_96  r25 f (x0) (x1) (x2) (x3) M else (if (13) < (xand (v111) (255)) then f104_96  r25 f (x0) (x1) (x2) (x3) M else ((xq_gr 7 0 (x0) M).bind fun v115 => ((xq_gr 2 0 (v115) M).bind fun v117 => ((xq_gr 0 1 (x1) M).bind fun v119 => ((xq_al (v119) (x3) M).bind fun v121 => ((xq_is 3 (v117) M).bind fun _ => ((f20  f (v117) (v121) M).bind fun R125 => (if (R125.1) = (-1) then f104_96  r25 f (x0) (x1) (x2) (x3) R125.2 else (if ¬ (xand (xshr (x2) (R125.1)) (1)) = (1) then f104_96  r25 f (x0) (x1) (x2) (x3) R125.2 else (some (1, R125.2)))))))))))))))))
theorem k104_25b {d f : Nat}  {r25 : Nat → Nat → Int → Int → xj_M → Option (Int × xj_M)}  (hr25 : ∀ {x0 : Nat} {x1 : Nat} {x2 : Int} {x3 : Int} {M : xj_M} {R : Int × xj_M}, xin x2 → xin x3 → r25 x0 x1 x2 x3 M = some R → xW (d + 1) (none, d + 1, none) xr_104 (25, [(0, xR_ x0), (1, xR_ x1), (2, xI x2), (3, xI x3)], [], M) (xQi R)) {x0 : Nat} {x1 : Nat} {x2 : Int} {x3 : Int} {M : xj_M} {R : Int × xj_M} (hx2 : xin x2) (hx3 : xin x3) (h : f104_25b  r25 f x0 x1 x2 x3 M = some R) : xW (d + 1) (none, d + 1, none) xr_104 (25, [(0, xR_ x0), (1, xR_ x1), (2, xI x2), (3, xI x3)], [], M) (xQi R) := by
  unfold f104_25b at h
  refine xe_ldn (ins := .iload_n 3) (len := 1) (by decide +kernel) rfl rfl rfl rfl ?_
  refine xe_alr (ins := .aload_n 1) (len := 1) (i := 1) (by decide +kernel) rfl rfl rfl rfl rfl ?_
  obtain ⟨v104, e105, h⟩ := xbnd h
  refine xs_gr (i := 105) (c := 0) (k := 0) (by decide +kernel) (by decide) (by decide +kernel) e105 rfl ?_
  obtain ⟨v106, e107, h⟩ := xbnd h
  refine xs_alen rfl (by decide +kernel) e107 rfl ?_
  refine xe_icmpge (off := 71) (t := 102) (by decide +kernel) (by decide) rfl hx3 (xq_ln_in e107) (fun c108 => ?_) (fun c108 => ?_)
  · rw [if_pos c108] at h
    refine xe_iconst (n := 0) (by decide +kernel) rfl ?_
    cases h
    exact xe_ret_i (ty := .boolean) (by decide +kernel) rfl (by decide) ⟨rfl, rfl, (show xin (0) by decide)⟩
  · rw [if_neg c108] at h
    refine xe_alr (ins := .aload_n 1) (len := 1) (i := 1) (by decide +kernel) rfl rfl rfl rfl rfl ?_
    obtain ⟨v109, e110, h⟩ := xbnd h
    refine xs_gr (i := 105) (c := 0) (k := 0) (by decide +kernel) (by decide) (by decide +kernel) e110 rfl ?_
    refine xe_ldn (ins := .iload_n 3) (len := 1) (by decide +kernel) rfl rfl rfl rfl ?_
    obtain ⟨v111, e112, h⟩ := xbnd h
    refine xs_iald rfl (by decide +kernel) hx3 e112 rfl ?_
    refine xe_sipush (n := 255) (by decide +kernel) (by decide) rfl ?_
    refine xe_iand (by decide +kernel) rfl ?_
    refine xe_isr (ins := .istore 4) (len := 2) (i := 4) (by decide +kernel) rfl rfl rfl (by decide) (xk_k (show ¬ (0 : Nat) = 4 by decide) (Or.inl (show ¬ (0 + 1 : Nat) = 4 by decide)) (xk_k (show ¬ (1 : Nat) = 4 by decide) (Or.inl (show ¬ (1 + 1 : Nat) = 4 by decide)) (xk_k (show ¬ (2 : Nat) = 4 by decide) (Or.inl (show ¬ (2 + 1 : Nat) = 4 by decide)) (xk_k (show ¬ (3 : Nat) = 4 by decide) (Or.inr (xI_cat _)) xk_n)))) rfl ?_
    refine xe_ldn (ins := .iload 4) (len := 2) (by decide +kernel) rfl rfl rfl rfl ?_
    refine xe_bipush (n := 10) (by decide +kernel) (by decide) rfl ?_
    refine xe_icmplt (off := 46) (t := 96) (by decide +kernel) (by decide) rfl (xin_of _) (show xin (10) by decide) (fun c113 => ?_) (fun c113 => ?_)
    · rw [if_pos c113] at h
      refine xW_lv rfl (l := [(0, xR_ (x0)), (1, xR_ (x1)), (2, xI (x2)), (3, xI (x3))]) (xsb_of ⟨rfl, rfl, rfl, rfl, trivial⟩ (show [4, 0, 1, 2, 3].Nodup by decide)) ?_
      exact k104_96  hr25 hx2 hx3 h
    · rw [if_neg c113] at h
      refine xe_ldn (ins := .iload 4) (len := 2) (by decide +kernel) rfl rfl rfl rfl ?_
      refine xe_bipush (n := 13) (by decide +kernel) (by decide) rfl ?_
      refine xe_icmpgt (off := 39) (t := 96) (by decide +kernel) (by decide) rfl (xin_of _) (show xin (13) by decide) (fun c114 => ?_) (fun c114 => ?_)
      · rw [if_pos c114] at h
        refine xW_lv rfl (l := [(0, xR_ (x0)), (1, xR_ (x1)), (2, xI (x2)), (3, xI (x3))]) (xsb_of ⟨rfl, rfl, rfl, rfl, trivial⟩ (show [4, 0, 1, 2, 3].Nodup by decide)) ?_
        exact k104_96  hr25 hx2 hx3 h
      · rw [if_neg c114] at h
        refine xe_alr (ins := .aload_n 0) (len := 1) (i := 0) (by decide +kernel) rfl rfl rfl rfl rfl ?_
        obtain ⟨v115, e116, h⟩ := xbnd h
        refine xs_gr (i := 21) (c := 7) (k := 0) (by decide +kernel) (by decide) (by decide +kernel) e116 rfl ?_
        obtain ⟨v117, e118, h⟩ := xbnd h
        refine xs_gr (i := 108) (c := 2) (k := 0) (by decide +kernel) (by decide) (by decide +kernel) e118 rfl ?_
        refine xe_alr (ins := .aload_n 1) (len := 1) (i := 1) (by decide +kernel) rfl rfl rfl rfl rfl ?_
        obtain ⟨v119, e120, h⟩ := xbnd h
        refine xs_gr (i := 112) (c := 0) (k := 1) (by decide +kernel) (by decide) (by decide +kernel) e120 rfl ?_
        refine xe_ldn (ins := .iload_n 3) (len := 1) (by decide +kernel) rfl rfl rfl rfl ?_
        obtain ⟨v121, e122, h⟩ := xbnd h
        refine xs_lald (by decide +kernel) hx3 e122 rfl ?_
        obtain ⟨_, e124, h⟩ := xbnd h
        obtain ⟨R125, e123, h⟩ := xbnd h
        refine xs_cv (i := 115) (j := 20) (ar := [xZ (v121)]) (rest := []) (r2 := xr_20) (by decide +kernel) (by decide +kernel) (by decide +kernel) xr_20_e rfl (by decide) (by decide) e124 ?_
        refine xc_i (k20 (d := d + 0)  (xq_al_in e122) e123) rfl (fun hi126 => ?_)
        refine xe_isr (ins := .istore 5) (len := 2) (i := 5) (by decide +kernel) rfl rfl rfl (by decide) (xk_k (show ¬ (4 : Nat) = 5 by decide) (Or.inr (xI_cat _)) (xk_k (show ¬ (0 : Nat) = 5 by decide) (Or.inl (show ¬ (0 + 1 : Nat) = 5 by decide)) (xk_k (show ¬ (1 : Nat) = 5 by decide) (Or.inl (show ¬ (1 + 1 : Nat) = 5 by decide)) (xk_k (show ¬ (2 : Nat) = 5 by decide) (Or.inl (show ¬ (2 + 1 : Nat) = 5 by decide)) (xk_k (show ¬ (3 : Nat) = 5 by decide) (Or.inl (show ¬ (3 + 1 : Nat) = 5 by decide)) xk_n))))) rfl ?_
        refine xe_ldn (ins := .iload 5) (len := 2) (by decide +kernel) rfl rfl rfl rfl ?_
        refine xe_iconst (n := -1) (by decide +kernel) rfl ?_
        refine xe_icmpeq (off := 15) (t := 96) (by decide +kernel) (by decide) rfl hi126 (show xin (-1) by decide) (fun c127 => ?_) (fun c127 => ?_)
        · rw [if_pos c127] at h
          refine xW_lv rfl (l := [(0, xR_ (x0)), (1, xR_ (x1)), (2, xI (x2)), (3, xI (x3))]) (xsb_of ⟨rfl, rfl, rfl, rfl, trivial⟩ (show [5, 4, 0, 1, 2, 3].Nodup by decide)) ?_
          exact k104_96  hr25 hx2 hx3 h
        · rw [if_neg c127] at h
          refine xe_ldn (ins := .iload_n 2) (len := 1) (by decide +kernel) rfl rfl rfl rfl ?_
          refine xe_ldn (ins := .iload 5) (len := 2) (by decide +kernel) rfl rfl rfl rfl ?_
          refine xe_ishr (by decide +kernel) rfl ?_
          refine xe_iconst (n := 1) (by decide +kernel) rfl ?_
          refine xe_iand (by decide +kernel) rfl ?_
          refine xe_iconst (n := 1) (by decide +kernel) rfl ?_
          refine xe_icmpne (off := 5) (t := 96) (by decide +kernel) (by decide) rfl (xin_of _) (show xin (1) by decide) (fun c128 => ?_) (fun c128 => ?_)
          · rw [if_pos c128] at h
            refine xW_lv rfl (l := [(0, xR_ (x0)), (1, xR_ (x1)), (2, xI (x2)), (3, xI (x3))]) (xsb_of ⟨rfl, rfl, rfl, rfl, trivial⟩ (show [5, 4, 0, 1, 2, 3].Nodup by decide)) ?_
            exact k104_96  hr25 hx2 hx3 h
          · rw [if_neg c128] at h
            refine xe_iconst (n := 1) (by decide +kernel) rfl ?_
            cases h
            exact xe_ret_i (ty := .boolean) (by decide +kernel) rfl (by decide) ⟨rfl, rfl, (show xin (1) by decide)⟩
def f104_25   (f : Nat) : Nat → Nat → Nat → Int → Int → xj_M → Option (Int × xj_M)
  | 0, _, _, _, _, _ => none
  | n + 1, x0, x1, x2, x3, M => f104_25b   (f104_25   f n) f x0 x1 x2 x3 M
theorem k104_25 {d f : Nat}     : ∀ {n : Nat} {x0 : Nat} {x1 : Nat} {x2 : Int} {x3 : Int} {M : xj_M} {R : Int × xj_M}, xin x2 → xin x3 → f104_25   f n x0 x1 x2 x3 M = some R → xW (d + 1) (none, d + 1, none) xr_104 (25, [(0, xR_ x0), (1, xR_ x1), (2, xI x2), (3, xI x3)], [], M) (xQi R) := by
  intro n
  induction n with
  | zero => intros; rename_i h; cases h
  | succ n ih => intros; rename_i h; exact k104_25b   ih (by assumption) (by assumption) h
def f104  (f : Nat) (a0 : Nat) (a1 : Nat) (a2 : Int) (M : xj_M) : Option (Int × xj_M) := ((xq_gi 0 4 (a1) M).bind fun v129 => (if (v129) = 0 then f104_18   f (a1) M else ((xq_gr 7 0 (a0) M).bind fun v132 => ((xq_gi 2 6 (v132) M).bind fun v134 => (if ¬ (v134) = (1) then f104_25   f f (a0) (a1) (a2) (0) M else f104_18   f (a1) M)))))
theorem k104 {d f : Nat}   {a0 : Nat} {a1 : Nat} {a2 : Int} {M : xj_M} {R : Int × xj_M} (ha2 : xin a2) (h : f104  f a0 a1 a2 M = some R) : xT (d + 2) 104 [xR_ a0, xR_ a1, xI a2] M (xQi R) := by
  refine xT_m xr_104_e (X := (none, d + 1, none)) rfl (xa_1 (xR_cat _) (xa_1 (xR_cat _) (xa_1 (xI_cat _) xa_n))) (by decide) ?_
  unfold f104 at h
  refine xe_alr (ins := .aload_n 1) (len := 1) (i := 1) (by decide +kernel) rfl rfl rfl rfl rfl ?_
  obtain ⟨v129, e130, h⟩ := xbnd h
  refine xs_gi (i := 101) (c := 0) (k := 4) (by decide +kernel) (by decide) (by decide +kernel) e130 rfl ?_
  refine xe_ifeq (off := 14) (t := 18) (by decide +kernel) (by decide) rfl (xq_gi_in e130) (fun c131 => ?_) (fun c131 => ?_)
  · rw [if_pos c131] at h
    refine xW_lv rfl (l := [(1, xR_ (a1))]) (xsb_of ⟨rfl, trivial⟩ (show [0, 1, 2].Nodup by decide)) ?_
    exact k104_18    h
  · rw [if_neg c131] at h
    refine xe_alr (ins := .aload_n 0) (len := 1) (i := 0) (by decide +kernel) rfl rfl rfl rfl rfl ?_
    obtain ⟨v132, e133, h⟩ := xbnd h
    refine xs_gr (i := 21) (c := 7) (k := 0) (by decide +kernel) (by decide) (by decide +kernel) e133 rfl ?_
    obtain ⟨v134, e135, h⟩ := xbnd h
    refine xs_gi (i := 52) (c := 2) (k := 6) (by decide +kernel) (by decide) (by decide +kernel) e135 rfl ?_
    refine xe_iconst (n := 1) (by decide +kernel) rfl ?_
    refine xe_icmpne (off := 8) (t := 23) (by decide +kernel) (by decide) rfl (xq_gi_in e135) (show xin (1) by decide) (fun c136 => ?_) (fun c136 => ?_)
    · rw [if_pos c136] at h
      refine xe_iconst (n := 0) (by decide +kernel) rfl ?_
      refine xe_isr (ins := .istore_n 3) (len := 1) (i := 3) (by decide +kernel) rfl rfl rfl (by decide) (xk_k (show ¬ (0 : Nat) = 3 by decide) (Or.inl (show ¬ (0 + 1 : Nat) = 3 by decide)) (xk_k (show ¬ (1 : Nat) = 3 by decide) (Or.inl (show ¬ (1 + 1 : Nat) = 3 by decide)) (xk_k (show ¬ (2 : Nat) = 3 by decide) (Or.inr (xI_cat _)) xk_n))) rfl ?_
      refine xW_lv rfl (l := [(0, xR_ (a0)), (1, xR_ (a1)), (2, xI (a2)), (3, xI (0))]) (xsb_of ⟨rfl, rfl, rfl, rfl, trivial⟩ (show [3, 0, 1, 2].Nodup by decide)) ?_
      exact k104_25   ha2 (show xin (0) by decide) h
    · rw [if_neg c136] at h
      refine xW_lv rfl (l := [(1, xR_ (a1))]) (xsb_of ⟨rfl, trivial⟩ (show [0, 1, 2].Nodup by decide)) ?_
      exact k104_18    h
-- ChangeHouse$Sheet.bounded
def xr_108 : xj_mR := (7, yX7_bounded, cX7_bounded, 2, (Option.some Jvm.ClassFile.FieldType.long), 1, false, (7, 98), (1, 7))
set_option maxRecDepth 20000 in
theorem xr_108_e : xj_row 108 = some xr_108 := rfl
def f108_23   (f : Nat) (y0 : Int) (M : xj_M) : Option (Int × xj_M) := (some (y0, M))
theorem k108_23 {d f : Nat}     {y0 : Int} {M : xj_M} {R : Int × xj_M} (hy0 : xiN y0) (h : f108_23   f y0 M = some R) : xW (d + 0) (none, d + 0, none) xr_108 (23, [], [xZ y0], M) (xQl R) := by
  unfold f108_23 at h
  cases h
  exact xe_ret_l (by decide +kernel) rfl ⟨rfl, rfl, hy0⟩
def f108_16   (f : Nat)  (M : xj_M) : Option (Int × xj_M) := f108_23   f (-8999999999999999997) M
theorem k108_16 {d f : Nat}      {M : xj_M} {R : Int × xj_M}  (h : f108_16   f  M = some R) : xW (d + 0) (none, d + 0, none) xr_108 (16, [], [], M) (xQl R) := by
  unfold f108_16 at h
  refine xe_ldc2 (i := 150) (n := -8999999999999999997) (by decide +kernel) (by decide +kernel) rfl ?_
  refine xe_goto (off := 4) (nx := 23) (by decide +kernel) (by decide) ?_
  refine xW_lv rfl (l := []) (xsb_of trivial (show [].Nodup by decide)) ?_
  exact k108_23   (show xiN (-8999999999999999997) by decide) h
def f108  (f : Nat) (a0 : Int) (M : xj_M) : Option (Int × xj_M) := (if (1000000000000) < (a0) then f108_16   f  M else (if (-1000000000000) ≤ (a0) then f108_23   f (a0) M else f108_16   f  M))
theorem k108 {d f : Nat}   {a0 : Int} {M : xj_M} {R : Int × xj_M} (ha0 : xiN a0) (h : f108  f a0 M = some R) : xT (d + 1) 108 [xZ a0] M (xQl R) := by
  refine xT_m xr_108_e (X := (none, d + 0, none)) rfl (xa_2 (xZ_cat _) xa_n) (by decide) ?_
  unfold f108 at h
  refine xe_ldn (ins := .lload_n 0) (len := 1) (by decide +kernel) rfl rfl rfl rfl ?_
  refine xe_ldc2 (i := 144) (n := 1000000000000) (by decide +kernel) (by decide +kernel) rfl ?_
  refine xe_lcmp (by decide +kernel) rfl ha0 (show xiN (1000000000000) by decide) ?_
  refine xe_ifgt (off := 11) (t := 16) (by decide +kernel) (by decide) rfl (xin_cmp8 _ _) (fun c101 => ?_) (fun c101 => ?_)
  · have c101 := xcmp8_gt.mp c101; rw [if_pos c101] at h
    refine xW_lv rfl (l := []) (xsb_of trivial (show [0].Nodup by decide)) ?_
    exact k108_16    h
  · have c101 := (not_congr xcmp8_gt).mp c101; rw [if_neg c101] at h
    refine xe_ldn (ins := .lload_n 0) (len := 1) (by decide +kernel) rfl rfl rfl rfl ?_
    refine xe_ldc2 (i := 121) (n := -1000000000000) (by decide +kernel) (by decide +kernel) rfl ?_
    refine xe_lcmp (by decide +kernel) rfl ha0 (show xiN (-1000000000000) by decide) ?_
    refine xe_ifge (off := 9) (t := 22) (by decide +kernel) (by decide) rfl (xin_cmp8 _ _) (fun c102 => ?_) (fun c102 => ?_)
    · have c102 := xcmp8_ge.mp c102; rw [if_pos c102] at h
      refine xe_ldn (ins := .lload_n 0) (len := 1) (by decide +kernel) rfl rfl rfl rfl ?_
      refine xW_lv rfl (l := []) (xsb_of trivial (show [0].Nodup by decide)) ?_
      exact k108_23   ha0 h
    · have c102 := (not_congr xcmp8_ge).mp c102; rw [if_neg c102] at h
      refine xW_lv rfl (l := []) (xsb_of trivial (show [0].Nodup by decide)) ?_
      exact k108_16    h
-- ChangeHouse$Sheet.overRows
def xr_109 : xj_mR := (7, yX7_overRows, cX7_overRows, 12, (Option.some Jvm.ClassFile.FieldType.long), 3, false, (7, 103), (1, 7))
set_option maxRecDepth 20000 in
theorem xr_109_e : xj_row 109 = some xr_109 := rfl
def f109_36   (f : Nat)  (M : xj_M) : Option (Int × xj_M) := (some (-8999999999999999996, M))
theorem k109_36 {d f : Nat}      {M : xj_M} {R : Int × xj_M}  (h : f109_36   f  M = some R) : xW (d + 1) (none, d + 1, none) xr_109 (36, [], [], M) (xQl R) := by
  unfold f109_36 at h
  refine xe_ldc2 (i := 155) (n := -8999999999999999996) (by decide +kernel) (by decide +kernel) rfl ?_
  cases h
  exact xe_ret_l (by decide +kernel) rfl ⟨rfl, rfl, (show xiN (-8999999999999999996) by decide)⟩
def f109_157  (r71 : Int → Int → Nat → Int → Int → xj_M → Option (Int × xj_M)) (f : Nat) (x1 : Int) (x2 : Int) (x6 : Nat) (x7 : Int) (x9 : Int) (M : xj_M) : Option (Int × xj_M) := r71 (x1) (x2) (x6) (x7) (xwr ((x9) + (1))) M
theorem k109_157 {d f : Nat}  {r71 : Int → Int → Nat → Int → Int → xj_M → Option (Int × xj_M)}  (hr71 : ∀ {x1 : Int} {x2 : Int} {x6 : Nat} {x7 : Int} {x9 : Int} {M : xj_M} {R : Int × xj_M}, xin x1 → xin x2 → xiN x7 → xin x9 → r71 x1 x2 x6 x7 x9 M = some R → xW (d + 1) (none, d + 1, none) xr_109 (71, [(1, xI x1), (2, xI x2), (6, xR_ x6), (7, xZ x7), (9, xI x9)], [], M) (xQl R)) {x1 : Int} {x2 : Int} {x6 : Nat} {x7 : Int} {x9 : Int} {M : xj_M} {R : Int × xj_M} (hx1 : xin x1) (hx2 : xin x2) (hx7 : xiN x7) (hx9 : xin x9) (h : f109_157  r71 f x1 x2 x6 x7 x9 M = some R) : xW (d + 1) (none, d + 1, none) xr_109 (157, [(1, xI x1), (2, xI x2), (6, xR_ x6), (7, xZ x7), (9, xI x9)], [], M) (xQl R) := by
  unfold f109_157 at h
  refine xe_iincr (i := 9) (n := 1) (by decide +kernel) (by decide) rfl (xk_k (show ¬ (1 : Nat) = 9 by decide) (Or.inl (show ¬ (1 + 1 : Nat) = 9 by decide)) (xk_k (show ¬ (2 : Nat) = 9 by decide) (Or.inl (show ¬ (2 + 1 : Nat) = 9 by decide)) (xk_k (show ¬ (6 : Nat) = 9 by decide) (Or.inl (show ¬ (6 + 1 : Nat) = 9 by decide)) (xk_k (show ¬ (7 : Nat) = 9 by decide) (Or.inl (show ¬ (7 + 1 : Nat) = 9 by decide)) (xk_d rfl xk_n))))) rfl ?_
  refine xe_goto (off := -89) (nx := 71) (by decide +kernel) (by decide) ?_
  refine xW_lv rfl (l := [(1, xI (x1)), (2, xI (x2)), (6, xR_ (x6)), (7, xZ (x7)), (9, xI (xwr ((x9) + (1))))]) (xsb_of ⟨rfl, rfl, rfl, rfl, rfl, trivial⟩ (show [9, 1, 2, 6, 7].Nodup by decide)) ?_
  exact hr71 hx1 hx2 hx7 (xin_wr _) h
def f109_114  (r71 : Int → Int → Nat → Int → Int → xj_M → Option (Int × xj_M)) (f : Nat) (x1 : Int) (x2 : Int) (x6 : Nat) (x9 : Int) (y0 : Int) (y1 : Int) (M : xj_M) : Option (Int × xj_M) := f109_157  r71 f (x1) (x2) (x6) (xwl ((y1) + (y0))) (x9) M
theorem k109_114 {d f : Nat}  {r71 : Int → Int → Nat → Int → Int → xj_M → Option (Int × xj_M)}  (hr71 : ∀ {x1 : Int} {x2 : Int} {x6 : Nat} {x7 : Int} {x9 : Int} {M : xj_M} {R : Int × xj_M}, xin x1 → xin x2 → xiN x7 → xin x9 → r71 x1 x2 x6 x7 x9 M = some R → xW (d + 1) (none, d + 1, none) xr_109 (71, [(1, xI x1), (2, xI x2), (6, xR_ x6), (7, xZ x7), (9, xI x9)], [], M) (xQl R)) {x1 : Int} {x2 : Int} {x6 : Nat} {x9 : Int} {y0 : Int} {y1 : Int} {M : xj_M} {R : Int × xj_M} (hx1 : xin x1) (hx2 : xin x2) (hx9 : xin x9) (hy0 : xiN y0) (hy1 : xiN y1) (h : f109_114  r71 f x1 x2 x6 x9 y0 y1 M = some R) : xW (d + 1) (none, d + 1, none) xr_109 (114, [(1, xI x1), (2, xI x2), (6, xR_ x6), (9, xI x9)], [xZ y0, xZ y1], M) (xQl R) := by
  unfold f109_114 at h
  refine xe_ladd (by decide +kernel) rfl ?_
  refine xe_lsr (ins := .lstore 7) (len := 2) (i := 7) (by decide +kernel) rfl rfl rfl (by decide) (xk2_k (show ¬ (1 : Nat) = 7 by decide) (show ¬ (1 : Nat) = 7 + 1 by decide) (Or.inl (show ¬ (1 + 1 : Nat) = 7 by decide)) (xk2_k (show ¬ (2 : Nat) = 7 by decide) (show ¬ (2 : Nat) = 7 + 1 by decide) (Or.inl (show ¬ (2 + 1 : Nat) = 7 by decide)) (xk2_k (show ¬ (6 : Nat) = 7 by decide) (show ¬ (6 : Nat) = 7 + 1 by decide) (Or.inr (xR_cat _)) (xk2_k (show ¬ (9 : Nat) = 7 by decide) (show ¬ (9 : Nat) = 7 + 1 by decide) (Or.inl (show ¬ (9 + 1 : Nat) = 7 by decide)) xk2_n)))) rfl ?_
  refine xe_goto (off := 40) (nx := 157) (by decide +kernel) (by decide) ?_
  refine xW_lv rfl (l := [(1, xI (x1)), (2, xI (x2)), (6, xR_ (x6)), (7, xZ (xwl ((y1) + (y0)))), (9, xI (x9))]) (xsb_of ⟨rfl, rfl, rfl, rfl, rfl, trivial⟩ (show [7, 1, 2, 6, 9].Nodup by decide)) ?_
  exact k109_157  hr71 hx1 hx2 (xiN_wl _) hx9 h
def f109_155  (r71 : Int → Int → Nat → Int → Int → xj_M → Option (Int × xj_M)) (f : Nat) (x1 : Int) (x2 : Int) (x6 : Nat) (x9 : Int) (y0 : Int) (M : xj_M) : Option (Int × xj_M) := f109_157  r71 f (x1) (x2) (x6) (y0) (x9) M
theorem k109_155 {d f : Nat}  {r71 : Int → Int → Nat → Int → Int → xj_M → Option (Int × xj_M)}  (hr71 : ∀ {x1 : Int} {x2 : Int} {x6 : Nat} {x7 : Int} {x9 : Int} {M : xj_M} {R : Int × xj_M}, xin x1 → xin x2 → xiN x7 → xin x9 → r71 x1 x2 x6 x7 x9 M = some R → xW (d + 1) (none, d + 1, none) xr_109 (71, [(1, xI x1), (2, xI x2), (6, xR_ x6), (7, xZ x7), (9, xI x9)], [], M) (xQl R)) {x1 : Int} {x2 : Int} {x6 : Nat} {x9 : Int} {y0 : Int} {M : xj_M} {R : Int × xj_M} (hx1 : xin x1) (hx2 : xin x2) (hx9 : xin x9) (hy0 : xiN y0) (h : f109_155  r71 f x1 x2 x6 x9 y0 M = some R) : xW (d + 1) (none, d + 1, none) xr_109 (155, [(1, xI x1), (2, xI x2), (6, xR_ x6), (9, xI x9)], [xZ y0], M) (xQl R) := by
  unfold f109_155 at h
  refine xe_lsr (ins := .lstore 7) (len := 2) (i := 7) (by decide +kernel) rfl rfl rfl (by decide) (xk2_k (show ¬ (1 : Nat) = 7 by decide) (show ¬ (1 : Nat) = 7 + 1 by decide) (Or.inl (show ¬ (1 + 1 : Nat) = 7 by decide)) (xk2_k (show ¬ (2 : Nat) = 7 by decide) (show ¬ (2 : Nat) = 7 + 1 by decide) (Or.inl (show ¬ (2 + 1 : Nat) = 7 by decide)) (xk2_k (show ¬ (6 : Nat) = 7 by decide) (show ¬ (6 : Nat) = 7 + 1 by decide) (Or.inr (xR_cat _)) (xk2_k (show ¬ (9 : Nat) = 7 by decide) (show ¬ (9 : Nat) = 7 + 1 by decide) (Or.inl (show ¬ (9 + 1 : Nat) = 7 by decide)) xk2_n)))) rfl ?_
  refine xW_lv rfl (l := [(1, xI (x1)), (2, xI (x2)), (6, xR_ (x6)), (7, xZ (y0)), (9, xI (x9))]) (xsb_of ⟨rfl, rfl, rfl, rfl, rfl, trivial⟩ (show [7, 1, 2, 6, 9].Nodup by decide)) ?_
  exact k109_157  hr71 hx1 hx2 hy0 hx9 h
def f109_179   (f : Nat) (y0 : Int) (M : xj_M) : Option (Int × xj_M) := (some (y0, M))
theorem k109_179 {d f : Nat}     {y0 : Int} {M : xj_M} {R : Int × xj_M} (hy0 : xiN y0) (h : f109_179   f y0 M = some R) : xW (d + 1) (none, d + 1, none) xr_109 (179, [], [xZ y0], M) (xQl R) := by
  unfold f109_179 at h
  cases h
  exact xe_ret_l (by decide +kernel) rfl ⟨rfl, rfl, hy0⟩
def f109_71b  (r71 : Int → Int → Nat → Int → Int → xj_M → Option (Int × xj_M)) (f : Nat) (x1 : Int) (x2 : Int) (x6 : Nat) (x7 : Int) (x9 : Int) (M : xj_M) : Option (Int × xj_M) := ((xq_gi 5 1 (x6) M).bind fun v101 => (if (v101) ≤ (x9) then (if ¬ (x1) = (11) then f109_179   f (x7) M else ((f108  f (x7) M).bind fun R106 => f109_179   f (R106.1) R106.2)) else ((xq_is 5 (x6) M).bind fun _ => ((f70  f (x6) (x9) (x2) M).bind fun R110 => (if ¬ (x1) = (11) then (if ¬ (x9) = 0 then (if ¬ (x1) = (12) then f109_155  r71 f (x1) (x2) (x6) (x9) (xmax (x7) (R110.1)) R110.2 else f109_155  r71 f (x1) (x2) (x6) (x9) (xmin (x7) (R110.1)) R110.2) else f109_157  r71 f (x1) (x2) (x6) (R110.1) (x9) R110.2) else (if (R110.1) ≤ (1000000000000) then f109_114  r71 f (x1) (x2) (x6) (x9) (R110.1) (x7) R110.2 else f109_114  r71 f (x1) (x2) (x6) (x9) (0) (x7) R110.2))))))
theorem k109_71b {d f : Nat}  {r71 : Int → Int → Nat → Int → Int → xj_M → Option (Int × xj_M)}  (hr71 : ∀ {x1 : Int} {x2 : Int} {x6 : Nat} {x7 : Int} {x9 : Int} {M : xj_M} {R : Int × xj_M}, xin x1 → xin x2 → xiN x7 → xin x9 → r71 x1 x2 x6 x7 x9 M = some R → xW (d + 1) (none, d + 1, none) xr_109 (71, [(1, xI x1), (2, xI x2), (6, xR_ x6), (7, xZ x7), (9, xI x9)], [], M) (xQl R)) {x1 : Int} {x2 : Int} {x6 : Nat} {x7 : Int} {x9 : Int} {M : xj_M} {R : Int × xj_M} (hx1 : xin x1) (hx2 : xin x2) (hx7 : xiN x7) (hx9 : xin x9) (h : f109_71b  r71 f x1 x2 x6 x7 x9 M = some R) : xW (d + 1) (none, d + 1, none) xr_109 (71, [(1, xI x1), (2, xI x2), (6, xR_ x6), (7, xZ x7), (9, xI x9)], [], M) (xQl R) := by
  unfold f109_71b at h
  refine xe_ldn (ins := .iload 9) (len := 2) (by decide +kernel) rfl rfl rfl rfl ?_
  refine xe_alr (ins := .aload 6) (len := 2) (i := 6) (by decide +kernel) rfl rfl rfl rfl rfl ?_
  obtain ⟨v101, e102, h⟩ := xbnd h
  refine xs_gi (i := 161) (c := 5) (k := 1) (by decide +kernel) (by decide) (by decide +kernel) e102 rfl ?_
  refine xe_icmpge (off := 85) (t := 163) (by decide +kernel) (by decide) rfl hx9 (xq_gi_in e102) (fun c103 => ?_) (fun c103 => ?_)
  · rw [if_pos c103] at h
    refine xe_ldn (ins := .iload_n 1) (len := 1) (by decide +kernel) rfl rfl rfl rfl ?_
    refine xe_bipush (n := 11) (by decide +kernel) (by decide) rfl ?_
    refine xe_icmpne (off := 11) (t := 177) (by decide +kernel) (by decide) rfl hx1 (show xin (11) by decide) (fun c104 => ?_) (fun c104 => ?_)
    · rw [if_pos c104] at h
      refine xe_ldn (ins := .lload 7) (len := 2) (by decide +kernel) rfl rfl rfl rfl ?_
      refine xW_lv rfl (l := []) (xsb_of trivial (show [1, 2, 6, 7, 9].Nodup by decide)) ?_
      exact k109_179   hx7 h
    · rw [if_neg c104] at h
      refine xe_ldn (ins := .lload 7) (len := 2) (by decide +kernel) rfl rfl rfl rfl ?_
      obtain ⟨R106, e105, h⟩ := xbnd h
      refine xs_cs (kd := 2) (by decide) (i := 146) (j := 108) (ar := [xZ (x7)]) (rest := []) (r2 := xr_108) (by decide +kernel) (by decide +kernel) (by decide +kernel) xr_108_e rfl (by decide) ?_
      refine xc_l (k108 (d := d + 0)  hx7 e105) rfl (fun hi107 => ?_)
      refine xe_goto (off := 5) (nx := 179) (by decide +kernel) (by decide) ?_
      refine xW_lv rfl (l := []) (xsb_of trivial (show [1, 2, 6, 7, 9].Nodup by decide)) ?_
      exact k109_179   hi107 h
  · rw [if_neg c103] at h
    refine xe_alr (ins := .aload 6) (len := 2) (i := 6) (by decide +kernel) rfl rfl rfl rfl rfl ?_
    refine xe_ldn (ins := .iload 9) (len := 2) (by decide +kernel) rfl rfl rfl rfl ?_
    refine xe_ldn (ins := .iload_n 2) (len := 1) (by decide +kernel) rfl rfl rfl rfl ?_
    obtain ⟨_, e109, h⟩ := xbnd h
    obtain ⟨R110, e108, h⟩ := xbnd h
    refine xs_cv (i := 166) (j := 70) (ar := [xI (x2), xI (x9)]) (rest := []) (r2 := xr_70) (by decide +kernel) (by decide +kernel) (by decide +kernel) xr_70_e rfl (by decide) (by decide) e109 ?_
    refine xc_l (k70 (d := d + 0)  hx9 hx2 e108) rfl (fun hi111 => ?_)
    refine xe_lsr (ins := .lstore 10) (len := 2) (i := 10) (by decide +kernel) rfl rfl rfl (by decide) (xk2_k (show ¬ (1 : Nat) = 10 by decide) (show ¬ (1 : Nat) = 10 + 1 by decide) (Or.inl (show ¬ (1 + 1 : Nat) = 10 by decide)) (xk2_k (show ¬ (2 : Nat) = 10 by decide) (show ¬ (2 : Nat) = 10 + 1 by decide) (Or.inl (show ¬ (2 + 1 : Nat) = 10 by decide)) (xk2_k (show ¬ (6 : Nat) = 10 by decide) (show ¬ (6 : Nat) = 10 + 1 by decide) (Or.inl (show ¬ (6 + 1 : Nat) = 10 by decide)) (xk2_k (show ¬ (7 : Nat) = 10 by decide) (show ¬ (7 : Nat) = 10 + 1 by decide) (Or.inl (show ¬ (7 + 1 : Nat) = 10 by decide)) (xk2_k (show ¬ (9 : Nat) = 10 by decide) (show ¬ (9 : Nat) = 10 + 1 by decide) (Or.inr (xI_cat _)) xk2_n))))) rfl ?_
    refine xe_ldn (ins := .iload_n 1) (len := 1) (by decide +kernel) rfl rfl rfl rfl ?_
    refine xe_bipush (n := 11) (by decide +kernel) (by decide) rfl ?_
    refine xe_icmpne (off := 26) (t := 120) (by decide +kernel) (by decide) rfl hx1 (show xin (11) by decide) (fun c112 => ?_) (fun c112 => ?_)
    · rw [if_pos c112] at h
      refine xe_ldn (ins := .iload 9) (len := 2) (by decide +kernel) rfl rfl rfl rfl ?_
      refine xe_ifne (off := 10) (t := 132) (by decide +kernel) (by decide) rfl hx9 (fun c113 => ?_) (fun c113 => ?_)
      · rw [if_pos c113] at h
        refine xe_ldn (ins := .iload_n 1) (len := 1) (by decide +kernel) rfl rfl rfl rfl ?_
        refine xe_bipush (n := 12) (by decide +kernel) (by decide) rfl ?_
        refine xe_icmpne (off := 13) (t := 148) (by decide +kernel) (by decide) rfl hx1 (show xin (12) by decide) (fun c114 => ?_) (fun c114 => ?_)
        · rw [if_pos c114] at h
          refine xe_ldn (ins := .lload 7) (len := 2) (by decide +kernel) rfl rfl rfl rfl ?_
          refine xe_ldn (ins := .lload 10) (len := 2) (by decide +kernel) rfl rfl rfl rfl ?_
          refine xe_xmxl (i := 174) (by decide +kernel) (by decide +kernel) (by decide +kernel) (by rfl) rfl hx7 hi111 ?_
          refine xW_lv rfl (l := [(1, xI (x1)), (2, xI (x2)), (6, xR_ (x6)), (9, xI (x9))]) (xsb_of ⟨rfl, rfl, rfl, rfl, trivial⟩ (show [10, 1, 2, 6, 7, 9].Nodup by decide)) ?_
          exact k109_155  hr71 hx1 hx2 hx9 (xmax_iN hx7 hi111) h
        · rw [if_neg c114] at h
          refine xe_ldn (ins := .lload 7) (len := 2) (by decide +kernel) rfl rfl rfl rfl ?_
          refine xe_ldn (ins := .lload 10) (len := 2) (by decide +kernel) rfl rfl rfl rfl ?_
          refine xe_xmnl (i := 170) (by decide +kernel) (by decide +kernel) (by decide +kernel) (by rfl) rfl hx7 hi111 ?_
          refine xe_goto (off := 10) (nx := 155) (by decide +kernel) (by decide) ?_
          refine xW_lv rfl (l := [(1, xI (x1)), (2, xI (x2)), (6, xR_ (x6)), (9, xI (x9))]) (xsb_of ⟨rfl, rfl, rfl, rfl, trivial⟩ (show [10, 1, 2, 6, 7, 9].Nodup by decide)) ?_
          exact k109_155  hr71 hx1 hx2 hx9 (xmin_iN hx7 hi111) h
      · rw [if_neg c113] at h
        refine xe_ldn (ins := .lload 10) (len := 2) (by decide +kernel) rfl rfl rfl rfl ?_
        refine xe_lsr (ins := .lstore 7) (len := 2) (i := 7) (by decide +kernel) rfl rfl rfl (by decide) (xk2_k (show ¬ (10 : Nat) = 7 by decide) (show ¬ (10 : Nat) = 7 + 1 by decide) (Or.inl (show ¬ (10 + 1 : Nat) = 7 by decide)) (xk2_k (show ¬ (1 : Nat) = 7 by decide) (show ¬ (1 : Nat) = 7 + 1 by decide) (Or.inl (show ¬ (1 + 1 : Nat) = 7 by decide)) (xk2_k (show ¬ (2 : Nat) = 7 by decide) (show ¬ (2 : Nat) = 7 + 1 by decide) (Or.inl (show ¬ (2 + 1 : Nat) = 7 by decide)) (xk2_k (show ¬ (6 : Nat) = 7 by decide) (show ¬ (6 : Nat) = 7 + 1 by decide) (Or.inr (xR_cat _)) (xk2_d (Or.inl rfl) (xk2_k (show ¬ (9 : Nat) = 7 by decide) (show ¬ (9 : Nat) = 7 + 1 by decide) (Or.inl (show ¬ (9 + 1 : Nat) = 7 by decide)) xk2_n)))))) rfl ?_
        refine xe_goto (off := 28) (nx := 157) (by decide +kernel) (by decide) ?_
        refine xW_lv rfl (l := [(1, xI (x1)), (2, xI (x2)), (6, xR_ (x6)), (7, xZ (R110.1)), (9, xI (x9))]) (xsb_of ⟨rfl, rfl, rfl, rfl, rfl, trivial⟩ (show [7, 10, 1, 2, 6, 9].Nodup by decide)) ?_
        exact k109_157  hr71 hx1 hx2 hi111 hx9 h
    · rw [if_neg c112] at h
      refine xe_ldn (ins := .lload 7) (len := 2) (by decide +kernel) rfl rfl rfl rfl ?_
      refine xe_ldn (ins := .lload 10) (len := 2) (by decide +kernel) rfl rfl rfl rfl ?_
      refine xe_ldc2 (i := 144) (n := 1000000000000) (by decide +kernel) (by decide +kernel) rfl ?_
      refine xe_lcmp (by decide +kernel) rfl hi111 (show xiN (1000000000000) by decide) ?_
      refine xe_ifle (off := 7) (t := 112) (by decide +kernel) (by decide) rfl (xin_cmp8 _ _) (fun c115 => ?_) (fun c115 => ?_)
      · have c115 := xcmp8_le.mp c115; rw [if_pos c115] at h
        refine xe_ldn (ins := .lload 10) (len := 2) (by decide +kernel) rfl rfl rfl rfl ?_
        refine xW_lv rfl (l := [(1, xI (x1)), (2, xI (x2)), (6, xR_ (x6)), (9, xI (x9))]) (xsb_of ⟨rfl, rfl, rfl, rfl, trivial⟩ (show [10, 1, 2, 6, 7, 9].Nodup by decide)) ?_
        exact k109_114  hr71 hx1 hx2 hx9 hi111 hx7 h
      · have c115 := (not_congr xcmp8_le).mp c115; rw [if_neg c115] at h
        refine xe_lconst (n := 0) (z := 0) (by decide +kernel) rfl rfl ?_
        refine xe_goto (off := 5) (nx := 114) (by decide +kernel) (by decide) ?_
        refine xW_lv rfl (l := [(1, xI (x1)), (2, xI (x2)), (6, xR_ (x6)), (9, xI (x9))]) (xsb_of ⟨rfl, rfl, rfl, rfl, trivial⟩ (show [10, 1, 2, 6, 7, 9].Nodup by decide)) ?_
        exact k109_114  hr71 hx1 hx2 hx9 (show xiN (0) by decide) hx7 h
def f109_71   (f : Nat) : Nat → Int → Int → Nat → Int → Int → xj_M → Option (Int × xj_M)
  | 0, _, _, _, _, _, _ => none
  | n + 1, x1, x2, x6, x7, x9, M => f109_71b   (f109_71   f n) f x1 x2 x6 x7 x9 M
theorem k109_71 {d f : Nat}     : ∀ {n : Nat} {x1 : Int} {x2 : Int} {x6 : Nat} {x7 : Int} {x9 : Int} {M : xj_M} {R : Int × xj_M}, xin x1 → xin x2 → xiN x7 → xin x9 → f109_71   f n x1 x2 x6 x7 x9 M = some R → xW (d + 1) (none, d + 1, none) xr_109 (71, [(1, xI x1), (2, xI x2), (6, xR_ x6), (7, xZ x7), (9, xI x9)], [], M) (xQl R) := by
  intro n
  induction n with
  | zero => intros; rename_i h; cases h
  | succ n ih => intros; rename_i h; exact k109_71b   ih (by assumption) (by assumption) (by assumption) (by assumption) h
def f109  (f : Nat) (a0 : Nat) (a1 : Int) (a2 : Int) (a3 : Int) (M : xj_M) : Option (Int × xj_M) := ((xq_gr 7 0 (a0) M).bind fun v116 => ((xq_gr 2 0 (v116) M).bind fun v118 => ((xq_is 3 (v118) M).bind fun _ => ((f20  f (v118) (a3) M).bind fun R122 => (if (R122.1) = (-1) then f109_36   f  R122.2 else ((xq_gr 7 0 (a0) R122.2).bind fun v125 => ((xq_gr 2 0 (v125) R122.2).bind fun v127 => ((xq_gr 3 3 (v127) R122.2).bind fun v129 => ((xq_ai 3 (v129) (R122.1) R122.2).bind fun v131 => (if (a2) < (v131) then ((xq_gr 7 0 (a0) R122.2).bind fun v134 => ((xq_gr 2 1 (v134) R122.2).bind fun v136 => ((xq_ar (v136) (R122.1) R122.2).bind fun v138 => (if ¬ (a1) = (10) then f109_71   f f (a1) (a2) (v138) (0) (0) R122.2 else ((xq_gi 5 1 (v138) R122.2).bind fun v141 => (some (v141, R122.2))))))) else f109_36   f  R122.2))))))))))
theorem k109 {d f : Nat}   {a0 : Nat} {a1 : Int} {a2 : Int} {a3 : Int} {M : xj_M} {R : Int × xj_M} (ha1 : xin a1) (ha2 : xin a2) (ha3 : xiN a3) (h : f109  f a0 a1 a2 a3 M = some R) : xT (d + 2) 109 [xR_ a0, xI a1, xI a2, xZ a3] M (xQl R) := by
  refine xT_m xr_109_e (X := (none, d + 1, none)) rfl (xa_1 (xR_cat _) (xa_1 (xI_cat _) (xa_1 (xI_cat _) (xa_2 (xZ_cat _) xa_n)))) (by decide) ?_
  unfold f109 at h
  refine xe_alr (ins := .aload_n 0) (len := 1) (i := 0) (by decide +kernel) rfl rfl rfl rfl rfl ?_
  obtain ⟨v116, e117, h⟩ := xbnd h
  refine xs_gr (i := 21) (c := 7) (k := 0) (by decide +kernel) (by decide) (by decide +kernel) e117 rfl ?_
  obtain ⟨v118, e119, h⟩ := xbnd h
  refine xs_gr (i := 108) (c := 2) (k := 0) (by decide +kernel) (by decide) (by decide +kernel) e119 rfl ?_
  refine xe_ldn (ins := .lload_n 3) (len := 1) (by decide +kernel) rfl rfl rfl rfl ?_
  obtain ⟨_, e121, h⟩ := xbnd h
  obtain ⟨R122, e120, h⟩ := xbnd h
  refine xs_cv (i := 115) (j := 20) (ar := [xZ (a3)]) (rest := []) (r2 := xr_20) (by decide +kernel) (by decide +kernel) (by decide +kernel) xr_20_e rfl (by decide) (by decide) e121 ?_
  refine xc_i (k20 (d := d + 0)  ha3 e120) rfl (fun hi123 => ?_)
  refine xe_isr (ins := .istore 5) (len := 2) (i := 5) (by decide +kernel) rfl rfl rfl (by decide) (xk_k (show ¬ (0 : Nat) = 5 by decide) (Or.inl (show ¬ (0 + 1 : Nat) = 5 by decide)) (xk_k (show ¬ (1 : Nat) = 5 by decide) (Or.inl (show ¬ (1 + 1 : Nat) = 5 by decide)) (xk_k (show ¬ (2 : Nat) = 5 by decide) (Or.inl (show ¬ (2 + 1 : Nat) = 5 by decide)) (xk_k (show ¬ (3 : Nat) = 5 by decide) (Or.inl (show ¬ (3 + 1 : Nat) = 5 by decide)) xk_n)))) rfl ?_
  refine xe_ldn (ins := .iload 5) (len := 2) (by decide +kernel) rfl rfl rfl rfl ?_
  refine xe_iconst (n := -1) (by decide +kernel) rfl ?_
  refine xe_icmpeq (off := 20) (t := 36) (by decide +kernel) (by decide) rfl hi123 (show xin (-1) by decide) (fun c124 => ?_) (fun c124 => ?_)
  · rw [if_pos c124] at h
    refine xW_lv rfl (l := []) (xsb_of trivial (show [5, 0, 1, 2, 3].Nodup by decide)) ?_
    exact k109_36    h
  · rw [if_neg c124] at h
    refine xe_ldn (ins := .iload_n 2) (len := 1) (by decide +kernel) rfl rfl rfl rfl ?_
    refine xe_alr (ins := .aload_n 0) (len := 1) (i := 0) (by decide +kernel) rfl rfl rfl rfl rfl ?_
    obtain ⟨v125, e126, h⟩ := xbnd h
    refine xs_gr (i := 21) (c := 7) (k := 0) (by decide +kernel) (by decide) (by decide +kernel) e126 rfl ?_
    obtain ⟨v127, e128, h⟩ := xbnd h
    refine xs_gr (i := 108) (c := 2) (k := 0) (by decide +kernel) (by decide) (by decide +kernel) e128 rfl ?_
    obtain ⟨v129, e130, h⟩ := xbnd h
    refine xs_gr (i := 152) (c := 3) (k := 3) (by decide +kernel) (by decide) (by decide +kernel) e130 rfl ?_
    refine xe_ldn (ins := .iload 5) (len := 2) (by decide +kernel) rfl rfl rfl rfl ?_
    obtain ⟨v131, e132, h⟩ := xbnd h
    refine xs_iald rfl (by decide +kernel) hi123 e132 rfl ?_
    refine xe_icmplt (off := 7) (t := 40) (by decide +kernel) (by decide) rfl ha2 (xq_ai_in e132) (fun c133 => ?_) (fun c133 => ?_)
    · rw [if_pos c133] at h
      refine xe_alr (ins := .aload_n 0) (len := 1) (i := 0) (by decide +kernel) rfl rfl rfl rfl rfl ?_
      obtain ⟨v134, e135, h⟩ := xbnd h
      refine xs_gr (i := 21) (c := 7) (k := 0) (by decide +kernel) (by decide) (by decide +kernel) e135 rfl ?_
      obtain ⟨v136, e137, h⟩ := xbnd h
      refine xs_gr (i := 157) (c := 2) (k := 1) (by decide +kernel) (by decide) (by decide +kernel) e137 rfl ?_
      refine xe_ldn (ins := .iload 5) (len := 2) (by decide +kernel) rfl rfl rfl rfl ?_
      obtain ⟨v138, e139, h⟩ := xbnd h
      refine xs_aald (by decide +kernel) hi123 e139 rfl ?_
      refine xe_asr (ins := .astore 6) (len := 2) (i := 6) (by decide +kernel) rfl rfl rfl (by decide) (xk_k (show ¬ (5 : Nat) = 6 by decide) (Or.inr (xI_cat _)) (xk_k (show ¬ (0 : Nat) = 6 by decide) (Or.inl (show ¬ (0 + 1 : Nat) = 6 by decide)) (xk_k (show ¬ (1 : Nat) = 6 by decide) (Or.inl (show ¬ (1 + 1 : Nat) = 6 by decide)) (xk_k (show ¬ (2 : Nat) = 6 by decide) (Or.inl (show ¬ (2 + 1 : Nat) = 6 by decide)) (xk_k (show ¬ (3 : Nat) = 6 by decide) (Or.inl (show ¬ (3 + 1 : Nat) = 6 by decide)) xk_n))))) rfl ?_
      refine xe_ldn (ins := .iload_n 1) (len := 1) (by decide +kernel) rfl rfl rfl rfl ?_
      refine xe_bipush (n := 10) (by decide +kernel) (by decide) rfl ?_
      refine xe_icmpne (off := 10) (t := 65) (by decide +kernel) (by decide) rfl ha1 (show xin (10) by decide) (fun c140 => ?_) (fun c140 => ?_)
      · rw [if_pos c140] at h
        refine xe_lconst (n := 0) (z := 0) (by decide +kernel) rfl rfl ?_
        refine xe_lsr (ins := .lstore 7) (len := 2) (i := 7) (by decide +kernel) rfl rfl rfl (by decide) (xk2_k (show ¬ (6 : Nat) = 7 by decide) (show ¬ (6 : Nat) = 7 + 1 by decide) (Or.inr (xR_cat _)) (xk2_k (show ¬ (5 : Nat) = 7 by decide) (show ¬ (5 : Nat) = 7 + 1 by decide) (Or.inl (show ¬ (5 + 1 : Nat) = 7 by decide)) (xk2_k (show ¬ (0 : Nat) = 7 by decide) (show ¬ (0 : Nat) = 7 + 1 by decide) (Or.inl (show ¬ (0 + 1 : Nat) = 7 by decide)) (xk2_k (show ¬ (1 : Nat) = 7 by decide) (show ¬ (1 : Nat) = 7 + 1 by decide) (Or.inl (show ¬ (1 + 1 : Nat) = 7 by decide)) (xk2_k (show ¬ (2 : Nat) = 7 by decide) (show ¬ (2 : Nat) = 7 + 1 by decide) (Or.inl (show ¬ (2 + 1 : Nat) = 7 by decide)) (xk2_k (show ¬ (3 : Nat) = 7 by decide) (show ¬ (3 : Nat) = 7 + 1 by decide) (Or.inl (show ¬ (3 + 1 : Nat) = 7 by decide)) xk2_n)))))) rfl ?_
        refine xe_iconst (n := 0) (by decide +kernel) rfl ?_
        refine xe_isr (ins := .istore 9) (len := 2) (i := 9) (by decide +kernel) rfl rfl rfl (by decide) (xk_k (show ¬ (7 : Nat) = 9 by decide) (Or.inl (show ¬ (7 + 1 : Nat) = 9 by decide)) (xk_k (show ¬ (6 : Nat) = 9 by decide) (Or.inl (show ¬ (6 + 1 : Nat) = 9 by decide)) (xk_k (show ¬ (5 : Nat) = 9 by decide) (Or.inl (show ¬ (5 + 1 : Nat) = 9 by decide)) (xk_k (show ¬ (0 : Nat) = 9 by decide) (Or.inl (show ¬ (0 + 1 : Nat) = 9 by decide)) (xk_k (show ¬ (1 : Nat) = 9 by decide) (Or.inl (show ¬ (1 + 1 : Nat) = 9 by decide)) (xk_k (show ¬ (2 : Nat) = 9 by decide) (Or.inl (show ¬ (2 + 1 : Nat) = 9 by decide)) (xk_k (show ¬ (3 : Nat) = 9 by decide) (Or.inl (show ¬ (3 + 1 : Nat) = 9 by decide)) xk_n))))))) rfl ?_
        refine xW_lv rfl (l := [(1, xI (a1)), (2, xI (a2)), (6, xR_ (v138)), (7, xZ (0)), (9, xI (0))]) (xsb_of ⟨rfl, rfl, rfl, rfl, rfl, trivial⟩ (show [9, 7, 6, 5, 0, 1, 2, 3].Nodup by decide)) ?_
        exact k109_71   ha1 ha2 (show xiN (0) by decide) (show xin (0) by decide) h
      · rw [if_neg c140] at h
        refine xe_alr (ins := .aload 6) (len := 2) (i := 6) (by decide +kernel) rfl rfl rfl rfl rfl ?_
        obtain ⟨v141, e142, h⟩ := xbnd h
        refine xs_gi (i := 161) (c := 5) (k := 1) (by decide +kernel) (by decide) (by decide +kernel) e142 rfl ?_
        refine xe_i2l (by decide +kernel) rfl (xq_gi_in e142) ?_
        cases h
        exact xe_ret_l (by decide +kernel) rfl ⟨rfl, rfl, (xin_N (xq_gi_in e142))⟩
    · rw [if_neg c133] at h
      refine xW_lv rfl (l := []) (xsb_of trivial (show [5, 0, 1, 2, 3].Nodup by decide)) ?_
      exact k109_36    h
-- ChangeHouse$Tape.<init>
def xr_110 : xj_mR := (8, yX8_init, cX8_init, 1, (Option.none : Option Jvm.ClassFile.FieldType), 0, true, (1, 42), (1, 2))
set_option maxRecDepth 20000 in
theorem xr_110_e : xj_row 110 = some xr_110 := rfl
def f110  (f : Nat) (a0 : Nat) (M : xj_M) : Option (xj_M) := ((xq_nz (a0)).bind fun _ => ((xq_na 2 (3000) M).bind fun p102 => ((xq_pr 8 0 (a0) (p102.1) p102.2).bind fun M104 => ((xq_na 3 (3001) M104).bind fun p106 => ((xq_pr 8 3 (a0) (p106.1) p106.2).bind fun M108 => ((xq_na 3 (3001) M108).bind fun p110 => ((xq_pr 8 4 (a0) (p110.1) p110.2).bind fun M112 => ((xq_na 3 (3001) M112).bind fun p114 => ((xq_pr 8 5 (a0) (p114.1) p114.2).bind fun M116 => ((xq_na 4 (3001) M116).bind fun p118 => ((xq_pr 8 6 (a0) (p118.1) p118.2).bind fun M120 => ((xq_na 4 (3001) M120).bind fun p122 => ((xq_pr 8 7 (a0) (p122.1) p122.2).bind fun M124 => (some M124))))))))))))))
theorem k110 {d f : Nat}   {a0 : Nat} {M : xj_M} {R : xj_M}  (h : f110  f a0 M = some R) : xT (d + 1) 110 [xR_ a0] M (xQv R) := by
  refine xT_m xr_110_e (X := (none, d + 0, none)) rfl (xa_1 (xR_cat _) xa_n) (by decide) ?_
  unfold f110 at h
  refine xe_alr (ins := .aload_n 0) (len := 1) (i := 0) (by decide +kernel) rfl rfl rfl rfl rfl ?_
  obtain ⟨_, e101, h⟩ := xbnd h
  refine xe_oi (i := 3) (j := 0) (by decide +kernel) (by decide +kernel) (by rfl) (xq_nz_ne e101) rfl ?_
  refine xe_alr (ins := .aload_n 0) (len := 1) (i := 0) (by decide +kernel) rfl rfl rfl rfl rfl ?_
  refine xe_sipush (n := 3000) (by decide +kernel) (by decide) rfl ?_
  obtain ⟨p102, e103, h⟩ := xbnd h
  refine xs_na (kk := 2) (ty := .char) (x := p102.1) (M1 := p102.2) (by decide +kernel) rfl (show xin (3000) by decide) e103 rfl ?_
  obtain ⟨M104, e105, h⟩ := xbnd h
  refine xs_p (i := 9) (c := 8) (k := 0) (by decide +kernel) (by decide +kernel) (by decide +kernel) e105 rfl ?_
  refine xe_alr (ins := .aload_n 0) (len := 1) (i := 0) (by decide +kernel) rfl rfl rfl rfl rfl ?_
  refine xe_sipush (n := 3001) (by decide +kernel) (by decide) rfl ?_
  obtain ⟨p106, e107, h⟩ := xbnd h
  refine xs_na (kk := 3) (ty := .int) (x := p106.1) (M1 := p106.2) (by decide +kernel) rfl (show xin (3001) by decide) e107 rfl ?_
  obtain ⟨M108, e109, h⟩ := xbnd h
  refine xs_p (i := 15) (c := 8) (k := 3) (by decide +kernel) (by decide +kernel) (by decide +kernel) e109 rfl ?_
  refine xe_alr (ins := .aload_n 0) (len := 1) (i := 0) (by decide +kernel) rfl rfl rfl rfl rfl ?_
  refine xe_sipush (n := 3001) (by decide +kernel) (by decide) rfl ?_
  obtain ⟨p110, e111, h⟩ := xbnd h
  refine xs_na (kk := 3) (ty := .int) (x := p110.1) (M1 := p110.2) (by decide +kernel) rfl (show xin (3001) by decide) e111 rfl ?_
  obtain ⟨M112, e113, h⟩ := xbnd h
  refine xs_p (i := 19) (c := 8) (k := 4) (by decide +kernel) (by decide +kernel) (by decide +kernel) e113 rfl ?_
  refine xe_alr (ins := .aload_n 0) (len := 1) (i := 0) (by decide +kernel) rfl rfl rfl rfl rfl ?_
  refine xe_sipush (n := 3001) (by decide +kernel) (by decide) rfl ?_
  obtain ⟨p114, e115, h⟩ := xbnd h
  refine xs_na (kk := 3) (ty := .int) (x := p114.1) (M1 := p114.2) (by decide +kernel) rfl (show xin (3001) by decide) e115 rfl ?_
  obtain ⟨M116, e117, h⟩ := xbnd h
  refine xs_p (i := 22) (c := 8) (k := 5) (by decide +kernel) (by decide +kernel) (by decide +kernel) e117 rfl ?_
  refine xe_alr (ins := .aload_n 0) (len := 1) (i := 0) (by decide +kernel) rfl rfl rfl rfl rfl ?_
  refine xe_sipush (n := 3001) (by decide +kernel) (by decide) rfl ?_
  obtain ⟨p118, e119, h⟩ := xbnd h
  refine xs_na (kk := 4) (ty := .long) (x := p118.1) (M1 := p118.2) (by decide +kernel) rfl (show xin (3001) by decide) e119 rfl ?_
  obtain ⟨M120, e121, h⟩ := xbnd h
  refine xs_p (i := 25) (c := 8) (k := 6) (by decide +kernel) (by decide +kernel) (by decide +kernel) e121 rfl ?_
  refine xe_alr (ins := .aload_n 0) (len := 1) (i := 0) (by decide +kernel) rfl rfl rfl rfl rfl ?_
  refine xe_sipush (n := 3001) (by decide +kernel) (by decide) rfl ?_
  obtain ⟨p122, e123, h⟩ := xbnd h
  refine xs_na (kk := 4) (ty := .long) (x := p122.1) (M1 := p122.2) (by decide +kernel) rfl (show xin (3001) by decide) e123 rfl ?_
  obtain ⟨M124, e125, h⟩ := xbnd h
  refine xs_p (i := 29) (c := 8) (k := 7) (by decide +kernel) (by decide +kernel) (by decide +kernel) e125 rfl ?_
  cases h
  exact xe_ret_v (by decide +kernel) rfl ⟨rfl, rfl⟩
-- ChangeHouse$Tape.add
def xr_111 : xj_mR := (8, yX8_add, cX8_add, 3, (Option.none : Option Jvm.ClassFile.FieldType), 1, false, (3, 110), (1, 2))
set_option maxRecDepth 20000 in
theorem xr_111_e : xj_row 111 = some xr_111 := rfl
def f111_44  (r3 : Nat → Int → Int → xj_M → Option (xj_M)) (f : Nat) (x0 : Nat) (x1 : Int) (x2 : Int) (M : xj_M) : Option (xj_M) := r3 (x0) (x1) (xwr ((x2) + (-8))) M
theorem k111_44 {d f : Nat}  {r3 : Nat → Int → Int → xj_M → Option (xj_M)}  (hr3 : ∀ {x0 : Nat} {x1 : Int} {x2 : Int} {M : xj_M} {R : xj_M}, xin x1 → xin x2 → r3 x0 x1 x2 M = some R → xW (d + 0) (none, d + 0, none) xr_111 (3, [(0, xR_ x0), (1, xI x1), (2, xI x2)], [], M) (xQv R)) {x0 : Nat} {x1 : Int} {x2 : Int} {M : xj_M} {R : xj_M} (hx1 : xin x1) (hx2 : xin x2) (h : f111_44  r3 f x0 x1 x2 M = some R) : xW (d + 0) (none, d + 0, none) xr_111 (44, [(0, xR_ x0), (1, xI x1), (2, xI x2)], [], M) (xQv R) := by
  unfold f111_44 at h
  refine xe_iincr (i := 2) (n := -8) (by decide +kernel) (by decide) rfl (xk_k (show ¬ (0 : Nat) = 2 by decide) (Or.inl (show ¬ (0 + 1 : Nat) = 2 by decide)) (xk_k (show ¬ (1 : Nat) = 2 by decide) (Or.inr (xI_cat _)) (xk_d rfl xk_n))) rfl ?_
  refine xe_goto (off := -44) (nx := 3) (by decide +kernel) (by decide) ?_
  refine xW_lv rfl (l := [(0, xR_ (x0)), (1, xI (x1)), (2, xI (xwr ((x2) + (-8))))]) (xsb_of ⟨rfl, rfl, rfl, trivial⟩ (show [2, 0, 1].Nodup by decide)) ?_
  exact hr3 hx1 (xin_wr _) h
def f111_3b  (r3 : Nat → Int → Int → xj_M → Option (xj_M)) (f : Nat) (x0 : Nat) (x1 : Int) (x2 : Int) (M : xj_M) : Option (xj_M) := (if (x2) < 0 then (some M) else ((xq_gi 8 1 (x0) M).bind fun v102 => (if (3000) ≤ (v102) then f111_44  r3 f (x0) (x1) (x2) M else ((xq_gr 8 0 (x0) M).bind fun v105 => ((xq_gi 8 1 (x0) M).bind fun v107 => ((xq_sc (v105) (v107) (xi2ch (xand (xush (x1) (x2)) (255))) M).bind fun M109 => ((xq_gi 8 1 (x0) M109).bind fun v111 => ((xq_pi 8 1 (x0) (xwr ((v111) + (1))) M109).bind fun M113 => f111_44  r3 f (x0) (x1) (x2) M113))))))))
theorem k111_3b {d f : Nat}  {r3 : Nat → Int → Int → xj_M → Option (xj_M)}  (hr3 : ∀ {x0 : Nat} {x1 : Int} {x2 : Int} {M : xj_M} {R : xj_M}, xin x1 → xin x2 → r3 x0 x1 x2 M = some R → xW (d + 0) (none, d + 0, none) xr_111 (3, [(0, xR_ x0), (1, xI x1), (2, xI x2)], [], M) (xQv R)) {x0 : Nat} {x1 : Int} {x2 : Int} {M : xj_M} {R : xj_M} (hx1 : xin x1) (hx2 : xin x2) (h : f111_3b  r3 f x0 x1 x2 M = some R) : xW (d + 0) (none, d + 0, none) xr_111 (3, [(0, xR_ x0), (1, xI x1), (2, xI x2)], [], M) (xQv R) := by
  unfold f111_3b at h
  refine xe_ldn (ins := .iload_n 2) (len := 1) (by decide +kernel) rfl rfl rfl rfl ?_
  refine xe_iflt (off := 46) (t := 50) (by decide +kernel) (by decide) rfl hx2 (fun c101 => ?_) (fun c101 => ?_)
  · rw [if_pos c101] at h
    cases h
    exact xe_ret_v (by decide +kernel) rfl ⟨rfl, rfl⟩
  · rw [if_neg c101] at h
    refine xe_alr (ins := .aload_n 0) (len := 1) (i := 0) (by decide +kernel) rfl rfl rfl rfl rfl ?_
    obtain ⟨v102, e103, h⟩ := xbnd h
    refine xs_gi (i := 32) (c := 8) (k := 1) (by decide +kernel) (by decide) (by decide +kernel) e103 rfl ?_
    refine xe_sipush (n := 3000) (by decide +kernel) (by decide) rfl ?_
    refine xe_icmpge (off := 30) (t := 44) (by decide +kernel) (by decide) rfl (xq_gi_in e103) (show xin (3000) by decide) (fun c104 => ?_) (fun c104 => ?_)
    · rw [if_pos c104] at h
      refine xW_lv rfl (l := [(0, xR_ (x0)), (1, xI (x1)), (2, xI (x2))]) (xsb_of ⟨rfl, rfl, rfl, trivial⟩ (show [0, 1, 2].Nodup by decide)) ?_
      exact k111_44  hr3 hx1 hx2 h
    · rw [if_neg c104] at h
      refine xe_alr (ins := .aload_n 0) (len := 1) (i := 0) (by decide +kernel) rfl rfl rfl rfl rfl ?_
      obtain ⟨v105, e106, h⟩ := xbnd h
      refine xs_gr (i := 9) (c := 8) (k := 0) (by decide +kernel) (by decide) (by decide +kernel) e106 rfl ?_
      refine xe_alr (ins := .aload_n 0) (len := 1) (i := 0) (by decide +kernel) rfl rfl rfl rfl rfl ?_
      obtain ⟨v107, e108, h⟩ := xbnd h
      refine xs_gi (i := 32) (c := 8) (k := 1) (by decide +kernel) (by decide) (by decide +kernel) e108 rfl ?_
      refine xe_ldn (ins := .iload_n 1) (len := 1) (by decide +kernel) rfl rfl rfl rfl ?_
      refine xe_ldn (ins := .iload_n 2) (len := 1) (by decide +kernel) rfl rfl rfl rfl ?_
      refine xe_iushr (by decide +kernel) rfl ?_
      refine xe_sipush (n := 255) (by decide +kernel) (by decide) rfl ?_
      refine xe_iand (by decide +kernel) rfl ?_
      refine xe_i2c (by decide +kernel) rfl ?_
      obtain ⟨M109, e110, h⟩ := xbnd h
      refine xs_cast (by decide +kernel) (xq_gi_in e108) e110 rfl ?_
      refine xe_alr (ins := .aload_n 0) (len := 1) (i := 0) (by decide +kernel) rfl rfl rfl rfl rfl ?_
      refine xe_dupr (by decide +kernel) rfl ?_
      obtain ⟨v111, e112, h⟩ := xbnd h
      refine xs_gi (i := 32) (c := 8) (k := 1) (by decide +kernel) (by decide) (by decide +kernel) e112 rfl ?_
      refine xe_iconst (n := 1) (by decide +kernel) rfl ?_
      refine xe_iadd (by decide +kernel) rfl ?_
      obtain ⟨M113, e114, h⟩ := xbnd h
      refine xs_p (i := 32) (c := 8) (k := 1) (by decide +kernel) (by decide +kernel) (by decide +kernel) e114 rfl ?_
      refine xW_lv rfl (l := [(0, xR_ (x0)), (1, xI (x1)), (2, xI (x2))]) (xsb_of ⟨rfl, rfl, rfl, trivial⟩ (show [0, 1, 2].Nodup by decide)) ?_
      exact k111_44  hr3 hx1 hx2 h
def f111_3   (f : Nat) : Nat → Nat → Int → Int → xj_M → Option (xj_M)
  | 0, _, _, _, _ => none
  | n + 1, x0, x1, x2, M => f111_3b   (f111_3   f n) f x0 x1 x2 M
theorem k111_3 {d f : Nat}     : ∀ {n : Nat} {x0 : Nat} {x1 : Int} {x2 : Int} {M : xj_M} {R : xj_M}, xin x1 → xin x2 → f111_3   f n x0 x1 x2 M = some R → xW (d + 0) (none, d + 0, none) xr_111 (3, [(0, xR_ x0), (1, xI x1), (2, xI x2)], [], M) (xQv R) := by
  intro n
  induction n with
  | zero => intros; rename_i h; cases h
  | succ n ih => intros; rename_i h; exact k111_3b   ih (by assumption) (by assumption) h
def f111  (f : Nat) (a0 : Nat) (a1 : Int) (M : xj_M) : Option (xj_M) := f111_3   f f (a0) (a1) (24) M
theorem k111 {d f : Nat}   {a0 : Nat} {a1 : Int} {M : xj_M} {R : xj_M} (ha1 : xin a1) (h : f111  f a0 a1 M = some R) : xT (d + 1) 111 [xR_ a0, xI a1] M (xQv R) := by
  refine xT_m xr_111_e (X := (none, d + 0, none)) rfl (xa_1 (xR_cat _) (xa_1 (xI_cat _) xa_n)) (by decide) ?_
  unfold f111 at h
  refine xe_bipush (n := 24) (by decide +kernel) (by decide) rfl ?_
  refine xe_isr (ins := .istore_n 2) (len := 1) (i := 2) (by decide +kernel) rfl rfl rfl (by decide) (xk_k (show ¬ (0 : Nat) = 2 by decide) (Or.inl (show ¬ (0 + 1 : Nat) = 2 by decide)) (xk_k (show ¬ (1 : Nat) = 2 by decide) (Or.inr (xI_cat _)) xk_n)) rfl ?_
  refine xW_lv rfl (l := [(0, xR_ (a0)), (1, xI (a1)), (2, xI (24))]) (xsb_of ⟨rfl, rfl, rfl, trivial⟩ (show [2, 0, 1].Nodup by decide)) ?_
  exact k111_3   ha1 (show xin (24) by decide) h
-- ChangeHouse$Tape.skipBlanks
def xr_113 : xj_mR := (8, yX8_skipBlanks, cX8_skipBlanks, 6, (Option.some Jvm.ClassFile.FieldType.int), 1, false, (3, 127), (1, 2))
set_option maxRecDepth 20000 in
theorem xr_113_e : xj_row 113 = some xr_113 := rfl
def f113_90  (r4 : Nat → Int → Int → xj_M → Option (Int × xj_M)) (f : Nat) (x0 : Nat) (x2 : Int) (x3 : Int) (M : xj_M) : Option (Int × xj_M) := r4 (x0) (x2) (xwr ((x3) + (1))) M
theorem k113_90 {d f : Nat}  {r4 : Nat → Int → Int → xj_M → Option (Int × xj_M)}  (hr4 : ∀ {x0 : Nat} {x2 : Int} {x3 : Int} {M : xj_M} {R : Int × xj_M}, xin x2 → xin x3 → r4 x0 x2 x3 M = some R → xW (d + 0) (none, d + 0, none) xr_113 (4, [(0, xR_ x0), (2, xI x2), (3, xI x3)], [], M) (xQi R)) {x0 : Nat} {x2 : Int} {x3 : Int} {M : xj_M} {R : Int × xj_M} (hx2 : xin x2) (hx3 : xin x3) (h : f113_90  r4 f x0 x2 x3 M = some R) : xW (d + 0) (none, d + 0, none) xr_113 (90, [(0, xR_ x0), (2, xI x2), (3, xI x3)], [], M) (xQi R) := by
  unfold f113_90 at h
  refine xe_iincr (i := 3) (n := 1) (by decide +kernel) (by decide) rfl (xk_k (show ¬ (0 : Nat) = 3 by decide) (Or.inl (show ¬ (0 + 1 : Nat) = 3 by decide)) (xk_k (show ¬ (2 : Nat) = 3 by decide) (Or.inr (xI_cat _)) (xk_d rfl xk_n))) rfl ?_
  refine xe_goto (off := -89) (nx := 4) (by decide +kernel) (by decide) ?_
  refine xW_lv rfl (l := [(0, xR_ (x0)), (2, xI (x2)), (3, xI (xwr ((x3) + (1))))]) (xsb_of ⟨rfl, rfl, rfl, trivial⟩ (show [3, 0, 2].Nodup by decide)) ?_
  exact hr4 hx2 (xin_wr _) h
def f113_78  (r4 : Nat → Int → Int → xj_M → Option (Int × xj_M)) (f : Nat) (x0 : Nat) (x3 : Int) (x5 : Int) (y0 : Int) (M : xj_M) : Option (Int × xj_M) := (if ¬ (x5) = 0 then f113_90  r4 f (x0) (y0) (x3) M else (if ¬ (y0) = 0 then f113_90  r4 f (x0) (y0) (x3) M else (some (x3, M))))
theorem k113_78 {d f : Nat}  {r4 : Nat → Int → Int → xj_M → Option (Int × xj_M)}  (hr4 : ∀ {x0 : Nat} {x2 : Int} {x3 : Int} {M : xj_M} {R : Int × xj_M}, xin x2 → xin x3 → r4 x0 x2 x3 M = some R → xW (d + 0) (none, d + 0, none) xr_113 (4, [(0, xR_ x0), (2, xI x2), (3, xI x3)], [], M) (xQi R)) {x0 : Nat} {x3 : Int} {x5 : Int} {y0 : Int} {M : xj_M} {R : Int × xj_M} (hx3 : xin x3) (hx5 : xin x5) (hy0 : xin y0) (h : f113_78  r4 f x0 x3 x5 y0 M = some R) : xW (d + 0) (none, d + 0, none) xr_113 (78, [(0, xR_ x0), (3, xI x3), (5, xI x5)], [xI y0], M) (xQi R) := by
  unfold f113_78 at h
  refine xe_isr (ins := .istore_n 2) (len := 1) (i := 2) (by decide +kernel) rfl rfl rfl (by decide) (xk_k (show ¬ (0 : Nat) = 2 by decide) (Or.inl (show ¬ (0 + 1 : Nat) = 2 by decide)) (xk_k (show ¬ (3 : Nat) = 2 by decide) (Or.inl (show ¬ (3 + 1 : Nat) = 2 by decide)) (xk_k (show ¬ (5 : Nat) = 2 by decide) (Or.inl (show ¬ (5 + 1 : Nat) = 2 by decide)) xk_n))) rfl ?_
  refine xe_ldn (ins := .iload 5) (len := 2) (by decide +kernel) rfl rfl rfl rfl ?_
  refine xe_ifne (off := 9) (t := 90) (by decide +kernel) (by decide) rfl hx5 (fun c101 => ?_) (fun c101 => ?_)
  · rw [if_pos c101] at h
    refine xW_lv rfl (l := [(0, xR_ (x0)), (2, xI (y0)), (3, xI (x3))]) (xsb_of ⟨rfl, rfl, rfl, trivial⟩ (show [2, 0, 3, 5].Nodup by decide)) ?_
    exact k113_90  hr4 hy0 hx3 h
  · rw [if_neg c101] at h
    refine xe_ldn (ins := .iload_n 2) (len := 1) (by decide +kernel) rfl rfl rfl rfl ?_
    refine xe_ifne (off := 5) (t := 90) (by decide +kernel) (by decide) rfl hy0 (fun c102 => ?_) (fun c102 => ?_)
    · rw [if_pos c102] at h
      refine xW_lv rfl (l := [(0, xR_ (x0)), (2, xI (y0)), (3, xI (x3))]) (xsb_of ⟨rfl, rfl, rfl, trivial⟩ (show [2, 0, 3, 5].Nodup by decide)) ?_
      exact k113_90  hr4 hy0 hx3 h
    · rw [if_neg c102] at h
      refine xe_ldn (ins := .iload_n 3) (len := 1) (by decide +kernel) rfl rfl rfl rfl ?_
      cases h
      exact xe_ret_i (ty := .int) (by decide +kernel) rfl rfl ⟨rfl, rfl, hx3⟩
def f113_73  (r4 : Nat → Int → Int → xj_M → Option (Int × xj_M)) (f : Nat) (x0 : Nat) (x3 : Int) (x5 : Int) (M : xj_M) : Option (Int × xj_M) := f113_78  r4 f (x0) (x3) (x5) (1) M
theorem k113_73 {d f : Nat}  {r4 : Nat → Int → Int → xj_M → Option (Int × xj_M)}  (hr4 : ∀ {x0 : Nat} {x2 : Int} {x3 : Int} {M : xj_M} {R : Int × xj_M}, xin x2 → xin x3 → r4 x0 x2 x3 M = some R → xW (d + 0) (none, d + 0, none) xr_113 (4, [(0, xR_ x0), (2, xI x2), (3, xI x3)], [], M) (xQi R)) {x0 : Nat} {x3 : Int} {x5 : Int} {M : xj_M} {R : Int × xj_M} (hx3 : xin x3) (hx5 : xin x5) (h : f113_73  r4 f x0 x3 x5 M = some R) : xW (d + 0) (none, d + 0, none) xr_113 (73, [(0, xR_ x0), (3, xI x3), (5, xI x5)], [], M) (xQi R) := by
  unfold f113_73 at h
  refine xe_iconst (n := 1) (by decide +kernel) rfl ?_
  refine xe_goto (off := 4) (nx := 78) (by decide +kernel) (by decide) ?_
  refine xW_lv rfl (l := [(0, xR_ (x0)), (3, xI (x3)), (5, xI (x5))]) (xsb_of ⟨rfl, rfl, rfl, trivial⟩ (show [0, 3, 5].Nodup by decide)) ?_
  exact k113_78  hr4 hx3 hx5 (show xin (1) by decide) h
def f113_77  (r4 : Nat → Int → Int → xj_M → Option (Int × xj_M)) (f : Nat) (x0 : Nat) (x3 : Int) (x5 : Int) (M : xj_M) : Option (Int × xj_M) := f113_78  r4 f (x0) (x3) (x5) (0) M
theorem k113_77 {d f : Nat}  {r4 : Nat → Int → Int → xj_M → Option (Int × xj_M)}  (hr4 : ∀ {x0 : Nat} {x2 : Int} {x3 : Int} {M : xj_M} {R : Int × xj_M}, xin x2 → xin x3 → r4 x0 x2 x3 M = some R → xW (d + 0) (none, d + 0, none) xr_113 (4, [(0, xR_ x0), (2, xI x2), (3, xI x3)], [], M) (xQi R)) {x0 : Nat} {x3 : Int} {x5 : Int} {M : xj_M} {R : Int × xj_M} (hx3 : xin x3) (hx5 : xin x5) (h : f113_77  r4 f x0 x3 x5 M = some R) : xW (d + 0) (none, d + 0, none) xr_113 (77, [(0, xR_ x0), (3, xI x3), (5, xI x5)], [], M) (xQi R) := by
  unfold f113_77 at h
  refine xe_iconst (n := 0) (by decide +kernel) rfl ?_
  refine xW_lv rfl (l := [(0, xR_ (x0)), (3, xI (x3)), (5, xI (x5))]) (xsb_of ⟨rfl, rfl, rfl, trivial⟩ (show [0, 3, 5].Nodup by decide)) ?_
  exact k113_78  hr4 hx3 hx5 (show xin (0) by decide) h
def f113_53  (r4 : Nat → Int → Int → xj_M → Option (Int × xj_M)) (f : Nat) (x0 : Nat) (x2 : Int) (x3 : Int) (x4 : Int) (y0 : Int) (M : xj_M) : Option (Int × xj_M) := (if (x4) = (10) then f113_77  r4 f (x0) (x3) (y0) M else (if ¬ (x2) = 0 then f113_73  r4 f (x0) (x3) (y0) M else (if ¬ (x4) = (35) then f113_77  r4 f (x0) (x3) (y0) M else f113_73  r4 f (x0) (x3) (y0) M)))
theorem k113_53 {d f : Nat}  {r4 : Nat → Int → Int → xj_M → Option (Int × xj_M)}  (hr4 : ∀ {x0 : Nat} {x2 : Int} {x3 : Int} {M : xj_M} {R : Int × xj_M}, xin x2 → xin x3 → r4 x0 x2 x3 M = some R → xW (d + 0) (none, d + 0, none) xr_113 (4, [(0, xR_ x0), (2, xI x2), (3, xI x3)], [], M) (xQi R)) {x0 : Nat} {x2 : Int} {x3 : Int} {x4 : Int} {y0 : Int} {M : xj_M} {R : Int × xj_M} (hx2 : xin x2) (hx3 : xin x3) (hx4 : xin x4) (hy0 : xin y0) (h : f113_53  r4 f x0 x2 x3 x4 y0 M = some R) : xW (d + 0) (none, d + 0, none) xr_113 (53, [(0, xR_ x0), (2, xI x2), (3, xI x3), (4, xI x4)], [xI y0], M) (xQi R) := by
  unfold f113_53 at h
  refine xe_isr (ins := .istore 5) (len := 2) (i := 5) (by decide +kernel) rfl rfl rfl (by decide) (xk_k (show ¬ (0 : Nat) = 5 by decide) (Or.inl (show ¬ (0 + 1 : Nat) = 5 by decide)) (xk_k (show ¬ (2 : Nat) = 5 by decide) (Or.inl (show ¬ (2 + 1 : Nat) = 5 by decide)) (xk_k (show ¬ (3 : Nat) = 5 by decide) (Or.inl (show ¬ (3 + 1 : Nat) = 5 by decide)) (xk_k (show ¬ (4 : Nat) = 5 by decide) (Or.inr (xI_cat _)) xk_n)))) rfl ?_
  refine xe_ldn (ins := .iload 4) (len := 2) (by decide +kernel) rfl rfl rfl rfl ?_
  refine xe_bipush (n := 10) (by decide +kernel) (by decide) rfl ?_
  refine xe_icmpeq (off := 18) (t := 77) (by decide +kernel) (by decide) rfl hx4 (show xin (10) by decide) (fun c103 => ?_) (fun c103 => ?_)
  · rw [if_pos c103] at h
    refine xW_lv rfl (l := [(0, xR_ (x0)), (3, xI (x3)), (5, xI (y0))]) (xsb_of ⟨rfl, rfl, rfl, trivial⟩ (show [5, 0, 2, 3, 4].Nodup by decide)) ?_
    exact k113_77  hr4 hx3 hy0 h
  · rw [if_neg c103] at h
    refine xe_ldn (ins := .iload_n 2) (len := 1) (by decide +kernel) rfl rfl rfl rfl ?_
    refine xe_ifne (off := 10) (t := 73) (by decide +kernel) (by decide) rfl hx2 (fun c104 => ?_) (fun c104 => ?_)
    · rw [if_pos c104] at h
      refine xW_lv rfl (l := [(0, xR_ (x0)), (3, xI (x3)), (5, xI (y0))]) (xsb_of ⟨rfl, rfl, rfl, trivial⟩ (show [5, 0, 2, 3, 4].Nodup by decide)) ?_
      exact k113_73  hr4 hx3 hy0 h
    · rw [if_neg c104] at h
      refine xe_ldn (ins := .iload 4) (len := 2) (by decide +kernel) rfl rfl rfl rfl ?_
      refine xe_bipush (n := 35) (by decide +kernel) (by decide) rfl ?_
      refine xe_icmpne (off := 7) (t := 77) (by decide +kernel) (by decide) rfl hx4 (show xin (35) by decide) (fun c105 => ?_) (fun c105 => ?_)
      · rw [if_pos c105] at h
        refine xW_lv rfl (l := [(0, xR_ (x0)), (3, xI (x3)), (5, xI (y0))]) (xsb_of ⟨rfl, rfl, rfl, trivial⟩ (show [5, 0, 2, 3, 4].Nodup by decide)) ?_
        exact k113_77  hr4 hx3 hy0 h
      · rw [if_neg c105] at h
        refine xW_lv rfl (l := [(0, xR_ (x0)), (3, xI (x3)), (5, xI (y0))]) (xsb_of ⟨rfl, rfl, rfl, trivial⟩ (show [5, 0, 2, 3, 4].Nodup by decide)) ?_
        exact k113_73  hr4 hx3 hy0 h
def f113_48  (r4 : Nat → Int → Int → xj_M → Option (Int × xj_M)) (f : Nat) (x0 : Nat) (x2 : Int) (x3 : Int) (x4 : Int) (M : xj_M) : Option (Int × xj_M) := f113_53  r4 f (x0) (x2) (x3) (x4) (1) M
theorem k113_48 {d f : Nat}  {r4 : Nat → Int → Int → xj_M → Option (Int × xj_M)}  (hr4 : ∀ {x0 : Nat} {x2 : Int} {x3 : Int} {M : xj_M} {R : Int × xj_M}, xin x2 → xin x3 → r4 x0 x2 x3 M = some R → xW (d + 0) (none, d + 0, none) xr_113 (4, [(0, xR_ x0), (2, xI x2), (3, xI x3)], [], M) (xQi R)) {x0 : Nat} {x2 : Int} {x3 : Int} {x4 : Int} {M : xj_M} {R : Int × xj_M} (hx2 : xin x2) (hx3 : xin x3) (hx4 : xin x4) (h : f113_48  r4 f x0 x2 x3 x4 M = some R) : xW (d + 0) (none, d + 0, none) xr_113 (48, [(0, xR_ x0), (2, xI x2), (3, xI x3), (4, xI x4)], [], M) (xQi R) := by
  unfold f113_48 at h
  refine xe_iconst (n := 1) (by decide +kernel) rfl ?_
  refine xe_goto (off := 4) (nx := 53) (by decide +kernel) (by decide) ?_
  refine xW_lv rfl (l := [(0, xR_ (x0)), (2, xI (x2)), (3, xI (x3)), (4, xI (x4))]) (xsb_of ⟨rfl, rfl, rfl, rfl, trivial⟩ (show [0, 2, 3, 4].Nodup by decide)) ?_
  exact k113_53  hr4 hx2 hx3 hx4 (show xin (1) by decide) h
def f113_4b  (r4 : Nat → Int → Int → xj_M → Option (Int × xj_M)) (f : Nat) (x0 : Nat) (x2 : Int) (x3 : Int) (M : xj_M) : Option (Int × xj_M) := ((xq_gi 8 1 (x0) M).bind fun v106 => (if (v106) ≤ (x3) then ((xq_gi 8 1 (x0) M).bind fun v109 => (some (v109, M))) else ((xq_gr 8 0 (x0) M).bind fun v111 => ((xq_ai 2 (v111) (x3) M).bind fun v113 => (if (v113) = (9) then f113_48  r4 f (x0) (x2) (x3) (v113) M else (if (v113) = (10) then f113_48  r4 f (x0) (x2) (x3) (v113) M else (if (v113) = (13) then f113_48  r4 f (x0) (x2) (x3) (v113) M else (if ¬ (v113) = (32) then f113_53  r4 f (x0) (x2) (x3) (v113) (0) M else f113_48  r4 f (x0) (x2) (x3) (v113) M))))))))
theorem k113_4b {d f : Nat}  {r4 : Nat → Int → Int → xj_M → Option (Int × xj_M)}  (hr4 : ∀ {x0 : Nat} {x2 : Int} {x3 : Int} {M : xj_M} {R : Int × xj_M}, xin x2 → xin x3 → r4 x0 x2 x3 M = some R → xW (d + 0) (none, d + 0, none) xr_113 (4, [(0, xR_ x0), (2, xI x2), (3, xI x3)], [], M) (xQi R)) {x0 : Nat} {x2 : Int} {x3 : Int} {M : xj_M} {R : Int × xj_M} (hx2 : xin x2) (hx3 : xin x3) (h : f113_4b  r4 f x0 x2 x3 M = some R) : xW (d + 0) (none, d + 0, none) xr_113 (4, [(0, xR_ x0), (2, xI x2), (3, xI x3)], [], M) (xQi R) := by
  unfold f113_4b at h
  refine xe_ldn (ins := .iload_n 3) (len := 1) (by decide +kernel) rfl rfl rfl rfl ?_
  refine xe_alr (ins := .aload_n 0) (len := 1) (i := 0) (by decide +kernel) rfl rfl rfl rfl rfl ?_
  obtain ⟨v106, e107, h⟩ := xbnd h
  refine xs_gi (i := 32) (c := 8) (k := 1) (by decide +kernel) (by decide) (by decide +kernel) e107 rfl ?_
  refine xe_icmpge (off := 87) (t := 96) (by decide +kernel) (by decide) rfl hx3 (xq_gi_in e107) (fun c108 => ?_) (fun c108 => ?_)
  · rw [if_pos c108] at h
    refine xe_alr (ins := .aload_n 0) (len := 1) (i := 0) (by decide +kernel) rfl rfl rfl rfl rfl ?_
    obtain ⟨v109, e110, h⟩ := xbnd h
    refine xs_gi (i := 32) (c := 8) (k := 1) (by decide +kernel) (by decide) (by decide +kernel) e110 rfl ?_
    cases h
    exact xe_ret_i (ty := .int) (by decide +kernel) rfl rfl ⟨rfl, rfl, (xq_gi_in e110)⟩
  · rw [if_neg c108] at h
    refine xe_alr (ins := .aload_n 0) (len := 1) (i := 0) (by decide +kernel) rfl rfl rfl rfl rfl ?_
    obtain ⟨v111, e112, h⟩ := xbnd h
    refine xs_gr (i := 9) (c := 8) (k := 0) (by decide +kernel) (by decide) (by decide +kernel) e112 rfl ?_
    refine xe_ldn (ins := .iload_n 3) (len := 1) (by decide +kernel) rfl rfl rfl rfl ?_
    obtain ⟨v113, e114, h⟩ := xbnd h
    refine xs_cald (by decide +kernel) hx3 e114 rfl ?_
    refine xe_isr (ins := .istore 4) (len := 2) (i := 4) (by decide +kernel) rfl rfl rfl (by decide) (xk_k (show ¬ (0 : Nat) = 4 by decide) (Or.inl (show ¬ (0 + 1 : Nat) = 4 by decide)) (xk_k (show ¬ (2 : Nat) = 4 by decide) (Or.inl (show ¬ (2 + 1 : Nat) = 4 by decide)) (xk_k (show ¬ (3 : Nat) = 4 by decide) (Or.inr (xI_cat _)) xk_n))) rfl ?_
    refine xe_ldn (ins := .iload 4) (len := 2) (by decide +kernel) rfl rfl rfl rfl ?_
    refine xe_bipush (n := 9) (by decide +kernel) (by decide) rfl ?_
    refine xe_icmpeq (off := 24) (t := 48) (by decide +kernel) (by decide) rfl (xq_ai_in e114) (show xin (9) by decide) (fun c115 => ?_) (fun c115 => ?_)
    · rw [if_pos c115] at h
      refine xW_lv rfl (l := [(0, xR_ (x0)), (2, xI (x2)), (3, xI (x3)), (4, xI (v113))]) (xsb_of ⟨rfl, rfl, rfl, rfl, trivial⟩ (show [4, 0, 2, 3].Nodup by decide)) ?_
      exact k113_48  hr4 hx2 hx3 (xq_ai_in e114) h
    · rw [if_neg c115] at h
      refine xe_ldn (ins := .iload 4) (len := 2) (by decide +kernel) rfl rfl rfl rfl ?_
      refine xe_bipush (n := 10) (by decide +kernel) (by decide) rfl ?_
      refine xe_icmpeq (off := 17) (t := 48) (by decide +kernel) (by decide) rfl (xq_ai_in e114) (show xin (10) by decide) (fun c116 => ?_) (fun c116 => ?_)
      · rw [if_pos c116] at h
        refine xW_lv rfl (l := [(0, xR_ (x0)), (2, xI (x2)), (3, xI (x3)), (4, xI (v113))]) (xsb_of ⟨rfl, rfl, rfl, rfl, trivial⟩ (show [4, 0, 2, 3].Nodup by decide)) ?_
        exact k113_48  hr4 hx2 hx3 (xq_ai_in e114) h
      · rw [if_neg c116] at h
        refine xe_ldn (ins := .iload 4) (len := 2) (by decide +kernel) rfl rfl rfl rfl ?_
        refine xe_bipush (n := 13) (by decide +kernel) (by decide) rfl ?_
        refine xe_icmpeq (off := 10) (t := 48) (by decide +kernel) (by decide) rfl (xq_ai_in e114) (show xin (13) by decide) (fun c117 => ?_) (fun c117 => ?_)
        · rw [if_pos c117] at h
          refine xW_lv rfl (l := [(0, xR_ (x0)), (2, xI (x2)), (3, xI (x3)), (4, xI (v113))]) (xsb_of ⟨rfl, rfl, rfl, rfl, trivial⟩ (show [4, 0, 2, 3].Nodup by decide)) ?_
          exact k113_48  hr4 hx2 hx3 (xq_ai_in e114) h
        · rw [if_neg c117] at h
          refine xe_ldn (ins := .iload 4) (len := 2) (by decide +kernel) rfl rfl rfl rfl ?_
          refine xe_bipush (n := 32) (by decide +kernel) (by decide) rfl ?_
          refine xe_icmpne (off := 7) (t := 52) (by decide +kernel) (by decide) rfl (xq_ai_in e114) (show xin (32) by decide) (fun c118 => ?_) (fun c118 => ?_)
          · rw [if_pos c118] at h
            refine xe_iconst (n := 0) (by decide +kernel) rfl ?_
            refine xW_lv rfl (l := [(0, xR_ (x0)), (2, xI (x2)), (3, xI (x3)), (4, xI (v113))]) (xsb_of ⟨rfl, rfl, rfl, rfl, trivial⟩ (show [4, 0, 2, 3].Nodup by decide)) ?_
            exact k113_53  hr4 hx2 hx3 (xq_ai_in e114) (show xin (0) by decide) h
          · rw [if_neg c118] at h
            refine xW_lv rfl (l := [(0, xR_ (x0)), (2, xI (x2)), (3, xI (x3)), (4, xI (v113))]) (xsb_of ⟨rfl, rfl, rfl, rfl, trivial⟩ (show [4, 0, 2, 3].Nodup by decide)) ?_
            exact k113_48  hr4 hx2 hx3 (xq_ai_in e114) h
def f113_4   (f : Nat) : Nat → Nat → Int → Int → xj_M → Option (Int × xj_M)
  | 0, _, _, _, _ => none
  | n + 1, x0, x2, x3, M => f113_4b   (f113_4   f n) f x0 x2 x3 M
theorem k113_4 {d f : Nat}     : ∀ {n : Nat} {x0 : Nat} {x2 : Int} {x3 : Int} {M : xj_M} {R : Int × xj_M}, xin x2 → xin x3 → f113_4   f n x0 x2 x3 M = some R → xW (d + 0) (none, d + 0, none) xr_113 (4, [(0, xR_ x0), (2, xI x2), (3, xI x3)], [], M) (xQi R) := by
  intro n
  induction n with
  | zero => intros; rename_i h; cases h
  | succ n ih => intros; rename_i h; exact k113_4b   ih (by assumption) (by assumption) h
def f113  (f : Nat) (a0 : Nat) (a1 : Int) (M : xj_M) : Option (Int × xj_M) := f113_4   f f (a0) (0) (a1) M
theorem k113 {d f : Nat}   {a0 : Nat} {a1 : Int} {M : xj_M} {R : Int × xj_M} (ha1 : xin a1) (h : f113  f a0 a1 M = some R) : xT (d + 1) 113 [xR_ a0, xI a1] M (xQi R) := by
  refine xT_m xr_113_e (X := (none, d + 0, none)) rfl (xa_1 (xR_cat _) (xa_1 (xI_cat _) xa_n)) (by decide) ?_
  unfold f113 at h
  refine xe_iconst (n := 0) (by decide +kernel) rfl ?_
  refine xe_isr (ins := .istore_n 2) (len := 1) (i := 2) (by decide +kernel) rfl rfl rfl (by decide) (xk_k (show ¬ (0 : Nat) = 2 by decide) (Or.inl (show ¬ (0 + 1 : Nat) = 2 by decide)) (xk_k (show ¬ (1 : Nat) = 2 by decide) (Or.inr (xI_cat _)) xk_n)) rfl ?_
  refine xe_ldn (ins := .iload_n 1) (len := 1) (by decide +kernel) rfl rfl rfl rfl ?_
  refine xe_isr (ins := .istore_n 3) (len := 1) (i := 3) (by decide +kernel) rfl rfl rfl (by decide) (xk_k (show ¬ (2 : Nat) = 3 by decide) (Or.inr (xI_cat _)) (xk_k (show ¬ (0 : Nat) = 3 by decide) (Or.inl (show ¬ (0 + 1 : Nat) = 3 by decide)) (xk_k (show ¬ (1 : Nat) = 3 by decide) (Or.inl (show ¬ (1 + 1 : Nat) = 3 by decide)) xk_n))) rfl ?_
  refine xW_lv rfl (l := [(0, xR_ (a0)), (2, xI (0)), (3, xI (a1))]) (xsb_of ⟨rfl, rfl, rfl, trivial⟩ (show [3, 2, 0, 1].Nodup by decide)) ?_
  exact k113_4   (show xin (0) by decide) ha1 h
-- ChangeHouse$Tape.put
def xr_120 : xj_mR := (8, yX8_put, cX8_put, 6, (Option.none : Option Jvm.ClassFile.FieldType), 4, false, (3, 213), (1, 2))
set_option maxRecDepth 20000 in
theorem xr_120_e : xj_row 120 = some xr_120 := rfl
def f120  (f : Nat) (a0 : Nat) (a1 : Int) (a2 : Int) (a3 : Int) (a4 : Int) (M : xj_M) : Option (xj_M) := ((xq_gr 8 3 (a0) M).bind fun v101 => ((xq_gi 8 2 (a0) M).bind fun v103 => ((xq_si (v101) (v103) (a1) M).bind fun M105 => ((xq_gr 8 4 (a0) M105).bind fun v107 => ((xq_gi 8 2 (a0) M105).bind fun v109 => ((xq_si (v107) (v109) (a2) M105).bind fun M111 => ((xq_gr 8 5 (a0) M111).bind fun v113 => ((xq_gi 8 2 (a0) M111).bind fun v115 => ((xq_si (v113) (v115) (a3) M111).bind fun M117 => ((xq_gr 8 6 (a0) M117).bind fun v119 => ((xq_gi 8 2 (a0) M117).bind fun v121 => ((xq_sl (v119) (v121) (a4) M117).bind fun M123 => ((xq_gi 8 2 (a0) M123).bind fun v125 => ((xq_pi 8 2 (a0) (xwr ((v125) + (1))) M123).bind fun M127 => (some M127)))))))))))))))
theorem k120 {d f : Nat}   {a0 : Nat} {a1 : Int} {a2 : Int} {a3 : Int} {a4 : Int} {M : xj_M} {R : xj_M} (ha1 : xin a1) (ha2 : xin a2) (ha3 : xin a3) (ha4 : xiN a4) (h : f120  f a0 a1 a2 a3 a4 M = some R) : xT (d + 1) 120 [xR_ a0, xI a1, xI a2, xI a3, xZ a4] M (xQv R) := by
  refine xT_m xr_120_e (X := (none, d + 0, none)) rfl (xa_1 (xR_cat _) (xa_1 (xI_cat _) (xa_1 (xI_cat _) (xa_1 (xI_cat _) (xa_2 (xZ_cat _) xa_n))))) (by decide) ?_
  unfold f120 at h
  refine xe_alr (ins := .aload_n 0) (len := 1) (i := 0) (by decide +kernel) rfl rfl rfl rfl rfl ?_
  obtain ⟨v101, e102, h⟩ := xbnd h
  refine xs_gr (i := 15) (c := 8) (k := 3) (by decide +kernel) (by decide) (by decide +kernel) e102 rfl ?_
  refine xe_alr (ins := .aload_n 0) (len := 1) (i := 0) (by decide +kernel) rfl rfl rfl rfl rfl ?_
  obtain ⟨v103, e104, h⟩ := xbnd h
  refine xs_gi (i := 36) (c := 8) (k := 2) (by decide +kernel) (by decide) (by decide +kernel) e104 rfl ?_
  refine xe_ldn (ins := .iload_n 1) (len := 1) (by decide +kernel) rfl rfl rfl rfl ?_
  obtain ⟨M105, e106, h⟩ := xbnd h
  refine xs_iast (by decide +kernel) (xq_gi_in e104) e106 rfl ?_
  refine xe_alr (ins := .aload_n 0) (len := 1) (i := 0) (by decide +kernel) rfl rfl rfl rfl rfl ?_
  obtain ⟨v107, e108, h⟩ := xbnd h
  refine xs_gr (i := 19) (c := 8) (k := 4) (by decide +kernel) (by decide) (by decide +kernel) e108 rfl ?_
  refine xe_alr (ins := .aload_n 0) (len := 1) (i := 0) (by decide +kernel) rfl rfl rfl rfl rfl ?_
  obtain ⟨v109, e110, h⟩ := xbnd h
  refine xs_gi (i := 36) (c := 8) (k := 2) (by decide +kernel) (by decide) (by decide +kernel) e110 rfl ?_
  refine xe_ldn (ins := .iload_n 2) (len := 1) (by decide +kernel) rfl rfl rfl rfl ?_
  obtain ⟨M111, e112, h⟩ := xbnd h
  refine xs_iast (by decide +kernel) (xq_gi_in e110) e112 rfl ?_
  refine xe_alr (ins := .aload_n 0) (len := 1) (i := 0) (by decide +kernel) rfl rfl rfl rfl rfl ?_
  obtain ⟨v113, e114, h⟩ := xbnd h
  refine xs_gr (i := 22) (c := 8) (k := 5) (by decide +kernel) (by decide) (by decide +kernel) e114 rfl ?_
  refine xe_alr (ins := .aload_n 0) (len := 1) (i := 0) (by decide +kernel) rfl rfl rfl rfl rfl ?_
  obtain ⟨v115, e116, h⟩ := xbnd h
  refine xs_gi (i := 36) (c := 8) (k := 2) (by decide +kernel) (by decide) (by decide +kernel) e116 rfl ?_
  refine xe_ldn (ins := .iload_n 3) (len := 1) (by decide +kernel) rfl rfl rfl rfl ?_
  obtain ⟨M117, e118, h⟩ := xbnd h
  refine xs_iast (by decide +kernel) (xq_gi_in e116) e118 rfl ?_
  refine xe_alr (ins := .aload_n 0) (len := 1) (i := 0) (by decide +kernel) rfl rfl rfl rfl rfl ?_
  obtain ⟨v119, e120, h⟩ := xbnd h
  refine xs_gr (i := 25) (c := 8) (k := 6) (by decide +kernel) (by decide) (by decide +kernel) e120 rfl ?_
  refine xe_alr (ins := .aload_n 0) (len := 1) (i := 0) (by decide +kernel) rfl rfl rfl rfl rfl ?_
  obtain ⟨v121, e122, h⟩ := xbnd h
  refine xs_gi (i := 36) (c := 8) (k := 2) (by decide +kernel) (by decide) (by decide +kernel) e122 rfl ?_
  refine xe_ldn (ins := .lload 4) (len := 2) (by decide +kernel) rfl rfl rfl rfl ?_
  obtain ⟨M123, e124, h⟩ := xbnd h
  refine xs_last (by decide +kernel) (xq_gi_in e122) e124 rfl ?_
  refine xe_alr (ins := .aload_n 0) (len := 1) (i := 0) (by decide +kernel) rfl rfl rfl rfl rfl ?_
  refine xe_dupr (by decide +kernel) rfl ?_
  obtain ⟨v125, e126, h⟩ := xbnd h
  refine xs_gi (i := 36) (c := 8) (k := 2) (by decide +kernel) (by decide) (by decide +kernel) e126 rfl ?_
  refine xe_iconst (n := 1) (by decide +kernel) rfl ?_
  refine xe_iadd (by decide +kernel) rfl ?_
  obtain ⟨M127, e128, h⟩ := xbnd h
  refine xs_p (i := 36) (c := 8) (k := 2) (by decide +kernel) (by decide +kernel) (by decide +kernel) e128 rfl ?_
  cases h
  exact xe_ret_v (by decide +kernel) rfl ⟨rfl, rfl⟩
-- ChangeHouse$Tape.isSmall
def xr_121 : xj_mR := (8, yX8_isSmall, cX8_isSmall, 1, (Option.some Jvm.ClassFile.FieldType.boolean), 1, false, (3, 130), (1, 2))
set_option maxRecDepth 20000 in
theorem xr_121_e : xj_row 121 = some xr_121 := rfl
def f121_17   (f : Nat) (y0 : Int) (M : xj_M) : Option (Int × xj_M) := (if (y0) = 0 ∨ (y0) = 1 then some (y0, M) else none)
theorem k121_17 {d f : Nat}     {y0 : Int} {M : xj_M} {R : Int × xj_M} (hy0 : xin y0) (h : f121_17   f y0 M = some R) : xW (d + 0) (none, d + 0, none) xr_121 (17, [], [xI y0], M) (xQi R) := by
  unfold f121_17 at h
  by_cases c101 : (y0) = 0 ∨ (y0) = 1
  · rw [if_pos c101] at h; cases h; exact xe_ret_i (ty := .boolean) (by decide +kernel) rfl (xbool c101) ⟨rfl, rfl, hy0⟩
  · rw [if_neg c101] at h; cases h
def f121_16   (f : Nat)  (M : xj_M) : Option (Int × xj_M) := f121_17   f (0) M
theorem k121_16 {d f : Nat}      {M : xj_M} {R : Int × xj_M}  (h : f121_16   f  M = some R) : xW (d + 0) (none, d + 0, none) xr_121 (16, [], [], M) (xQi R) := by
  unfold f121_16 at h
  refine xe_iconst (n := 0) (by decide +kernel) rfl ?_
  refine xW_lv rfl (l := []) (xsb_of trivial (show [].Nodup by decide)) ?_
  exact k121_17   (show xin (0) by decide) h
def f121  (f : Nat) (a0 : Int) (M : xj_M) : Option (Int × xj_M) := (if (a0) < (97) then f121_16   f  M else (if (122) < (a0) then f121_16   f  M else f121_17   f (1) M))
theorem k121 {d f : Nat}   {a0 : Int} {M : xj_M} {R : Int × xj_M} (ha0 : xin a0) (h : f121  f a0 M = some R) : xT (d + 1) 121 [xI a0] M (xQi R) := by
  refine xT_m xr_121_e (X := (none, d + 0, none)) rfl (xa_1 (xI_cat _) xa_n) (by decide) ?_
  unfold f121 at h
  refine xe_ldn (ins := .iload_n 0) (len := 1) (by decide +kernel) rfl rfl rfl rfl ?_
  refine xe_bipush (n := 97) (by decide +kernel) (by decide) rfl ?_
  refine xe_icmplt (off := 13) (t := 16) (by decide +kernel) (by decide) rfl ha0 (show xin (97) by decide) (fun c102 => ?_) (fun c102 => ?_)
  · rw [if_pos c102] at h
    refine xW_lv rfl (l := []) (xsb_of trivial (show [0].Nodup by decide)) ?_
    exact k121_16    h
  · rw [if_neg c102] at h
    refine xe_ldn (ins := .iload_n 0) (len := 1) (by decide +kernel) rfl rfl rfl rfl ?_
    refine xe_bipush (n := 122) (by decide +kernel) (by decide) rfl ?_
    refine xe_icmpgt (off := 7) (t := 16) (by decide +kernel) (by decide) rfl ha0 (show xin (122) by decide) (fun c103 => ?_) (fun c103 => ?_)
    · rw [if_pos c103] at h
      refine xW_lv rfl (l := []) (xsb_of trivial (show [0].Nodup by decide)) ?_
      exact k121_16    h
    · rw [if_neg c103] at h
      refine xe_iconst (n := 1) (by decide +kernel) rfl ?_
      refine xe_goto (off := 4) (nx := 17) (by decide +kernel) (by decide) ?_
      refine xW_lv rfl (l := []) (xsb_of trivial (show [0].Nodup by decide)) ?_
      exact k121_17   (show xin (1) by decide) h
-- ChangeHouse$Tape.isGreat
def xr_122 : xj_mR := (8, yX8_isGreat, cX8_isGreat, 1, (Option.some Jvm.ClassFile.FieldType.boolean), 1, false, (3, 216), (1, 2))
set_option maxRecDepth 20000 in
theorem xr_122_e : xj_row 122 = some xr_122 := rfl
def f122_17   (f : Nat) (y0 : Int) (M : xj_M) : Option (Int × xj_M) := (if (y0) = 0 ∨ (y0) = 1 then some (y0, M) else none)
theorem k122_17 {d f : Nat}     {y0 : Int} {M : xj_M} {R : Int × xj_M} (hy0 : xin y0) (h : f122_17   f y0 M = some R) : xW (d + 0) (none, d + 0, none) xr_122 (17, [], [xI y0], M) (xQi R) := by
  unfold f122_17 at h
  by_cases c101 : (y0) = 0 ∨ (y0) = 1
  · rw [if_pos c101] at h; cases h; exact xe_ret_i (ty := .boolean) (by decide +kernel) rfl (xbool c101) ⟨rfl, rfl, hy0⟩
  · rw [if_neg c101] at h; cases h
def f122_16   (f : Nat)  (M : xj_M) : Option (Int × xj_M) := f122_17   f (0) M
theorem k122_16 {d f : Nat}      {M : xj_M} {R : Int × xj_M}  (h : f122_16   f  M = some R) : xW (d + 0) (none, d + 0, none) xr_122 (16, [], [], M) (xQi R) := by
  unfold f122_16 at h
  refine xe_iconst (n := 0) (by decide +kernel) rfl ?_
  refine xW_lv rfl (l := []) (xsb_of trivial (show [].Nodup by decide)) ?_
  exact k122_17   (show xin (0) by decide) h
def f122  (f : Nat) (a0 : Int) (M : xj_M) : Option (Int × xj_M) := (if (a0) < (65) then f122_16   f  M else (if (90) < (a0) then f122_16   f  M else f122_17   f (1) M))
theorem k122 {d f : Nat}   {a0 : Int} {M : xj_M} {R : Int × xj_M} (ha0 : xin a0) (h : f122  f a0 M = some R) : xT (d + 1) 122 [xI a0] M (xQi R) := by
  refine xT_m xr_122_e (X := (none, d + 0, none)) rfl (xa_1 (xI_cat _) xa_n) (by decide) ?_
  unfold f122 at h
  refine xe_ldn (ins := .iload_n 0) (len := 1) (by decide +kernel) rfl rfl rfl rfl ?_
  refine xe_bipush (n := 65) (by decide +kernel) (by decide) rfl ?_
  refine xe_icmplt (off := 13) (t := 16) (by decide +kernel) (by decide) rfl ha0 (show xin (65) by decide) (fun c102 => ?_) (fun c102 => ?_)
  · rw [if_pos c102] at h
    refine xW_lv rfl (l := []) (xsb_of trivial (show [0].Nodup by decide)) ?_
    exact k122_16    h
  · rw [if_neg c102] at h
    refine xe_ldn (ins := .iload_n 0) (len := 1) (by decide +kernel) rfl rfl rfl rfl ?_
    refine xe_bipush (n := 90) (by decide +kernel) (by decide) rfl ?_
    refine xe_icmpgt (off := 7) (t := 16) (by decide +kernel) (by decide) rfl ha0 (show xin (90) by decide) (fun c103 => ?_) (fun c103 => ?_)
    · rw [if_pos c103] at h
      refine xW_lv rfl (l := []) (xsb_of trivial (show [0].Nodup by decide)) ?_
      exact k122_16    h
    · rw [if_neg c103] at h
      refine xe_iconst (n := 1) (by decide +kernel) rfl ?_
      refine xe_goto (off := 4) (nx := 17) (by decide +kernel) (by decide) ?_
      refine xW_lv rfl (l := []) (xsb_of trivial (show [0].Nodup by decide)) ?_
      exact k122_17   (show xin (1) by decide) h
-- ChangeHouse$Tape.isDigit
def xr_123 : xj_mR := (8, yX8_isDigit, cX8_isDigit, 1, (Option.some Jvm.ClassFile.FieldType.boolean), 1, false, (3, 137), (1, 2))
set_option maxRecDepth 20000 in
theorem xr_123_e : xj_row 123 = some xr_123 := rfl
def f123_17   (f : Nat) (y0 : Int) (M : xj_M) : Option (Int × xj_M) := (if (y0) = 0 ∨ (y0) = 1 then some (y0, M) else none)
theorem k123_17 {d f : Nat}     {y0 : Int} {M : xj_M} {R : Int × xj_M} (hy0 : xin y0) (h : f123_17   f y0 M = some R) : xW (d + 0) (none, d + 0, none) xr_123 (17, [], [xI y0], M) (xQi R) := by
  unfold f123_17 at h
  by_cases c101 : (y0) = 0 ∨ (y0) = 1
  · rw [if_pos c101] at h; cases h; exact xe_ret_i (ty := .boolean) (by decide +kernel) rfl (xbool c101) ⟨rfl, rfl, hy0⟩
  · rw [if_neg c101] at h; cases h
def f123_16   (f : Nat)  (M : xj_M) : Option (Int × xj_M) := f123_17   f (0) M
theorem k123_16 {d f : Nat}      {M : xj_M} {R : Int × xj_M}  (h : f123_16   f  M = some R) : xW (d + 0) (none, d + 0, none) xr_123 (16, [], [], M) (xQi R) := by
  unfold f123_16 at h
  refine xe_iconst (n := 0) (by decide +kernel) rfl ?_
  refine xW_lv rfl (l := []) (xsb_of trivial (show [].Nodup by decide)) ?_
  exact k123_17   (show xin (0) by decide) h
def f123  (f : Nat) (a0 : Int) (M : xj_M) : Option (Int × xj_M) := (if (a0) < (48) then f123_16   f  M else (if (57) < (a0) then f123_16   f  M else f123_17   f (1) M))
theorem k123 {d f : Nat}   {a0 : Int} {M : xj_M} {R : Int × xj_M} (ha0 : xin a0) (h : f123  f a0 M = some R) : xT (d + 1) 123 [xI a0] M (xQi R) := by
  refine xT_m xr_123_e (X := (none, d + 0, none)) rfl (xa_1 (xI_cat _) xa_n) (by decide) ?_
  unfold f123 at h
  refine xe_ldn (ins := .iload_n 0) (len := 1) (by decide +kernel) rfl rfl rfl rfl ?_
  refine xe_bipush (n := 48) (by decide +kernel) (by decide) rfl ?_
  refine xe_icmplt (off := 13) (t := 16) (by decide +kernel) (by decide) rfl ha0 (show xin (48) by decide) (fun c102 => ?_) (fun c102 => ?_)
  · rw [if_pos c102] at h
    refine xW_lv rfl (l := []) (xsb_of trivial (show [0].Nodup by decide)) ?_
    exact k123_16    h
  · rw [if_neg c102] at h
    refine xe_ldn (ins := .iload_n 0) (len := 1) (by decide +kernel) rfl rfl rfl rfl ?_
    refine xe_bipush (n := 57) (by decide +kernel) (by decide) rfl ?_
    refine xe_icmpgt (off := 7) (t := 16) (by decide +kernel) (by decide) rfl ha0 (show xin (57) by decide) (fun c103 => ?_) (fun c103 => ?_)
    · rw [if_pos c103] at h
      refine xW_lv rfl (l := []) (xsb_of trivial (show [0].Nodup by decide)) ?_
      exact k123_16    h
    · rw [if_neg c103] at h
      refine xe_iconst (n := 1) (by decide +kernel) rfl ?_
      refine xe_goto (off := 4) (nx := 17) (by decide +kernel) (by decide) ?_
      refine xW_lv rfl (l := []) (xsb_of trivial (show [0].Nodup by decide)) ?_
      exact k123_17   (show xin (1) by decide) h
-- ChangeHouse$Tape.lengthOf
def xr_124 : xj_mR := (8, yX8_lengthOf, cX8_lengthOf, 2, (Option.some Jvm.ClassFile.FieldType.int), 1, false, (4, 150), (1, 2))
set_option maxRecDepth 20000 in
theorem xr_124_e : xj_row 124 = some xr_124 := rfl
def f124  (f : Nat) (a0 : Nat) (a1 : Int) (M : xj_M) : Option (Int × xj_M) := ((xq_gr 8 5 (a0) M).bind fun v101 => ((xq_ai 3 (v101) (a1) M).bind fun v103 => ((xq_gr 8 4 (a0) M).bind fun v105 => ((xq_ai 3 (v105) (a1) M).bind fun v107 => (some (xwr ((v103) - (v107)), M))))))
theorem k124 {d f : Nat}   {a0 : Nat} {a1 : Int} {M : xj_M} {R : Int × xj_M} (ha1 : xin a1) (h : f124  f a0 a1 M = some R) : xT (d + 1) 124 [xR_ a0, xI a1] M (xQi R) := by
  refine xT_m xr_124_e (X := (none, d + 0, none)) rfl (xa_1 (xR_cat _) (xa_1 (xI_cat _) xa_n)) (by decide) ?_
  unfold f124 at h
  refine xe_alr (ins := .aload_n 0) (len := 1) (i := 0) (by decide +kernel) rfl rfl rfl rfl rfl ?_
  obtain ⟨v101, e102, h⟩ := xbnd h
  refine xs_gr (i := 22) (c := 8) (k := 5) (by decide +kernel) (by decide) (by decide +kernel) e102 rfl ?_
  refine xe_ldn (ins := .iload_n 1) (len := 1) (by decide +kernel) rfl rfl rfl rfl ?_
  obtain ⟨v103, e104, h⟩ := xbnd h
  refine xs_iald rfl (by decide +kernel) ha1 e104 rfl ?_
  refine xe_alr (ins := .aload_n 0) (len := 1) (i := 0) (by decide +kernel) rfl rfl rfl rfl rfl ?_
  obtain ⟨v105, e106, h⟩ := xbnd h
  refine xs_gr (i := 19) (c := 8) (k := 4) (by decide +kernel) (by decide) (by decide +kernel) e106 rfl ?_
  refine xe_ldn (ins := .iload_n 1) (len := 1) (by decide +kernel) rfl rfl rfl rfl ?_
  obtain ⟨v107, e108, h⟩ := xbnd h
  refine xs_iald rfl (by decide +kernel) ha1 e108 rfl ?_
  refine xe_isub (by decide +kernel) rfl ?_
  cases h
  exact xe_ret_i (ty := .int) (by decide +kernel) rfl rfl ⟨rfl, rfl, (xin_wr _)⟩
-- ChangeHouse$Tape.digitBehind
def xr_126 : xj_mR := (8, yX8_digitBehind, cX8_digitBehind, 3, (Option.some Jvm.ClassFile.FieldType.boolean), 1, false, (5, 109), (1, 2))
set_option maxRecDepth 20000 in
theorem xr_126_e : xj_row 126 = some xr_126 := rfl
def f126_42   (f : Nat) (y0 : Int) (M : xj_M) : Option (Int × xj_M) := (if (y0) = 0 ∨ (y0) = 1 then some (y0, M) else none)
theorem k126_42 {d f : Nat}     {y0 : Int} {M : xj_M} {R : Int × xj_M} (hy0 : xin y0) (h : f126_42   f y0 M = some R) : xW (d + 0) (none, d + 0, none) xr_126 (42, [], [xI y0], M) (xQi R) := by
  unfold f126_42 at h
  by_cases c101 : (y0) = 0 ∨ (y0) = 1
  · rw [if_pos c101] at h; cases h; exact xe_ret_i (ty := .boolean) (by decide +kernel) rfl (xbool c101) ⟨rfl, rfl, hy0⟩
  · rw [if_neg c101] at h; cases h
def f126_41   (f : Nat)  (M : xj_M) : Option (Int × xj_M) := f126_42   f (0) M
theorem k126_41 {d f : Nat}      {M : xj_M} {R : Int × xj_M}  (h : f126_41   f  M = some R) : xW (d + 0) (none, d + 0, none) xr_126 (41, [], [], M) (xQi R) := by
  unfold f126_41 at h
  refine xe_iconst (n := 0) (by decide +kernel) rfl ?_
  refine xW_lv rfl (l := []) (xsb_of trivial (show [].Nodup by decide)) ?_
  exact k126_42   (show xin (0) by decide) h
def f126  (f : Nat) (a0 : Nat) (a1 : Int) (M : xj_M) : Option (Int × xj_M) := ((xq_gr 8 5 (a0) M).bind fun v102 => ((xq_ai 3 (v102) (a1) M).bind fun v104 => ((xq_gi 8 1 (a0) M).bind fun v106 => (if (v106) ≤ (v104) then f126_41   f  M else ((xq_gr 8 0 (a0) M).bind fun v109 => ((xq_ai 2 (v109) (v104) M).bind fun v111 => (if (v111) < (48) then f126_41   f  M else ((xq_gr 8 0 (a0) M).bind fun v114 => ((xq_ai 2 (v114) (v104) M).bind fun v116 => (if (57) < (v116) then f126_41   f  M else f126_42   f (1) M))))))))))
theorem k126 {d f : Nat}   {a0 : Nat} {a1 : Int} {M : xj_M} {R : Int × xj_M} (ha1 : xin a1) (h : f126  f a0 a1 M = some R) : xT (d + 1) 126 [xR_ a0, xI a1] M (xQi R) := by
  refine xT_m xr_126_e (X := (none, d + 0, none)) rfl (xa_1 (xR_cat _) (xa_1 (xI_cat _) xa_n)) (by decide) ?_
  unfold f126 at h
  refine xe_alr (ins := .aload_n 0) (len := 1) (i := 0) (by decide +kernel) rfl rfl rfl rfl rfl ?_
  obtain ⟨v102, e103, h⟩ := xbnd h
  refine xs_gr (i := 22) (c := 8) (k := 5) (by decide +kernel) (by decide) (by decide +kernel) e103 rfl ?_
  refine xe_ldn (ins := .iload_n 1) (len := 1) (by decide +kernel) rfl rfl rfl rfl ?_
  obtain ⟨v104, e105, h⟩ := xbnd h
  refine xs_iald rfl (by decide +kernel) ha1 e105 rfl ?_
  refine xe_isr (ins := .istore_n 2) (len := 1) (i := 2) (by decide +kernel) rfl rfl rfl (by decide) (xk_k (show ¬ (0 : Nat) = 2 by decide) (Or.inl (show ¬ (0 + 1 : Nat) = 2 by decide)) (xk_k (show ¬ (1 : Nat) = 2 by decide) (Or.inr (xI_cat _)) xk_n)) rfl ?_
  refine xe_ldn (ins := .iload_n 2) (len := 1) (by decide +kernel) rfl rfl rfl rfl ?_
  refine xe_alr (ins := .aload_n 0) (len := 1) (i := 0) (by decide +kernel) rfl rfl rfl rfl rfl ?_
  obtain ⟨v106, e107, h⟩ := xbnd h
  refine xs_gi (i := 32) (c := 8) (k := 1) (by decide +kernel) (by decide) (by decide +kernel) e107 rfl ?_
  refine xe_icmpge (off := 29) (t := 41) (by decide +kernel) (by decide) rfl (xq_ai_in e105) (xq_gi_in e107) (fun c108 => ?_) (fun c108 => ?_)
  · rw [if_pos c108] at h
    refine xW_lv rfl (l := []) (xsb_of trivial (show [2, 0, 1].Nodup by decide)) ?_
    exact k126_41    h
  · rw [if_neg c108] at h
    refine xe_alr (ins := .aload_n 0) (len := 1) (i := 0) (by decide +kernel) rfl rfl rfl rfl rfl ?_
    obtain ⟨v109, e110, h⟩ := xbnd h
    refine xs_gr (i := 9) (c := 8) (k := 0) (by decide +kernel) (by decide) (by decide +kernel) e110 rfl ?_
    refine xe_ldn (ins := .iload_n 2) (len := 1) (by decide +kernel) rfl rfl rfl rfl ?_
    obtain ⟨v111, e112, h⟩ := xbnd h
    refine xs_cald (by decide +kernel) (xq_ai_in e105) e112 rfl ?_
    refine xe_bipush (n := 48) (by decide +kernel) (by decide) rfl ?_
    refine xe_icmplt (off := 18) (t := 41) (by decide +kernel) (by decide) rfl (xq_ai_in e112) (show xin (48) by decide) (fun c113 => ?_) (fun c113 => ?_)
    · rw [if_pos c113] at h
      refine xW_lv rfl (l := []) (xsb_of trivial (show [2, 0, 1].Nodup by decide)) ?_
      exact k126_41    h
    · rw [if_neg c113] at h
      refine xe_alr (ins := .aload_n 0) (len := 1) (i := 0) (by decide +kernel) rfl rfl rfl rfl rfl ?_
      obtain ⟨v114, e115, h⟩ := xbnd h
      refine xs_gr (i := 9) (c := 8) (k := 0) (by decide +kernel) (by decide) (by decide +kernel) e115 rfl ?_
      refine xe_ldn (ins := .iload_n 2) (len := 1) (by decide +kernel) rfl rfl rfl rfl ?_
      obtain ⟨v116, e117, h⟩ := xbnd h
      refine xs_cald (by decide +kernel) (xq_ai_in e105) e117 rfl ?_
      refine xe_bipush (n := 57) (by decide +kernel) (by decide) rfl ?_
      refine xe_icmpgt (off := 7) (t := 41) (by decide +kernel) (by decide) rfl (xq_ai_in e117) (show xin (57) by decide) (fun c118 => ?_) (fun c118 => ?_)
      · rw [if_pos c118] at h
        refine xW_lv rfl (l := []) (xsb_of trivial (show [2, 0, 1].Nodup by decide)) ?_
        exact k126_41    h
      · rw [if_neg c118] at h
        refine xe_iconst (n := 1) (by decide +kernel) rfl ?_
        refine xe_goto (off := 4) (nx := 42) (by decide +kernel) (by decide) ?_
        refine xW_lv rfl (l := []) (xsb_of trivial (show [2, 0, 1].Nodup by decide)) ?_
        exact k126_42   (show xin (1) by decide) h
-- ChangeHouse$Tape.wordOf
def xr_127 : xj_mR := (8, yX8_wordOf, cX8_wordOf, 7, (Option.some Jvm.ClassFile.FieldType.long), 2, false, (3, 142), (1, 2))
set_option maxRecDepth 20000 in
theorem xr_127_e : xj_row 127 = some xr_127 := rfl
def f127_71  (r5 : Nat → Int → Int → Int → Int → xj_M → Option (Int × xj_M)) (f : Nat) (x0 : Nat) (x1 : Int) (x2 : Int) (x5 : Int) (y0 : Int) (y1 : Int) (M : xj_M) : Option (Int × xj_M) := r5 (x0) (x1) (x2) (xwl ((y1) + (y0))) (xwr ((x5) + (1))) M
theorem k127_71 {d f : Nat}  {r5 : Nat → Int → Int → Int → Int → xj_M → Option (Int × xj_M)}  (hr5 : ∀ {x0 : Nat} {x1 : Int} {x2 : Int} {x3 : Int} {x5 : Int} {M : xj_M} {R : Int × xj_M}, xin x1 → xin x2 → xiN x3 → xin x5 → r5 x0 x1 x2 x3 x5 M = some R → xW (d + 1) (none, d + 1, none) xr_127 (5, [(0, xR_ x0), (1, xI x1), (2, xI x2), (3, xZ x3), (5, xI x5)], [], M) (xQl R)) {x0 : Nat} {x1 : Int} {x2 : Int} {x5 : Int} {y0 : Int} {y1 : Int} {M : xj_M} {R : Int × xj_M} (hx1 : xin x1) (hx2 : xin x2) (hx5 : xin x5) (hy0 : xin y0) (hy1 : xiN y1) (h : f127_71  r5 f x0 x1 x2 x5 y0 y1 M = some R) : xW (d + 1) (none, d + 1, none) xr_127 (71, [(0, xR_ x0), (1, xI x1), (2, xI x2), (5, xI x5)], [xI y0, xZ y1], M) (xQl R) := by
  unfold f127_71 at h
  refine xe_i2l (by decide +kernel) rfl hy0 ?_
  refine xe_ladd (by decide +kernel) rfl ?_
  refine xe_lsr (ins := .lstore_n 3) (len := 1) (i := 3) (by decide +kernel) rfl rfl rfl (by decide) (xk2_k (show ¬ (0 : Nat) = 3 by decide) (show ¬ (0 : Nat) = 3 + 1 by decide) (Or.inl (show ¬ (0 + 1 : Nat) = 3 by decide)) (xk2_k (show ¬ (1 : Nat) = 3 by decide) (show ¬ (1 : Nat) = 3 + 1 by decide) (Or.inl (show ¬ (1 + 1 : Nat) = 3 by decide)) (xk2_k (show ¬ (2 : Nat) = 3 by decide) (show ¬ (2 : Nat) = 3 + 1 by decide) (Or.inr (xI_cat _)) (xk2_k (show ¬ (5 : Nat) = 3 by decide) (show ¬ (5 : Nat) = 3 + 1 by decide) (Or.inl (show ¬ (5 + 1 : Nat) = 3 by decide)) xk2_n)))) rfl ?_
  refine xe_iincr (i := 5) (n := 1) (by decide +kernel) (by decide) rfl (xk_k (show ¬ (3 : Nat) = 5 by decide) (Or.inl (show ¬ (3 + 1 : Nat) = 5 by decide)) (xk_k (show ¬ (0 : Nat) = 5 by decide) (Or.inl (show ¬ (0 + 1 : Nat) = 5 by decide)) (xk_k (show ¬ (1 : Nat) = 5 by decide) (Or.inl (show ¬ (1 + 1 : Nat) = 5 by decide)) (xk_k (show ¬ (2 : Nat) = 5 by decide) (Or.inl (show ¬ (2 + 1 : Nat) = 5 by decide)) (xk_d rfl xk_n))))) rfl ?_
  refine xe_goto (off := -72) (nx := 5) (by decide +kernel) (by decide) ?_
  refine xW_lv rfl (l := [(0, xR_ (x0)), (1, xI (x1)), (2, xI (x2)), (3, xZ (xwl ((y1) + (y0)))), (5, xI (xwr ((x5) + (1))))]) (xsb_of ⟨rfl, rfl, rfl, rfl, rfl, trivial⟩ (show [5, 3, 0, 1, 2].Nodup by decide)) ?_
  exact hr5 hx1 hx2 (xiN_wl _) (xin_wr _) h
def f127_50  (r5 : Nat → Int → Int → Int → Int → xj_M → Option (Int × xj_M)) (f : Nat) (x0 : Nat) (x1 : Int) (x2 : Int) (x3 : Int) (x5 : Int) (x6 : Int) (M : xj_M) : Option (Int × xj_M) := (if ¬ (x6) = 0 then f127_71  r5 f (x0) (x1) (x2) (x5) (xwr ((xwr ((x6) - (97))) + (1))) (xwl ((x3) * (27))) M else f127_71  r5 f (x0) (x1) (x2) (x5) (0) (xwl ((x3) * (27))) M)
theorem k127_50 {d f : Nat}  {r5 : Nat → Int → Int → Int → Int → xj_M → Option (Int × xj_M)}  (hr5 : ∀ {x0 : Nat} {x1 : Int} {x2 : Int} {x3 : Int} {x5 : Int} {M : xj_M} {R : Int × xj_M}, xin x1 → xin x2 → xiN x3 → xin x5 → r5 x0 x1 x2 x3 x5 M = some R → xW (d + 1) (none, d + 1, none) xr_127 (5, [(0, xR_ x0), (1, xI x1), (2, xI x2), (3, xZ x3), (5, xI x5)], [], M) (xQl R)) {x0 : Nat} {x1 : Int} {x2 : Int} {x3 : Int} {x5 : Int} {x6 : Int} {M : xj_M} {R : Int × xj_M} (hx1 : xin x1) (hx2 : xin x2) (hx3 : xiN x3) (hx5 : xin x5) (hx6 : xin x6) (h : f127_50  r5 f x0 x1 x2 x3 x5 x6 M = some R) : xW (d + 1) (none, d + 1, none) xr_127 (50, [(0, xR_ x0), (1, xI x1), (2, xI x2), (3, xZ x3), (5, xI x5), (6, xI x6)], [], M) (xQl R) := by
  unfold f127_50 at h
  refine xe_ldn (ins := .lload_n 3) (len := 1) (by decide +kernel) rfl rfl rfl rfl ?_
  refine xe_ldc2 (i := 135) (n := 27) (by decide +kernel) (by decide +kernel) rfl ?_
  refine xe_lmul (by decide +kernel) rfl ?_
  refine xe_ldn (ins := .iload 6) (len := 2) (by decide +kernel) rfl rfl rfl rfl ?_
  refine xe_ifne (off := 7) (t := 64) (by decide +kernel) (by decide) rfl hx6 (fun c101 => ?_) (fun c101 => ?_)
  · rw [if_pos c101] at h
    refine xe_ldn (ins := .iload 6) (len := 2) (by decide +kernel) rfl rfl rfl rfl ?_
    refine xe_bipush (n := 97) (by decide +kernel) (by decide) rfl ?_
    refine xe_isub (by decide +kernel) rfl ?_
    refine xe_iconst (n := 1) (by decide +kernel) rfl ?_
    refine xe_iadd (by decide +kernel) rfl ?_
    refine xW_lv rfl (l := [(0, xR_ (x0)), (1, xI (x1)), (2, xI (x2)), (5, xI (x5))]) (xsb_of ⟨rfl, rfl, rfl, rfl, trivial⟩ (show [0, 1, 2, 3, 5, 6].Nodup by decide)) ?_
    exact k127_71  hr5 hx1 hx2 hx5 (xin_wr _) (xiN_wl _) h
  · rw [if_neg c101] at h
    refine xe_iconst (n := 0) (by decide +kernel) rfl ?_
    refine xe_goto (off := 10) (nx := 71) (by decide +kernel) (by decide) ?_
    refine xW_lv rfl (l := [(0, xR_ (x0)), (1, xI (x1)), (2, xI (x2)), (5, xI (x5))]) (xsb_of ⟨rfl, rfl, rfl, rfl, trivial⟩ (show [0, 1, 2, 3, 5, 6].Nodup by decide)) ?_
    exact k127_71  hr5 hx1 hx2 hx5 (show xin (0) by decide) (xiN_wl _) h
def f127_31  (r5 : Nat → Int → Int → Int → Int → xj_M → Option (Int × xj_M)) (f : Nat) (x0 : Nat) (x1 : Int) (x2 : Int) (x3 : Int) (x5 : Int) (y0 : Int) (M : xj_M) : Option (Int × xj_M) := (if (y0) = 0 then f127_50  r5 f (x0) (x1) (x2) (x3) (x5) (y0) M else ((f121  f (y0) M).bind fun R104 => (if ¬ (R104.1) = 0 then f127_50  r5 f (x0) (x1) (x2) (x3) (x5) (y0) R104.2 else (some (-1, R104.2)))))
theorem k127_31 {d f : Nat}  {r5 : Nat → Int → Int → Int → Int → xj_M → Option (Int × xj_M)}  (hr5 : ∀ {x0 : Nat} {x1 : Int} {x2 : Int} {x3 : Int} {x5 : Int} {M : xj_M} {R : Int × xj_M}, xin x1 → xin x2 → xiN x3 → xin x5 → r5 x0 x1 x2 x3 x5 M = some R → xW (d + 1) (none, d + 1, none) xr_127 (5, [(0, xR_ x0), (1, xI x1), (2, xI x2), (3, xZ x3), (5, xI x5)], [], M) (xQl R)) {x0 : Nat} {x1 : Int} {x2 : Int} {x3 : Int} {x5 : Int} {y0 : Int} {M : xj_M} {R : Int × xj_M} (hx1 : xin x1) (hx2 : xin x2) (hx3 : xiN x3) (hx5 : xin x5) (hy0 : xin y0) (h : f127_31  r5 f x0 x1 x2 x3 x5 y0 M = some R) : xW (d + 1) (none, d + 1, none) xr_127 (31, [(0, xR_ x0), (1, xI x1), (2, xI x2), (3, xZ x3), (5, xI x5)], [xI y0], M) (xQl R) := by
  unfold f127_31 at h
  refine xe_isr (ins := .istore 6) (len := 2) (i := 6) (by decide +kernel) rfl rfl rfl (by decide) (xk_k (show ¬ (0 : Nat) = 6 by decide) (Or.inl (show ¬ (0 + 1 : Nat) = 6 by decide)) (xk_k (show ¬ (1 : Nat) = 6 by decide) (Or.inl (show ¬ (1 + 1 : Nat) = 6 by decide)) (xk_k (show ¬ (2 : Nat) = 6 by decide) (Or.inl (show ¬ (2 + 1 : Nat) = 6 by decide)) (xk_k (show ¬ (3 : Nat) = 6 by decide) (Or.inl (show ¬ (3 + 1 : Nat) = 6 by decide)) (xk_k (show ¬ (5 : Nat) = 6 by decide) (Or.inr (xI_cat _)) xk_n))))) rfl ?_
  refine xe_ldn (ins := .iload 6) (len := 2) (by decide +kernel) rfl rfl rfl rfl ?_
  refine xe_ifeq (off := 15) (t := 50) (by decide +kernel) (by decide) rfl hy0 (fun c102 => ?_) (fun c102 => ?_)
  · rw [if_pos c102] at h
    refine xW_lv rfl (l := [(0, xR_ (x0)), (1, xI (x1)), (2, xI (x2)), (3, xZ (x3)), (5, xI (x5)), (6, xI (y0))]) (xsb_of ⟨rfl, rfl, rfl, rfl, rfl, rfl, trivial⟩ (show [6, 0, 1, 2, 3, 5].Nodup by decide)) ?_
    exact k127_50  hr5 hx1 hx2 hx3 hx5 hy0 h
  · rw [if_neg c102] at h
    refine xe_ldn (ins := .iload 6) (len := 2) (by decide +kernel) rfl rfl rfl rfl ?_
    obtain ⟨R104, e103, h⟩ := xbnd h
    refine xs_cs (kd := 2) (by decide) (i := 43) (j := 121) (ar := [xI (y0)]) (rest := []) (r2 := xr_121) (by decide +kernel) (by decide +kernel) (by decide +kernel) xr_121_e rfl (by decide) ?_
    refine xc_i (k121 (d := d + 0)  hy0 e103) rfl (fun hi105 => ?_)
    refine xe_ifne (off := 7) (t := 50) (by decide +kernel) (by decide) rfl hi105 (fun c106 => ?_) (fun c106 => ?_)
    · rw [if_pos c106] at h
      refine xW_lv rfl (l := [(0, xR_ (x0)), (1, xI (x1)), (2, xI (x2)), (3, xZ (x3)), (5, xI (x5)), (6, xI (y0))]) (xsb_of ⟨rfl, rfl, rfl, rfl, rfl, rfl, trivial⟩ (show [6, 0, 1, 2, 3, 5].Nodup by decide)) ?_
      exact k127_50  hr5 hx1 hx2 hx3 hx5 hy0 h
    · rw [if_neg c106] at h
      refine xe_ldc2 (i := 133) (n := -1) (by decide +kernel) (by decide +kernel) rfl ?_
      cases h
      exact xe_ret_l (by decide +kernel) rfl ⟨rfl, rfl, (show xiN (-1) by decide)⟩
def f127_97   (f : Nat) (y0 : Int) (M : xj_M) : Option (Int × xj_M) := (some (y0, M))
theorem k127_97 {d f : Nat}     {y0 : Int} {M : xj_M} {R : Int × xj_M} (hy0 : xiN y0) (h : f127_97   f y0 M = some R) : xW (d + 1) (none, d + 1, none) xr_127 (97, [], [xZ y0], M) (xQl R) := by
  unfold f127_97 at h
  cases h
  exact xe_ret_l (by decide +kernel) rfl ⟨rfl, rfl, hy0⟩
def f127_5b  (r5 : Nat → Int → Int → Int → Int → xj_M → Option (Int × xj_M)) (f : Nat) (x0 : Nat) (x1 : Int) (x2 : Int) (x3 : Int) (x5 : Int) (M : xj_M) : Option (Int × xj_M) := (if (8) ≤ (x5) then (if (x2) ≤ (8) then f127_97   f (xwl ((2000000000000) + (x3))) M else f127_97   f (-1) M) else (if (x2) ≤ (x5) then f127_31  r5 f (x0) (x1) (x2) (x3) (x5) (0) M else ((xq_gr 8 0 (x0) M).bind fun v110 => ((xq_ai 2 (v110) (xwr ((x1) + (x5))) M).bind fun v112 => f127_31  r5 f (x0) (x1) (x2) (x3) (x5) (v112) M))))
theorem k127_5b {d f : Nat}  {r5 : Nat → Int → Int → Int → Int → xj_M → Option (Int × xj_M)}  (hr5 : ∀ {x0 : Nat} {x1 : Int} {x2 : Int} {x3 : Int} {x5 : Int} {M : xj_M} {R : Int × xj_M}, xin x1 → xin x2 → xiN x3 → xin x5 → r5 x0 x1 x2 x3 x5 M = some R → xW (d + 1) (none, d + 1, none) xr_127 (5, [(0, xR_ x0), (1, xI x1), (2, xI x2), (3, xZ x3), (5, xI x5)], [], M) (xQl R)) {x0 : Nat} {x1 : Int} {x2 : Int} {x3 : Int} {x5 : Int} {M : xj_M} {R : Int × xj_M} (hx1 : xin x1) (hx2 : xin x2) (hx3 : xiN x3) (hx5 : xin x5) (h : f127_5b  r5 f x0 x1 x2 x3 x5 M = some R) : xW (d + 1) (none, d + 1, none) xr_127 (5, [(0, xR_ x0), (1, xI x1), (2, xI x2), (3, xZ x3), (5, xI x5)], [], M) (xQl R) := by
  unfold f127_5b at h
  refine xe_ldn (ins := .iload 5) (len := 2) (by decide +kernel) rfl rfl rfl rfl ?_
  refine xe_bipush (n := 8) (by decide +kernel) (by decide) rfl ?_
  refine xe_icmpge (off := 71) (t := 80) (by decide +kernel) (by decide) rfl hx5 (show xin (8) by decide) (fun c107 => ?_) (fun c107 => ?_)
  · rw [if_pos c107] at h
    refine xe_ldn (ins := .iload_n 2) (len := 1) (by decide +kernel) rfl rfl rfl rfl ?_
    refine xe_bipush (n := 8) (by decide +kernel) (by decide) rfl ?_
    refine xe_icmple (off := 9) (t := 92) (by decide +kernel) (by decide) rfl hx2 (show xin (8) by decide) (fun c108 => ?_) (fun c108 => ?_)
    · rw [if_pos c108] at h
      refine xe_ldc2 (i := 137) (n := 2000000000000) (by decide +kernel) (by decide +kernel) rfl ?_
      refine xe_ldn (ins := .lload_n 3) (len := 1) (by decide +kernel) rfl rfl rfl rfl ?_
      refine xe_ladd (by decide +kernel) rfl ?_
      refine xW_lv rfl (l := []) (xsb_of trivial (show [0, 1, 2, 3, 5].Nodup by decide)) ?_
      exact k127_97   (xiN_wl _) h
    · rw [if_neg c108] at h
      refine xe_ldc2 (i := 133) (n := -1) (by decide +kernel) (by decide +kernel) rfl ?_
      refine xe_goto (off := 8) (nx := 97) (by decide +kernel) (by decide) ?_
      refine xW_lv rfl (l := []) (xsb_of trivial (show [0, 1, 2, 3, 5].Nodup by decide)) ?_
      exact k127_97   (show xiN (-1) by decide) h
  · rw [if_neg c107] at h
    refine xe_ldn (ins := .iload 5) (len := 2) (by decide +kernel) rfl rfl rfl rfl ?_
    refine xe_ldn (ins := .iload_n 2) (len := 1) (by decide +kernel) rfl rfl rfl rfl ?_
    refine xe_icmpge (off := 15) (t := 30) (by decide +kernel) (by decide) rfl hx5 hx2 (fun c109 => ?_) (fun c109 => ?_)
    · rw [if_pos c109] at h
      refine xe_iconst (n := 0) (by decide +kernel) rfl ?_
      refine xW_lv rfl (l := [(0, xR_ (x0)), (1, xI (x1)), (2, xI (x2)), (3, xZ (x3)), (5, xI (x5))]) (xsb_of ⟨rfl, rfl, rfl, rfl, rfl, trivial⟩ (show [0, 1, 2, 3, 5].Nodup by decide)) ?_
      exact k127_31  hr5 hx1 hx2 hx3 hx5 (show xin (0) by decide) h
    · rw [if_neg c109] at h
      refine xe_alr (ins := .aload_n 0) (len := 1) (i := 0) (by decide +kernel) rfl rfl rfl rfl rfl ?_
      obtain ⟨v110, e111, h⟩ := xbnd h
      refine xs_gr (i := 9) (c := 8) (k := 0) (by decide +kernel) (by decide) (by decide +kernel) e111 rfl ?_
      refine xe_ldn (ins := .iload_n 1) (len := 1) (by decide +kernel) rfl rfl rfl rfl ?_
      refine xe_ldn (ins := .iload 5) (len := 2) (by decide +kernel) rfl rfl rfl rfl ?_
      refine xe_iadd (by decide +kernel) rfl ?_
      obtain ⟨v112, e113, h⟩ := xbnd h
      refine xs_cald (by decide +kernel) (xin_wr _) e113 rfl ?_
      refine xe_goto (off := 4) (nx := 31) (by decide +kernel) (by decide) ?_
      refine xW_lv rfl (l := [(0, xR_ (x0)), (1, xI (x1)), (2, xI (x2)), (3, xZ (x3)), (5, xI (x5))]) (xsb_of ⟨rfl, rfl, rfl, rfl, rfl, trivial⟩ (show [0, 1, 2, 3, 5].Nodup by decide)) ?_
      exact k127_31  hr5 hx1 hx2 hx3 hx5 (xq_ai_in e113) h
def f127_5   (f : Nat) : Nat → Nat → Int → Int → Int → Int → xj_M → Option (Int × xj_M)
  | 0, _, _, _, _, _, _ => none
  | n + 1, x0, x1, x2, x3, x5, M => f127_5b   (f127_5   f n) f x0 x1 x2 x3 x5 M
theorem k127_5 {d f : Nat}     : ∀ {n : Nat} {x0 : Nat} {x1 : Int} {x2 : Int} {x3 : Int} {x5 : Int} {M : xj_M} {R : Int × xj_M}, xin x1 → xin x2 → xiN x3 → xin x5 → f127_5   f n x0 x1 x2 x3 x5 M = some R → xW (d + 1) (none, d + 1, none) xr_127 (5, [(0, xR_ x0), (1, xI x1), (2, xI x2), (3, xZ x3), (5, xI x5)], [], M) (xQl R) := by
  intro n
  induction n with
  | zero => intros; rename_i h; cases h
  | succ n ih => intros; rename_i h; exact k127_5b   ih (by assumption) (by assumption) (by assumption) (by assumption) h
def f127  (f : Nat) (a0 : Nat) (a1 : Int) (a2 : Int) (M : xj_M) : Option (Int × xj_M) := f127_5   f f (a0) (a1) (a2) (0) (0) M
theorem k127 {d f : Nat}   {a0 : Nat} {a1 : Int} {a2 : Int} {M : xj_M} {R : Int × xj_M} (ha1 : xin a1) (ha2 : xin a2) (h : f127  f a0 a1 a2 M = some R) : xT (d + 2) 127 [xR_ a0, xI a1, xI a2] M (xQl R) := by
  refine xT_m xr_127_e (X := (none, d + 1, none)) rfl (xa_1 (xR_cat _) (xa_1 (xI_cat _) (xa_1 (xI_cat _) xa_n))) (by decide) ?_
  unfold f127 at h
  refine xe_lconst (n := 0) (z := 0) (by decide +kernel) rfl rfl ?_
  refine xe_lsr (ins := .lstore_n 3) (len := 1) (i := 3) (by decide +kernel) rfl rfl rfl (by decide) (xk2_k (show ¬ (0 : Nat) = 3 by decide) (show ¬ (0 : Nat) = 3 + 1 by decide) (Or.inl (show ¬ (0 + 1 : Nat) = 3 by decide)) (xk2_k (show ¬ (1 : Nat) = 3 by decide) (show ¬ (1 : Nat) = 3 + 1 by decide) (Or.inl (show ¬ (1 + 1 : Nat) = 3 by decide)) (xk2_k (show ¬ (2 : Nat) = 3 by decide) (show ¬ (2 : Nat) = 3 + 1 by decide) (Or.inr (xI_cat _)) xk2_n))) rfl ?_
  refine xe_iconst (n := 0) (by decide +kernel) rfl ?_
  refine xe_isr (ins := .istore 5) (len := 2) (i := 5) (by decide +kernel) rfl rfl rfl (by decide) (xk_k (show ¬ (3 : Nat) = 5 by decide) (Or.inl (show ¬ (3 + 1 : Nat) = 5 by decide)) (xk_k (show ¬ (0 : Nat) = 5 by decide) (Or.inl (show ¬ (0 + 1 : Nat) = 5 by decide)) (xk_k (show ¬ (1 : Nat) = 5 by decide) (Or.inl (show ¬ (1 + 1 : Nat) = 5 by decide)) (xk_k (show ¬ (2 : Nat) = 5 by decide) (Or.inl (show ¬ (2 + 1 : Nat) = 5 by decide)) xk_n)))) rfl ?_
  refine xW_lv rfl (l := [(0, xR_ (a0)), (1, xI (a1)), (2, xI (a2)), (3, xZ (0)), (5, xI (0))]) (xsb_of ⟨rfl, rfl, rfl, rfl, rfl, trivial⟩ (show [5, 3, 0, 1, 2].Nodup by decide)) ?_
  exact k127_5   ha1 ha2 (show xiN (0) by decide) (show xin (0) by decide) h
-- ChangeHouse$Tape.cellOf
def xr_128 : xj_mR := (8, yX8_cellOf, cX8_cellOf, 6, (Option.some Jvm.ClassFile.FieldType.int), 2, false, (3, 225), (1, 2))
set_option maxRecDepth 20000 in
theorem xr_128_e : xj_row 128 = some xr_128 := rfl
def f128_39   (f : Nat)  (M : xj_M) : Option (Int × xj_M) := (some (-1, M))
theorem k128_39 {d f : Nat}      {M : xj_M} {R : Int × xj_M}  (h : f128_39   f  M = some R) : xW (d + 1) (none, d + 1, none) xr_128 (39, [], [], M) (xQi R) := by
  unfold f128_39 at h
  refine xe_iconst (n := -1) (by decide +kernel) rfl ?_
  cases h
  exact xe_ret_i (ty := .int) (by decide +kernel) rfl rfl ⟨rfl, rfl, (show xin (-1) by decide)⟩
def f128_116   (f : Nat) (y0 : Int) (M : xj_M) : Option (Int × xj_M) := (some (y0, M))
theorem k128_116 {d f : Nat}     {y0 : Int} {M : xj_M} {R : Int × xj_M} (hy0 : xin y0) (h : f128_116   f y0 M = some R) : xW (d + 1) (none, d + 1, none) xr_128 (116, [], [xI y0], M) (xQi R) := by
  unfold f128_116 at h
  cases h
  exact xe_ret_i (ty := .int) (by decide +kernel) rfl rfl ⟨rfl, rfl, hy0⟩
def f128_47b  (r47 : Nat → Int → Int → Int → Int → Int → xj_M → Option (Int × xj_M)) (f : Nat) (x0 : Nat) (x1 : Int) (x2 : Int) (x3 : Int) (x4 : Int) (x5 : Int) (M : xj_M) : Option (Int × xj_M) := (if (x2) ≤ (x5) then (if (x4) ≤ (12) then f128_116   f (xwr ((x3) + (xwr ((6) * (xwr ((x4) - (1))))))) M else f128_116   f (-1) M) else ((xq_gr 8 0 (x0) M).bind fun v103 => ((xq_ai 2 (v103) (xwr ((x1) + (x5))) M).bind fun v105 => ((f123  f (v105) M).bind fun R108 => (if ¬ (R108.1) = 0 then ((xq_gr 8 0 (x0) R108.2).bind fun v111 => ((xq_ai 2 (v111) (xwr ((x1) + (x5))) R108.2).bind fun v113 => r47 (x0) (x1) (x2) (x3) (xwr ((xwr ((xwr ((x4) * (10))) + (v113))) - (48))) (xwr ((x5) + (1))) R108.2)) else (some (-1, R108.2)))))))
theorem k128_47b {d f : Nat}  {r47 : Nat → Int → Int → Int → Int → Int → xj_M → Option (Int × xj_M)}  (hr47 : ∀ {x0 : Nat} {x1 : Int} {x2 : Int} {x3 : Int} {x4 : Int} {x5 : Int} {M : xj_M} {R : Int × xj_M}, xin x1 → xin x2 → xin x3 → xin x4 → xin x5 → r47 x0 x1 x2 x3 x4 x5 M = some R → xW (d + 1) (none, d + 1, none) xr_128 (47, [(0, xR_ x0), (1, xI x1), (2, xI x2), (3, xI x3), (4, xI x4), (5, xI x5)], [], M) (xQi R)) {x0 : Nat} {x1 : Int} {x2 : Int} {x3 : Int} {x4 : Int} {x5 : Int} {M : xj_M} {R : Int × xj_M} (hx1 : xin x1) (hx2 : xin x2) (hx3 : xin x3) (hx4 : xin x4) (hx5 : xin x5) (h : f128_47b  r47 f x0 x1 x2 x3 x4 x5 M = some R) : xW (d + 1) (none, d + 1, none) xr_128 (47, [(0, xR_ x0), (1, xI x1), (2, xI x2), (3, xI x3), (4, xI x4), (5, xI x5)], [], M) (xQi R) := by
  unfold f128_47b at h
  refine xe_ldn (ins := .iload 5) (len := 2) (by decide +kernel) rfl rfl rfl rfl ?_
  refine xe_ldn (ins := .iload_n 2) (len := 1) (by decide +kernel) rfl rfl rfl rfl ?_
  refine xe_icmpge (off := 46) (t := 96) (by decide +kernel) (by decide) rfl hx5 hx2 (fun c101 => ?_) (fun c101 => ?_)
  · rw [if_pos c101] at h
    refine xe_ldn (ins := .iload 4) (len := 2) (by decide +kernel) rfl rfl rfl rfl ?_
    refine xe_bipush (n := 12) (by decide +kernel) (by decide) rfl ?_
    refine xe_icmple (off := 7) (t := 107) (by decide +kernel) (by decide) rfl hx4 (show xin (12) by decide) (fun c102 => ?_) (fun c102 => ?_)
    · rw [if_pos c102] at h
      refine xe_ldn (ins := .iload_n 3) (len := 1) (by decide +kernel) rfl rfl rfl rfl ?_
      refine xe_bipush (n := 6) (by decide +kernel) (by decide) rfl ?_
      refine xe_ldn (ins := .iload 4) (len := 2) (by decide +kernel) rfl rfl rfl rfl ?_
      refine xe_iconst (n := 1) (by decide +kernel) rfl ?_
      refine xe_isub (by decide +kernel) rfl ?_
      refine xe_imul (by decide +kernel) rfl ?_
      refine xe_iadd (by decide +kernel) rfl ?_
      refine xW_lv rfl (l := []) (xsb_of trivial (show [0, 1, 2, 3, 4, 5].Nodup by decide)) ?_
      exact k128_116   (xin_wr _) h
    · rw [if_neg c102] at h
      refine xe_iconst (n := -1) (by decide +kernel) rfl ?_
      refine xe_goto (off := 12) (nx := 116) (by decide +kernel) (by decide) ?_
      refine xW_lv rfl (l := []) (xsb_of trivial (show [0, 1, 2, 3, 4, 5].Nodup by decide)) ?_
      exact k128_116   (show xin (-1) by decide) h
  · rw [if_neg c101] at h
    refine xe_alr (ins := .aload_n 0) (len := 1) (i := 0) (by decide +kernel) rfl rfl rfl rfl rfl ?_
    obtain ⟨v103, e104, h⟩ := xbnd h
    refine xs_gr (i := 9) (c := 8) (k := 0) (by decide +kernel) (by decide) (by decide +kernel) e104 rfl ?_
    refine xe_ldn (ins := .iload_n 1) (len := 1) (by decide +kernel) rfl rfl rfl rfl ?_
    refine xe_ldn (ins := .iload 5) (len := 2) (by decide +kernel) rfl rfl rfl rfl ?_
    refine xe_iadd (by decide +kernel) rfl ?_
    obtain ⟨v105, e106, h⟩ := xbnd h
    refine xs_cald (by decide +kernel) (xin_wr _) e106 rfl ?_
    obtain ⟨R108, e107, h⟩ := xbnd h
    refine xs_cs (kd := 2) (by decide) (i := 56) (j := 123) (ar := [xI (v105)]) (rest := []) (r2 := xr_123) (by decide +kernel) (by decide +kernel) (by decide +kernel) xr_123_e rfl (by decide) ?_
    refine xc_i (k123 (d := d + 0)  (xq_ai_in e106) e107) rfl (fun hi109 => ?_)
    refine xe_ifne (off := 5) (t := 70) (by decide +kernel) (by decide) rfl hi109 (fun c110 => ?_) (fun c110 => ?_)
    · rw [if_pos c110] at h
      refine xe_ldn (ins := .iload 4) (len := 2) (by decide +kernel) rfl rfl rfl rfl ?_
      refine xe_bipush (n := 10) (by decide +kernel) (by decide) rfl ?_
      refine xe_imul (by decide +kernel) rfl ?_
      refine xe_alr (ins := .aload_n 0) (len := 1) (i := 0) (by decide +kernel) rfl rfl rfl rfl rfl ?_
      obtain ⟨v111, e112, h⟩ := xbnd h
      refine xs_gr (i := 9) (c := 8) (k := 0) (by decide +kernel) (by decide) (by decide +kernel) e112 rfl ?_
      refine xe_ldn (ins := .iload_n 1) (len := 1) (by decide +kernel) rfl rfl rfl rfl ?_
      refine xe_ldn (ins := .iload 5) (len := 2) (by decide +kernel) rfl rfl rfl rfl ?_
      refine xe_iadd (by decide +kernel) rfl ?_
      obtain ⟨v113, e114, h⟩ := xbnd h
      refine xs_cald (by decide +kernel) (xin_wr _) e114 rfl ?_
      refine xe_iadd (by decide +kernel) rfl ?_
      refine xe_bipush (n := 48) (by decide +kernel) (by decide) rfl ?_
      refine xe_isub (by decide +kernel) rfl ?_
      refine xe_isr (ins := .istore 4) (len := 2) (i := 4) (by decide +kernel) rfl rfl rfl (by decide) (xk_k (show ¬ (0 : Nat) = 4 by decide) (Or.inl (show ¬ (0 + 1 : Nat) = 4 by decide)) (xk_k (show ¬ (1 : Nat) = 4 by decide) (Or.inl (show ¬ (1 + 1 : Nat) = 4 by decide)) (xk_k (show ¬ (2 : Nat) = 4 by decide) (Or.inl (show ¬ (2 + 1 : Nat) = 4 by decide)) (xk_k (show ¬ (3 : Nat) = 4 by decide) (Or.inr (xI_cat _)) (xk_d rfl (xk_k (show ¬ (5 : Nat) = 4 by decide) (Or.inl (show ¬ (5 + 1 : Nat) = 4 by decide)) xk_n)))))) rfl ?_
      refine xe_iincr (i := 5) (n := 1) (by decide +kernel) (by decide) rfl (xk_k (show ¬ (4 : Nat) = 5 by decide) (Or.inr (xI_cat _)) (xk_k (show ¬ (0 : Nat) = 5 by decide) (Or.inl (show ¬ (0 + 1 : Nat) = 5 by decide)) (xk_k (show ¬ (1 : Nat) = 5 by decide) (Or.inl (show ¬ (1 + 1 : Nat) = 5 by decide)) (xk_k (show ¬ (2 : Nat) = 5 by decide) (Or.inl (show ¬ (2 + 1 : Nat) = 5 by decide)) (xk_k (show ¬ (3 : Nat) = 5 by decide) (Or.inl (show ¬ (3 + 1 : Nat) = 5 by decide)) (xk_d rfl xk_n)))))) rfl ?_
      refine xe_goto (off := -46) (nx := 47) (by decide +kernel) (by decide) ?_
      refine xW_lv rfl (l := [(0, xR_ (x0)), (1, xI (x1)), (2, xI (x2)), (3, xI (x3)), (4, xI (xwr ((xwr ((xwr ((x4) * (10))) + (v113))) - (48)))), (5, xI (xwr ((x5) + (1))))]) (xsb_of ⟨rfl, rfl, rfl, rfl, rfl, rfl, trivial⟩ (show [5, 4, 0, 1, 2, 3].Nodup by decide)) ?_
      exact hr47 hx1 hx2 hx3 (xin_wr _) (xin_wr _) h
    · rw [if_neg c110] at h
      refine xe_iconst (n := -1) (by decide +kernel) rfl ?_
      cases h
      exact xe_ret_i (ty := .int) (by decide +kernel) rfl rfl ⟨rfl, rfl, (show xin (-1) by decide)⟩
def f128_47   (f : Nat) : Nat → Nat → Int → Int → Int → Int → Int → xj_M → Option (Int × xj_M)
  | 0, _, _, _, _, _, _, _ => none
  | n + 1, x0, x1, x2, x3, x4, x5, M => f128_47b   (f128_47   f n) f x0 x1 x2 x3 x4 x5 M
theorem k128_47 {d f : Nat}     : ∀ {n : Nat} {x0 : Nat} {x1 : Int} {x2 : Int} {x3 : Int} {x4 : Int} {x5 : Int} {M : xj_M} {R : Int × xj_M}, xin x1 → xin x2 → xin x3 → xin x4 → xin x5 → f128_47   f n x0 x1 x2 x3 x4 x5 M = some R → xW (d + 1) (none, d + 1, none) xr_128 (47, [(0, xR_ x0), (1, xI x1), (2, xI x2), (3, xI x3), (4, xI x4), (5, xI x5)], [], M) (xQi R) := by
  intro n
  induction n with
  | zero => intros; rename_i h; cases h
  | succ n ih => intros; rename_i h; exact k128_47b   ih (by assumption) (by assumption) (by assumption) (by assumption) (by assumption) h
def f128  (f : Nat) (a0 : Nat) (a1 : Int) (a2 : Int) (M : xj_M) : Option (Int × xj_M) := ((xq_gr 8 0 (a0) M).bind fun v115 => ((xq_ai 2 (v115) (a1) M).bind fun v117 => (if (6) ≤ (xwr ((v117) - (65))) then f128_39   f  M else (if (a2) < (2) then f128_39   f  M else (if (3) < (a2) then f128_39   f  M else ((xq_gr 8 0 (a0) M).bind fun v122 => ((xq_ai 2 (v122) (xwr ((a1) + (1))) M).bind fun v124 => (if ¬ (v124) = (48) then f128_47   f f (a0) (a1) (a2) (xwr ((v117) - (65))) (0) (1) M else f128_39   f  M))))))))
theorem k128 {d f : Nat}   {a0 : Nat} {a1 : Int} {a2 : Int} {M : xj_M} {R : Int × xj_M} (ha1 : xin a1) (ha2 : xin a2) (h : f128  f a0 a1 a2 M = some R) : xT (d + 2) 128 [xR_ a0, xI a1, xI a2] M (xQi R) := by
  refine xT_m xr_128_e (X := (none, d + 1, none)) rfl (xa_1 (xR_cat _) (xa_1 (xI_cat _) (xa_1 (xI_cat _) xa_n))) (by decide) ?_
  unfold f128 at h
  refine xe_alr (ins := .aload_n 0) (len := 1) (i := 0) (by decide +kernel) rfl rfl rfl rfl rfl ?_
  obtain ⟨v115, e116, h⟩ := xbnd h
  refine xs_gr (i := 9) (c := 8) (k := 0) (by decide +kernel) (by decide) (by decide +kernel) e116 rfl ?_
  refine xe_ldn (ins := .iload_n 1) (len := 1) (by decide +kernel) rfl rfl rfl rfl ?_
  obtain ⟨v117, e118, h⟩ := xbnd h
  refine xs_cald (by decide +kernel) ha1 e118 rfl ?_
  refine xe_bipush (n := 65) (by decide +kernel) (by decide) rfl ?_
  refine xe_isub (by decide +kernel) rfl ?_
  refine xe_isr (ins := .istore_n 3) (len := 1) (i := 3) (by decide +kernel) rfl rfl rfl (by decide) (xk_k (show ¬ (0 : Nat) = 3 by decide) (Or.inl (show ¬ (0 + 1 : Nat) = 3 by decide)) (xk_k (show ¬ (1 : Nat) = 3 by decide) (Or.inl (show ¬ (1 + 1 : Nat) = 3 by decide)) (xk_k (show ¬ (2 : Nat) = 3 by decide) (Or.inr (xI_cat _)) xk_n))) rfl ?_
  refine xe_ldn (ins := .iload_n 3) (len := 1) (by decide +kernel) rfl rfl rfl rfl ?_
  refine xe_bipush (n := 6) (by decide +kernel) (by decide) rfl ?_
  refine xe_icmpge (off := 26) (t := 39) (by decide +kernel) (by decide) rfl (xin_wr _) (show xin (6) by decide) (fun c119 => ?_) (fun c119 => ?_)
  · rw [if_pos c119] at h
    refine xW_lv rfl (l := []) (xsb_of trivial (show [3, 0, 1, 2].Nodup by decide)) ?_
    exact k128_39    h
  · rw [if_neg c119] at h
    refine xe_ldn (ins := .iload_n 2) (len := 1) (by decide +kernel) rfl rfl rfl rfl ?_
    refine xe_iconst (n := 2) (by decide +kernel) rfl ?_
    refine xe_icmplt (off := 21) (t := 39) (by decide +kernel) (by decide) rfl ha2 (show xin (2) by decide) (fun c120 => ?_) (fun c120 => ?_)
    · rw [if_pos c120] at h
      refine xW_lv rfl (l := []) (xsb_of trivial (show [3, 0, 1, 2].Nodup by decide)) ?_
      exact k128_39    h
    · rw [if_neg c120] at h
      refine xe_ldn (ins := .iload_n 2) (len := 1) (by decide +kernel) rfl rfl rfl rfl ?_
      refine xe_iconst (n := 3) (by decide +kernel) rfl ?_
      refine xe_icmpgt (off := 16) (t := 39) (by decide +kernel) (by decide) rfl ha2 (show xin (3) by decide) (fun c121 => ?_) (fun c121 => ?_)
      · rw [if_pos c121] at h
        refine xW_lv rfl (l := []) (xsb_of trivial (show [3, 0, 1, 2].Nodup by decide)) ?_
        exact k128_39    h
      · rw [if_neg c121] at h
        refine xe_alr (ins := .aload_n 0) (len := 1) (i := 0) (by decide +kernel) rfl rfl rfl rfl rfl ?_
        obtain ⟨v122, e123, h⟩ := xbnd h
        refine xs_gr (i := 9) (c := 8) (k := 0) (by decide +kernel) (by decide) (by decide +kernel) e123 rfl ?_
        refine xe_ldn (ins := .iload_n 1) (len := 1) (by decide +kernel) rfl rfl rfl rfl ?_
        refine xe_iconst (n := 1) (by decide +kernel) rfl ?_
        refine xe_iadd (by decide +kernel) rfl ?_
        obtain ⟨v124, e125, h⟩ := xbnd h
        refine xs_cald (by decide +kernel) (xin_wr _) e125 rfl ?_
        refine xe_bipush (n := 48) (by decide +kernel) (by decide) rfl ?_
        refine xe_icmpne (off := 5) (t := 41) (by decide +kernel) (by decide) rfl (xq_ai_in e125) (show xin (48) by decide) (fun c126 => ?_) (fun c126 => ?_)
        · rw [if_pos c126] at h
          refine xe_iconst (n := 0) (by decide +kernel) rfl ?_
          refine xe_isr (ins := .istore 4) (len := 2) (i := 4) (by decide +kernel) rfl rfl rfl (by decide) (xk_k (show ¬ (3 : Nat) = 4 by decide) (Or.inr (xI_cat _)) (xk_k (show ¬ (0 : Nat) = 4 by decide) (Or.inl (show ¬ (0 + 1 : Nat) = 4 by decide)) (xk_k (show ¬ (1 : Nat) = 4 by decide) (Or.inl (show ¬ (1 + 1 : Nat) = 4 by decide)) (xk_k (show ¬ (2 : Nat) = 4 by decide) (Or.inl (show ¬ (2 + 1 : Nat) = 4 by decide)) xk_n)))) rfl ?_
          refine xe_iconst (n := 1) (by decide +kernel) rfl ?_
          refine xe_isr (ins := .istore 5) (len := 2) (i := 5) (by decide +kernel) rfl rfl rfl (by decide) (xk_k (show ¬ (4 : Nat) = 5 by decide) (Or.inr (xI_cat _)) (xk_k (show ¬ (3 : Nat) = 5 by decide) (Or.inl (show ¬ (3 + 1 : Nat) = 5 by decide)) (xk_k (show ¬ (0 : Nat) = 5 by decide) (Or.inl (show ¬ (0 + 1 : Nat) = 5 by decide)) (xk_k (show ¬ (1 : Nat) = 5 by decide) (Or.inl (show ¬ (1 + 1 : Nat) = 5 by decide)) (xk_k (show ¬ (2 : Nat) = 5 by decide) (Or.inl (show ¬ (2 + 1 : Nat) = 5 by decide)) xk_n))))) rfl ?_
          refine xW_lv rfl (l := [(0, xR_ (a0)), (1, xI (a1)), (2, xI (a2)), (3, xI (xwr ((v117) - (65)))), (4, xI (0)), (5, xI (1))]) (xsb_of ⟨rfl, rfl, rfl, rfl, rfl, rfl, trivial⟩ (show [5, 4, 3, 0, 1, 2].Nodup by decide)) ?_
          exact k128_47   ha1 ha2 (xin_wr _) (show xin (0) by decide) (show xin (1) by decide) h
        · rw [if_neg c126] at h
          refine xW_lv rfl (l := []) (xsb_of trivial (show [3, 0, 1, 2].Nodup by decide)) ?_
          exact k128_39    h
-- ChangeHouse$Ways.<init>
def xr_129 : xj_mR := (9, yX9_init, cX9_init, 1, (Option.none : Option Jvm.ClassFile.FieldType), 0, true, (1, 157), (1, 4))
set_option maxRecDepth 20000 in
theorem xr_129_e : xj_row 129 = some xr_129 := rfl
def f129  (f : Nat) (a0 : Nat) (M : xj_M) : Option (xj_M) := ((xq_nz (a0)).bind fun _ => ((xq_na 4 (8) M).bind fun p102 => ((xq_pr 9 0 (a0) (p102.1) p102.2).bind fun M104 => ((xq_na 3 (8) M104).bind fun p106 => ((xq_pr 9 1 (a0) (p106.1) p106.2).bind fun M108 => ((xq_na 3 (8) M108).bind fun p110 => ((xq_pr 9 2 (a0) (p110.1) p110.2).bind fun M112 => ((xq_na 3 (9) M112).bind fun p114 => ((xq_pr 9 8 (a0) (p114.1) p114.2).bind fun M116 => ((xq_na 3 (8) M116).bind fun p118 => ((xq_pr 9 9 (a0) (p118.1) p118.2).bind fun M120 => ((xq_na 3 (8) M120).bind fun p122 => ((xq_pr 9 10 (a0) (p122.1) p122.2).bind fun M124 => ((xq_na 3 (8) M124).bind fun p126 => ((xq_pr 9 11 (a0) (p126.1) p126.2).bind fun M128 => ((xq_na 4 (4) M128).bind fun p130 => ((xq_pr 9 12 (a0) (p130.1) p130.2).bind fun M132 => ((xq_na 4 (32) M132).bind fun p134 => ((xq_pr 9 13 (a0) (p134.1) p134.2).bind fun M136 => (some M136))))))))))))))))))))
theorem k129 {d f : Nat}   {a0 : Nat} {M : xj_M} {R : xj_M}  (h : f129  f a0 M = some R) : xT (d + 1) 129 [xR_ a0] M (xQv R) := by
  refine xT_m xr_129_e (X := (none, d + 0, none)) rfl (xa_1 (xR_cat _) xa_n) (by decide) ?_
  unfold f129 at h
  refine xe_alr (ins := .aload_n 0) (len := 1) (i := 0) (by decide +kernel) rfl rfl rfl rfl rfl ?_
  obtain ⟨_, e101, h⟩ := xbnd h
  refine xe_oi (i := 3) (j := 0) (by decide +kernel) (by decide +kernel) (by rfl) (xq_nz_ne e101) rfl ?_
  refine xe_alr (ins := .aload_n 0) (len := 1) (i := 0) (by decide +kernel) rfl rfl rfl rfl rfl ?_
  refine xe_bipush (n := 8) (by decide +kernel) (by decide) rfl ?_
  obtain ⟨p102, e103, h⟩ := xbnd h
  refine xs_na (kk := 4) (ty := .long) (x := p102.1) (M1 := p102.2) (by decide +kernel) rfl (show xin (8) by decide) e103 rfl ?_
  obtain ⟨M104, e105, h⟩ := xbnd h
  refine xs_p (i := 9) (c := 9) (k := 0) (by decide +kernel) (by decide +kernel) (by decide +kernel) e105 rfl ?_
  refine xe_alr (ins := .aload_n 0) (len := 1) (i := 0) (by decide +kernel) rfl rfl rfl rfl rfl ?_
  refine xe_bipush (n := 8) (by decide +kernel) (by decide) rfl ?_
  obtain ⟨p106, e107, h⟩ := xbnd h
  refine xs_na (kk := 3) (ty := .int) (x := p106.1) (M1 := p106.2) (by decide +kernel) rfl (show xin (8) by decide) e107 rfl ?_
  obtain ⟨M108, e109, h⟩ := xbnd h
  refine xs_p (i := 15) (c := 9) (k := 1) (by decide +kernel) (by decide +kernel) (by decide +kernel) e109 rfl ?_
  refine xe_alr (ins := .aload_n 0) (len := 1) (i := 0) (by decide +kernel) rfl rfl rfl rfl rfl ?_
  refine xe_bipush (n := 8) (by decide +kernel) (by decide) rfl ?_
  obtain ⟨p110, e111, h⟩ := xbnd h
  refine xs_na (kk := 3) (ty := .int) (x := p110.1) (M1 := p110.2) (by decide +kernel) rfl (show xin (8) by decide) e111 rfl ?_
  obtain ⟨M112, e113, h⟩ := xbnd h
  refine xs_p (i := 19) (c := 9) (k := 2) (by decide +kernel) (by decide +kernel) (by decide +kernel) e113 rfl ?_
  refine xe_alr (ins := .aload_n 0) (len := 1) (i := 0) (by decide +kernel) rfl rfl rfl rfl rfl ?_
  refine xe_bipush (n := 9) (by decide +kernel) (by decide) rfl ?_
  obtain ⟨p114, e115, h⟩ := xbnd h
  refine xs_na (kk := 3) (ty := .int) (x := p114.1) (M1 := p114.2) (by decide +kernel) rfl (show xin (9) by decide) e115 rfl ?_
  obtain ⟨M116, e117, h⟩ := xbnd h
  refine xs_p (i := 22) (c := 9) (k := 8) (by decide +kernel) (by decide +kernel) (by decide +kernel) e117 rfl ?_
  refine xe_alr (ins := .aload_n 0) (len := 1) (i := 0) (by decide +kernel) rfl rfl rfl rfl rfl ?_
  refine xe_bipush (n := 8) (by decide +kernel) (by decide) rfl ?_
  obtain ⟨p118, e119, h⟩ := xbnd h
  refine xs_na (kk := 3) (ty := .int) (x := p118.1) (M1 := p118.2) (by decide +kernel) rfl (show xin (8) by decide) e119 rfl ?_
  obtain ⟨M120, e121, h⟩ := xbnd h
  refine xs_p (i := 25) (c := 9) (k := 9) (by decide +kernel) (by decide +kernel) (by decide +kernel) e121 rfl ?_
  refine xe_alr (ins := .aload_n 0) (len := 1) (i := 0) (by decide +kernel) rfl rfl rfl rfl rfl ?_
  refine xe_bipush (n := 8) (by decide +kernel) (by decide) rfl ?_
  obtain ⟨p122, e123, h⟩ := xbnd h
  refine xs_na (kk := 3) (ty := .int) (x := p122.1) (M1 := p122.2) (by decide +kernel) rfl (show xin (8) by decide) e123 rfl ?_
  obtain ⟨M124, e125, h⟩ := xbnd h
  refine xs_p (i := 28) (c := 9) (k := 10) (by decide +kernel) (by decide +kernel) (by decide +kernel) e125 rfl ?_
  refine xe_alr (ins := .aload_n 0) (len := 1) (i := 0) (by decide +kernel) rfl rfl rfl rfl rfl ?_
  refine xe_bipush (n := 8) (by decide +kernel) (by decide) rfl ?_
  obtain ⟨p126, e127, h⟩ := xbnd h
  refine xs_na (kk := 3) (ty := .int) (x := p126.1) (M1 := p126.2) (by decide +kernel) rfl (show xin (8) by decide) e127 rfl ?_
  obtain ⟨M128, e129, h⟩ := xbnd h
  refine xs_p (i := 31) (c := 9) (k := 11) (by decide +kernel) (by decide +kernel) (by decide +kernel) e129 rfl ?_
  refine xe_alr (ins := .aload_n 0) (len := 1) (i := 0) (by decide +kernel) rfl rfl rfl rfl rfl ?_
  refine xe_iconst (n := 4) (by decide +kernel) rfl ?_
  obtain ⟨p130, e131, h⟩ := xbnd h
  refine xs_na (kk := 4) (ty := .long) (x := p130.1) (M1 := p130.2) (by decide +kernel) rfl (show xin (4) by decide) e131 rfl ?_
  obtain ⟨M132, e133, h⟩ := xbnd h
  refine xs_p (i := 34) (c := 9) (k := 12) (by decide +kernel) (by decide +kernel) (by decide +kernel) e133 rfl ?_
  refine xe_alr (ins := .aload_n 0) (len := 1) (i := 0) (by decide +kernel) rfl rfl rfl rfl rfl ?_
  refine xe_bipush (n := 32) (by decide +kernel) (by decide) rfl ?_
  obtain ⟨p134, e135, h⟩ := xbnd h
  refine xs_na (kk := 4) (ty := .long) (x := p134.1) (M1 := p134.2) (by decide +kernel) rfl (show xin (32) by decide) e135 rfl ?_
  obtain ⟨M136, e137, h⟩ := xbnd h
  refine xs_p (i := 37) (c := 9) (k := 13) (by decide +kernel) (by decide +kernel) (by decide +kernel) e137 rfl ?_
  cases h
  exact xe_ret_v (by decide +kernel) rfl ⟨rfl, rfl⟩
-- ChangeHouse$Ways.fix
def xr_131 : xj_mR := (9, yX9_fix, cX9_fix, 4, (Option.some Jvm.ClassFile.FieldType.boolean), 2, false, (8, 75), (1, 4))
set_option maxRecDepth 20000 in
theorem xr_131_e : xj_row 131 = some xr_131 := rfl
def f131_30   (f : Nat) (y0 : Int) (M : xj_M) : Option (Int × xj_M) := (if (y0) = 0 ∨ (y0) = 1 then some (y0, M) else none)
theorem k131_30 {d f : Nat}     {y0 : Int} {M : xj_M} {R : Int × xj_M} (hy0 : xin y0) (h : f131_30   f y0 M = some R) : xW (d + 0) (none, d + 0, none) xr_131 (30, [], [xI y0], M) (xQi R) := by
  unfold f131_30 at h
  by_cases c101 : (y0) = 0 ∨ (y0) = 1
  · rw [if_pos c101] at h; cases h; exact xe_ret_i (ty := .boolean) (by decide +kernel) rfl (xbool c101) ⟨rfl, rfl, hy0⟩
  · rw [if_neg c101] at h; cases h
def f131  (f : Nat) (a0 : Nat) (a1 : Int) (a2 : Int) (M : xj_M) : Option (Int × xj_M) := ((xq_gr 9 8 (a0) M).bind fun v102 => ((xq_ai 3 (v102) (0) M).bind fun v104 => (if ¬ (xand (xshr (v104) (a1)) (1)) = (1) then ((xq_gr 9 0 (a0) M).bind fun v107 => ((xq_sl (v107) (a1) (a2) M).bind fun M109 => ((xq_gr 9 8 (a0) M109).bind fun v111 => ((xq_ai 3 (v111) (0) M109).bind fun v113 => ((xq_si (v111) (0) (xor_ (v113) (xshl (1) (a1))) M109).bind fun M115 => (some (1, M115))))))) else ((xq_gr 9 0 (a0) M).bind fun v117 => ((xq_al (v117) (a1) M).bind fun v119 => (if ¬ (v119) = (a2) then f131_30   f (0) M else f131_30   f (1) M))))))
theorem k131 {d f : Nat}   {a0 : Nat} {a1 : Int} {a2 : Int} {M : xj_M} {R : Int × xj_M} (ha1 : xin a1) (ha2 : xiN a2) (h : f131  f a0 a1 a2 M = some R) : xT (d + 1) 131 [xR_ a0, xI a1, xZ a2] M (xQi R) := by
  refine xT_m xr_131_e (X := (none, d + 0, none)) rfl (xa_1 (xR_cat _) (xa_1 (xI_cat _) (xa_2 (xZ_cat _) xa_n))) (by decide) ?_
  unfold f131 at h
  refine xe_alr (ins := .aload_n 0) (len := 1) (i := 0) (by decide +kernel) rfl rfl rfl rfl rfl ?_
  obtain ⟨v102, e103, h⟩ := xbnd h
  refine xs_gr (i := 22) (c := 9) (k := 8) (by decide +kernel) (by decide) (by decide +kernel) e103 rfl ?_
  refine xe_iconst (n := 0) (by decide +kernel) rfl ?_
  obtain ⟨v104, e105, h⟩ := xbnd h
  refine xs_iald rfl (by decide +kernel) (show xin (0) by decide) e105 rfl ?_
  refine xe_ldn (ins := .iload_n 1) (len := 1) (by decide +kernel) rfl rfl rfl rfl ?_
  refine xe_ishr (by decide +kernel) rfl ?_
  refine xe_iconst (n := 1) (by decide +kernel) rfl ?_
  refine xe_iand (by decide +kernel) rfl ?_
  refine xe_iconst (n := 1) (by decide +kernel) rfl ?_
  refine xe_icmpne (off := 20) (t := 31) (by decide +kernel) (by decide) rfl (xin_of _) (show xin (1) by decide) (fun c106 => ?_) (fun c106 => ?_)
  · rw [if_pos c106] at h
    refine xe_alr (ins := .aload_n 0) (len := 1) (i := 0) (by decide +kernel) rfl rfl rfl rfl rfl ?_
    obtain ⟨v107, e108, h⟩ := xbnd h
    refine xs_gr (i := 9) (c := 9) (k := 0) (by decide +kernel) (by decide) (by decide +kernel) e108 rfl ?_
    refine xe_ldn (ins := .iload_n 1) (len := 1) (by decide +kernel) rfl rfl rfl rfl ?_
    refine xe_ldn (ins := .lload_n 2) (len := 1) (by decide +kernel) rfl rfl rfl rfl ?_
    obtain ⟨M109, e110, h⟩ := xbnd h
    refine xs_last (by decide +kernel) ha1 e110 rfl ?_
    refine xe_alr (ins := .aload_n 0) (len := 1) (i := 0) (by decide +kernel) rfl rfl rfl rfl rfl ?_
    obtain ⟨v111, e112, h⟩ := xbnd h
    refine xs_gr (i := 22) (c := 9) (k := 8) (by decide +kernel) (by decide) (by decide +kernel) e112 rfl ?_
    refine xe_iconst (n := 0) (by decide +kernel) rfl ?_
    refine xe_dup2r (xI_cat _) (xR_cat _) (by decide +kernel) rfl ?_
    obtain ⟨v113, e114, h⟩ := xbnd h
    refine xs_iald rfl (by decide +kernel) (show xin (0) by decide) e114 rfl ?_
    refine xe_iconst (n := 1) (by decide +kernel) rfl ?_
    refine xe_ldn (ins := .iload_n 1) (len := 1) (by decide +kernel) rfl rfl rfl rfl ?_
    refine xe_ishl (by decide +kernel) rfl ?_
    refine xe_ior (by decide +kernel) rfl ?_
    obtain ⟨M115, e116, h⟩ := xbnd h
    refine xs_iast (by decide +kernel) (show xin (0) by decide) e116 rfl ?_
    refine xe_iconst (n := 1) (by decide +kernel) rfl ?_
    cases h
    exact xe_ret_i (ty := .boolean) (by decide +kernel) rfl (by decide) ⟨rfl, rfl, (show xin (1) by decide)⟩
  · rw [if_neg c106] at h
    refine xe_alr (ins := .aload_n 0) (len := 1) (i := 0) (by decide +kernel) rfl rfl rfl rfl rfl ?_
    obtain ⟨v117, e118, h⟩ := xbnd h
    refine xs_gr (i := 9) (c := 9) (k := 0) (by decide +kernel) (by decide) (by decide +kernel) e118 rfl ?_
    refine xe_ldn (ins := .iload_n 1) (len := 1) (by decide +kernel) rfl rfl rfl rfl ?_
    obtain ⟨v119, e120, h⟩ := xbnd h
    refine xs_lald (by decide +kernel) ha1 e120 rfl ?_
    refine xe_ldn (ins := .lload_n 2) (len := 1) (by decide +kernel) rfl rfl rfl rfl ?_
    refine xe_lcmp (by decide +kernel) rfl (xq_al_in e120) ha2 ?_
    refine xe_ifne (off := 7) (t := 29) (by decide +kernel) (by decide) rfl (xin_cmp8 _ _) (fun c121 => ?_) (fun c121 => ?_)
    · have c121 := xcmp8_ne.mp c121; rw [if_pos c121] at h
      refine xe_iconst (n := 0) (by decide +kernel) rfl ?_
      refine xW_lv rfl (l := []) (xsb_of trivial (show [0, 1, 2].Nodup by decide)) ?_
      exact k131_30   (show xin (0) by decide) h
    · have c121 := (not_congr xcmp8_ne).mp c121; rw [if_neg c121] at h
      refine xe_iconst (n := 1) (by decide +kernel) rfl ?_
      refine xe_goto (off := 4) (nx := 30) (by decide +kernel) (by decide) ?_
      refine xW_lv rfl (l := []) (xsb_of trivial (show [0, 1, 2].Nodup by decide)) ?_
      exact k131_30   (show xin (1) by decide) h
-- ChangeHouse$Ways.hasMore
def xr_133 : xj_mR := (9, yX9_hasMore, cX9_hasMore, 2, (Option.some Jvm.ClassFile.FieldType.boolean), 0, false, (6, 185), (1, 4))
set_option maxRecDepth 20000 in
theorem xr_133_e : xj_row 133 = some xr_133 := rfl
def f133_57   (f : Nat) (y0 : Int) (M : xj_M) : Option (Int × xj_M) := (if (y0) = 0 ∨ (y0) = 1 then some (y0, M) else none)
theorem k133_57 {d f : Nat}     {y0 : Int} {M : xj_M} {R : Int × xj_M} (hy0 : xin y0) (h : f133_57   f y0 M = some R) : xW (d + 0) (none, d + 0, none) xr_133 (57, [], [xI y0], M) (xQi R) := by
  unfold f133_57 at h
  by_cases c101 : (y0) = 0 ∨ (y0) = 1
  · rw [if_pos c101] at h; cases h; exact xe_ret_i (ty := .boolean) (by decide +kernel) rfl (xbool c101) ⟨rfl, rfl, hy0⟩
  · rw [if_neg c101] at h; cases h
def f133_49   (f : Nat) (y0 : Int) (M : xj_M) : Option (Int × xj_M) := (if (y0) = 0 then f133_57   f (0) M else f133_57   f (1) M)
theorem k133_49 {d f : Nat}     {y0 : Int} {M : xj_M} {R : Int × xj_M} (hy0 : xin y0) (h : f133_49   f y0 M = some R) : xW (d + 0) (none, d + 0, none) xr_133 (49, [], [xI y0], M) (xQi R) := by
  unfold f133_49 at h
  refine xe_ifeq (off := 7) (t := 56) (by decide +kernel) (by decide) rfl hy0 (fun c102 => ?_) (fun c102 => ?_)
  · rw [if_pos c102] at h
    refine xe_iconst (n := 0) (by decide +kernel) rfl ?_
    refine xW_lv rfl (l := []) (xsb_of trivial (show [].Nodup by decide)) ?_
    exact k133_57   (show xin (0) by decide) h
  · rw [if_neg c102] at h
    refine xe_iconst (n := 1) (by decide +kernel) rfl ?_
    refine xe_goto (off := 4) (nx := 57) (by decide +kernel) (by decide) ?_
    refine xW_lv rfl (l := []) (xsb_of trivial (show [].Nodup by decide)) ?_
    exact k133_57   (show xin (1) by decide) h
def f133  (f : Nat) (a0 : Nat) (M : xj_M) : Option (Int × xj_M) := ((xq_gr 9 8 (a0) M).bind fun v103 => ((xq_gi 9 6 (a0) M).bind fun v105 => ((xq_ai 3 (v103) (xwr ((v105) + (1))) M).bind fun v107 => ((xq_gr 9 8 (a0) M).bind fun v109 => ((xq_gi 9 6 (a0) M).bind fun v111 => ((xq_ai 3 (v109) (v111) M).bind fun v113 => ((xq_gi 9 5 (a0) M).bind fun v115 => (if (v115) = 0 then f133_49   f (xand (v107) (xxor (v113) (-1))) M else ((xq_gr 9 3 (a0) M).bind fun v118 => ((xq_gr 6 19 (v118) M).bind fun v120 => ((xq_gi 9 6 (a0) M).bind fun v122 => ((xq_ai 3 (v120) (v122) M).bind fun v124 => f133_49   f (xand (xand (v107) (xxor (v113) (-1))) (v124)) M))))))))))))
theorem k133 {d f : Nat}   {a0 : Nat} {M : xj_M} {R : Int × xj_M}  (h : f133  f a0 M = some R) : xT (d + 1) 133 [xR_ a0] M (xQi R) := by
  refine xT_m xr_133_e (X := (none, d + 0, none)) rfl (xa_1 (xR_cat _) xa_n) (by decide) ?_
  unfold f133 at h
  refine xe_alr (ins := .aload_n 0) (len := 1) (i := 0) (by decide +kernel) rfl rfl rfl rfl rfl ?_
  obtain ⟨v103, e104, h⟩ := xbnd h
  refine xs_gr (i := 22) (c := 9) (k := 8) (by decide +kernel) (by decide) (by decide +kernel) e104 rfl ?_
  refine xe_alr (ins := .aload_n 0) (len := 1) (i := 0) (by decide +kernel) rfl rfl rfl rfl rfl ?_
  obtain ⟨v105, e106, h⟩ := xbnd h
  refine xs_gi (i := 52) (c := 9) (k := 6) (by decide +kernel) (by decide) (by decide +kernel) e106 rfl ?_
  refine xe_iconst (n := 1) (by decide +kernel) rfl ?_
  refine xe_iadd (by decide +kernel) rfl ?_
  obtain ⟨v107, e108, h⟩ := xbnd h
  refine xs_iald rfl (by decide +kernel) (xin_wr _) e108 rfl ?_
  refine xe_alr (ins := .aload_n 0) (len := 1) (i := 0) (by decide +kernel) rfl rfl rfl rfl rfl ?_
  obtain ⟨v109, e110, h⟩ := xbnd h
  refine xs_gr (i := 22) (c := 9) (k := 8) (by decide +kernel) (by decide) (by decide +kernel) e110 rfl ?_
  refine xe_alr (ins := .aload_n 0) (len := 1) (i := 0) (by decide +kernel) rfl rfl rfl rfl rfl ?_
  obtain ⟨v111, e112, h⟩ := xbnd h
  refine xs_gi (i := 52) (c := 9) (k := 6) (by decide +kernel) (by decide) (by decide +kernel) e112 rfl ?_
  obtain ⟨v113, e114, h⟩ := xbnd h
  refine xs_iald rfl (by decide +kernel) (xq_gi_in e112) e114 rfl ?_
  refine xe_iconst (n := -1) (by decide +kernel) rfl ?_
  refine xe_ixor (by decide +kernel) rfl ?_
  refine xe_iand (by decide +kernel) rfl ?_
  refine xe_isr (ins := .istore_n 1) (len := 1) (i := 1) (by decide +kernel) rfl rfl rfl (by decide) (xk_k (show ¬ (0 : Nat) = 1 by decide) (Or.inr (xR_cat _)) xk_n) rfl ?_
  refine xe_alr (ins := .aload_n 0) (len := 1) (i := 0) (by decide +kernel) rfl rfl rfl rfl rfl ?_
  obtain ⟨v115, e116, h⟩ := xbnd h
  refine xs_gi (i := 48) (c := 9) (k := 5) (by decide +kernel) (by decide) (by decide +kernel) e116 rfl ?_
  refine xe_ifeq (off := 20) (t := 48) (by decide +kernel) (by decide) rfl (xq_gi_in e116) (fun c117 => ?_) (fun c117 => ?_)
  · rw [if_pos c117] at h
    refine xe_ldn (ins := .iload_n 1) (len := 1) (by decide +kernel) rfl rfl rfl rfl ?_
    refine xW_lv rfl (l := []) (xsb_of trivial (show [1, 0].Nodup by decide)) ?_
    exact k133_49   (xin_of _) h
  · rw [if_neg c117] at h
    refine xe_ldn (ins := .iload_n 1) (len := 1) (by decide +kernel) rfl rfl rfl rfl ?_
    refine xe_alr (ins := .aload_n 0) (len := 1) (i := 0) (by decide +kernel) rfl rfl rfl rfl rfl ?_
    obtain ⟨v118, e119, h⟩ := xbnd h
    refine xs_gr (i := 40) (c := 9) (k := 3) (by decide +kernel) (by decide) (by decide +kernel) e119 rfl ?_
    obtain ⟨v120, e121, h⟩ := xbnd h
    refine xs_gr (i := 95) (c := 6) (k := 19) (by decide +kernel) (by decide) (by decide +kernel) e121 rfl ?_
    refine xe_alr (ins := .aload_n 0) (len := 1) (i := 0) (by decide +kernel) rfl rfl rfl rfl rfl ?_
    obtain ⟨v122, e123, h⟩ := xbnd h
    refine xs_gi (i := 52) (c := 9) (k := 6) (by decide +kernel) (by decide) (by decide +kernel) e123 rfl ?_
    obtain ⟨v124, e125, h⟩ := xbnd h
    refine xs_iald rfl (by decide +kernel) (xq_gi_in e123) e125 rfl ?_
    refine xe_iand (by decide +kernel) rfl ?_
    refine xe_goto (off := 4) (nx := 49) (by decide +kernel) (by decide) ?_
    refine xW_lv rfl (l := []) (xsb_of trivial (show [1, 0].Nodup by decide)) ?_
    exact k133_49   (xin_of _) h
