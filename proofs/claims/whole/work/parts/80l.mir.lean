/-! Mirrors (written by mk_mir.py) -/
-- ChangeHouse$Works.workRing
def xr_149 : xj_mR := (10, yX10_workRing, cX10_workRing, 9, (Option.some Jvm.ClassFile.FieldType.boolean), 2, false, (6, 141), (1, 5))
set_option maxRecDepth 20000 in
theorem xr_149_e : xj_row 149 = some xr_149 := rfl
def f149_32   (f : Nat)  (M : xj_M) : Option (Int × xj_M) := (some (1, M))
theorem k149_32 {d f : Nat}      {M : xj_M} {R : Int × xj_M}  (h : f149_32   f  M = some R) : xW (d + 6) (none, d + 6, none) xr_149 (32, [], [], M) (xQi R) := by
  unfold f149_32 at h
  refine xe_iconst (n := 1) (by decide +kernel) rfl ?_
  cases h
  exact xe_ret_i (ty := .boolean) (by decide +kernel) rfl (by decide) ⟨rfl, rfl, (show xin (1) by decide)⟩
def f149_209  (r66 : Nat → Int → Int → Int → xj_M → Option (Int × xj_M)) (r89 : Nat → Int → Int → Int → Int → xj_M → Option (Int × xj_M)) (r148 : Nat → Int → Int → Int → Int → Nat → Int → Int → xj_M → Option (Int × xj_M)) (f : Nat) (x0 : Nat) (x1 : Int) (x3 : Int) (x4 : Int) (x5 : Int) (x6 : Nat) (x7 : Int) (x8 : Int) (M : xj_M) : Option (Int × xj_M) := r148 (x0) (x1) (x3) (x4) (x5) (x6) (x7) (xwr ((x8) + (1))) M
theorem k149_209 {d f : Nat}  {r66 : Nat → Int → Int → Int → xj_M → Option (Int × xj_M)} {r89 : Nat → Int → Int → Int → Int → xj_M → Option (Int × xj_M)} {r148 : Nat → Int → Int → Int → Int → Nat → Int → Int → xj_M → Option (Int × xj_M)}  (hr66 : ∀ {x0 : Nat} {x1 : Int} {x3 : Int} {x4 : Int} {M : xj_M} {R : Int × xj_M}, xin x1 → xin x3 → xin x4 → r66 x0 x1 x3 x4 M = some R → xW (d + 6) (none, d + 6, none) xr_149 (66, [(0, xR_ x0), (1, xI x1), (3, xI x3), (4, xI x4)], [], M) (xQi R)) (hr89 : ∀ {x0 : Nat} {x1 : Int} {x3 : Int} {x4 : Int} {x5 : Int} {M : xj_M} {R : Int × xj_M}, xin x1 → xin x3 → xin x4 → xin x5 → r89 x0 x1 x3 x4 x5 M = some R → xW (d + 6) (none, d + 6, none) xr_149 (89, [(0, xR_ x0), (1, xI x1), (3, xI x3), (4, xI x4), (5, xI x5)], [], M) (xQi R)) (hr148 : ∀ {x0 : Nat} {x1 : Int} {x3 : Int} {x4 : Int} {x5 : Int} {x6 : Nat} {x7 : Int} {x8 : Int} {M : xj_M} {R : Int × xj_M}, xin x1 → xin x3 → xin x4 → xin x5 → xin x7 → xin x8 → r148 x0 x1 x3 x4 x5 x6 x7 x8 M = some R → xW (d + 6) (none, d + 6, none) xr_149 (148, [(0, xR_ x0), (1, xI x1), (3, xI x3), (4, xI x4), (5, xI x5), (6, xR_ x6), (7, xI x7), (8, xI x8)], [], M) (xQi R)) {x0 : Nat} {x1 : Int} {x3 : Int} {x4 : Int} {x5 : Int} {x6 : Nat} {x7 : Int} {x8 : Int} {M : xj_M} {R : Int × xj_M} (hx1 : xin x1) (hx3 : xin x3) (hx4 : xin x4) (hx5 : xin x5) (hx7 : xin x7) (hx8 : xin x8) (h : f149_209  r66 r89 r148 f x0 x1 x3 x4 x5 x6 x7 x8 M = some R) : xW (d + 6) (none, d + 6, none) xr_149 (209, [(0, xR_ x0), (1, xI x1), (3, xI x3), (4, xI x4), (5, xI x5), (6, xR_ x6), (7, xI x7), (8, xI x8)], [], M) (xQi R) := by
  unfold f149_209 at h
  refine xe_iincr (i := 8) (n := 1) (by decide +kernel) (by decide) rfl (xk_k (show ¬ (0 : Nat) = 8 by decide) (Or.inl (show ¬ (0 + 1 : Nat) = 8 by decide)) (xk_k (show ¬ (1 : Nat) = 8 by decide) (Or.inl (show ¬ (1 + 1 : Nat) = 8 by decide)) (xk_k (show ¬ (3 : Nat) = 8 by decide) (Or.inl (show ¬ (3 + 1 : Nat) = 8 by decide)) (xk_k (show ¬ (4 : Nat) = 8 by decide) (Or.inl (show ¬ (4 + 1 : Nat) = 8 by decide)) (xk_k (show ¬ (5 : Nat) = 8 by decide) (Or.inl (show ¬ (5 + 1 : Nat) = 8 by decide)) (xk_k (show ¬ (6 : Nat) = 8 by decide) (Or.inl (show ¬ (6 + 1 : Nat) = 8 by decide)) (xk_k (show ¬ (7 : Nat) = 8 by decide) (Or.inr (xI_cat _)) (xk_d rfl xk_n)))))))) rfl ?_
  refine xe_goto (off := -64) (nx := 148) (by decide +kernel) (by decide) ?_
  refine xW_lv rfl (l := [(0, xR_ (x0)), (1, xI (x1)), (3, xI (x3)), (4, xI (x4)), (5, xI (x5)), (6, xR_ (x6)), (7, xI (x7)), (8, xI (xwr ((x8) + (1))))]) (xsb_of ⟨rfl, rfl, rfl, rfl, rfl, rfl, rfl, rfl, trivial⟩ (show [8, 0, 1, 3, 4, 5, 6, 7].Nodup by decide)) ?_
  exact hr148 hx1 hx3 hx4 hx5 hx7 (xin_wr _) h
def f149_207   (f : Nat)  (M : xj_M) : Option (Int × xj_M) := (some (0, M))
theorem k149_207 {d f : Nat}      {M : xj_M} {R : Int × xj_M}  (h : f149_207   f  M = some R) : xW (d + 6) (none, d + 6, none) xr_149 (207, [], [], M) (xQi R) := by
  unfold f149_207 at h
  refine xe_iconst (n := 0) (by decide +kernel) rfl ?_
  cases h
  exact xe_ret_i (ty := .boolean) (by decide +kernel) rfl (by decide) ⟨rfl, rfl, (show xin (0) by decide)⟩
def f149_148b  (r66 : Nat → Int → Int → Int → xj_M → Option (Int × xj_M)) (r89 : Nat → Int → Int → Int → Int → xj_M → Option (Int × xj_M)) (r148 : Nat → Int → Int → Int → Int → Nat → Int → Int → xj_M → Option (Int × xj_M)) (f : Nat) (x0 : Nat) (x1 : Int) (x3 : Int) (x4 : Int) (x5 : Int) (x6 : Nat) (x7 : Int) (x8 : Int) (M : xj_M) : Option (Int × xj_M) := (if (8) ≤ (x8) then r89 (x0) (x1) (x3) (x4) (xwr ((x5) + (1))) M else (if ¬ (xand (xshr (x7) (x8)) (1)) = (1) then f149_209  r66 r89 r148 f (x0) (x1) (x3) (x4) (x5) (x6) (x7) (x8) M else ((xq_is 10 (x0) M).bind fun _ => ((f153  f (x0) (x6) (x3) (x4) (x8) M).bind fun M105 => ((xq_gi 6 3 (x6) M105).bind fun v107 => (if ¬ (v107) = (-1) then ((xq_is 10 (x0) M105).bind fun _ => ((f157  f (x0) (x6) M105).bind fun R112 => (if ¬ (R112.1) = 0 then f149_209  r66 r89 r148 f (x0) (x1) (x3) (x4) (x5) (x6) (x7) (x8) R112.2 else f149_207   f  R112.2))) else ((xq_is 10 (x0) M105).bind fun _ => ((f155  f (x0) (x6) M105).bind fun R117 => (if (R117.1) = 0 then f149_207   f  R117.2 else f149_209  r66 r89 r148 f (x0) (x1) (x3) (x4) (x5) (x6) (x7) (x8) R117.2)))))))))
theorem k149_148b {d f : Nat}  {r66 : Nat → Int → Int → Int → xj_M → Option (Int × xj_M)} {r89 : Nat → Int → Int → Int → Int → xj_M → Option (Int × xj_M)} {r148 : Nat → Int → Int → Int → Int → Nat → Int → Int → xj_M → Option (Int × xj_M)}  (hr66 : ∀ {x0 : Nat} {x1 : Int} {x3 : Int} {x4 : Int} {M : xj_M} {R : Int × xj_M}, xin x1 → xin x3 → xin x4 → r66 x0 x1 x3 x4 M = some R → xW (d + 6) (none, d + 6, none) xr_149 (66, [(0, xR_ x0), (1, xI x1), (3, xI x3), (4, xI x4)], [], M) (xQi R)) (hr89 : ∀ {x0 : Nat} {x1 : Int} {x3 : Int} {x4 : Int} {x5 : Int} {M : xj_M} {R : Int × xj_M}, xin x1 → xin x3 → xin x4 → xin x5 → r89 x0 x1 x3 x4 x5 M = some R → xW (d + 6) (none, d + 6, none) xr_149 (89, [(0, xR_ x0), (1, xI x1), (3, xI x3), (4, xI x4), (5, xI x5)], [], M) (xQi R)) (hr148 : ∀ {x0 : Nat} {x1 : Int} {x3 : Int} {x4 : Int} {x5 : Int} {x6 : Nat} {x7 : Int} {x8 : Int} {M : xj_M} {R : Int × xj_M}, xin x1 → xin x3 → xin x4 → xin x5 → xin x7 → xin x8 → r148 x0 x1 x3 x4 x5 x6 x7 x8 M = some R → xW (d + 6) (none, d + 6, none) xr_149 (148, [(0, xR_ x0), (1, xI x1), (3, xI x3), (4, xI x4), (5, xI x5), (6, xR_ x6), (7, xI x7), (8, xI x8)], [], M) (xQi R)) {x0 : Nat} {x1 : Int} {x3 : Int} {x4 : Int} {x5 : Int} {x6 : Nat} {x7 : Int} {x8 : Int} {M : xj_M} {R : Int × xj_M} (hx1 : xin x1) (hx3 : xin x3) (hx4 : xin x4) (hx5 : xin x5) (hx7 : xin x7) (hx8 : xin x8) (h : f149_148b  r66 r89 r148 f x0 x1 x3 x4 x5 x6 x7 x8 M = some R) : xW (d + 6) (none, d + 6, none) xr_149 (148, [(0, xR_ x0), (1, xI x1), (3, xI x3), (4, xI x4), (5, xI x5), (6, xR_ x6), (7, xI x7), (8, xI x8)], [], M) (xQi R) := by
  unfold f149_148b at h
  refine xe_ldn (ins := .iload 8) (len := 2) (by decide +kernel) rfl rfl rfl rfl ?_
  refine xe_bipush (n := 8) (by decide +kernel) (by decide) rfl ?_
  refine xe_icmpge (off := 63) (t := 215) (by decide +kernel) (by decide) rfl hx8 (show xin (8) by decide) (fun c101 => ?_) (fun c101 => ?_)
  · rw [if_pos c101] at h
    refine xe_iincr (i := 5) (n := 1) (by decide +kernel) (by decide) rfl (xk_k (show ¬ (0 : Nat) = 5 by decide) (Or.inl (show ¬ (0 + 1 : Nat) = 5 by decide)) (xk_k (show ¬ (1 : Nat) = 5 by decide) (Or.inl (show ¬ (1 + 1 : Nat) = 5 by decide)) (xk_k (show ¬ (3 : Nat) = 5 by decide) (Or.inl (show ¬ (3 + 1 : Nat) = 5 by decide)) (xk_k (show ¬ (4 : Nat) = 5 by decide) (Or.inr (xI_cat _)) (xk_d rfl (xk_k (show ¬ (6 : Nat) = 5 by decide) (Or.inl (show ¬ (6 + 1 : Nat) = 5 by decide)) (xk_k (show ¬ (7 : Nat) = 5 by decide) (Or.inl (show ¬ (7 + 1 : Nat) = 5 by decide)) (xk_k (show ¬ (8 : Nat) = 5 by decide) (Or.inl (show ¬ (8 + 1 : Nat) = 5 by decide)) xk_n)))))))) rfl ?_
    refine xe_goto (off := -129) (nx := 89) (by decide +kernel) (by decide) ?_
    refine xW_lv rfl (l := [(0, xR_ (x0)), (1, xI (x1)), (3, xI (x3)), (4, xI (x4)), (5, xI (xwr ((x5) + (1))))]) (xsb_of ⟨rfl, rfl, rfl, rfl, rfl, trivial⟩ (show [5, 0, 1, 3, 4, 6, 7, 8].Nodup by decide)) ?_
    exact hr89 hx1 hx3 hx4 (xin_wr _) h
  · rw [if_neg c101] at h
    refine xe_ldn (ins := .iload 7) (len := 2) (by decide +kernel) rfl rfl rfl rfl ?_
    refine xe_ldn (ins := .iload 8) (len := 2) (by decide +kernel) rfl rfl rfl rfl ?_
    refine xe_ishr (by decide +kernel) rfl ?_
    refine xe_iconst (n := 1) (by decide +kernel) rfl ?_
    refine xe_iand (by decide +kernel) rfl ?_
    refine xe_iconst (n := 1) (by decide +kernel) rfl ?_
    refine xe_icmpne (off := 46) (t := 209) (by decide +kernel) (by decide) rfl (xin_of _) (show xin (1) by decide) (fun c102 => ?_) (fun c102 => ?_)
    · rw [if_pos c102] at h
      refine xW_lv rfl (l := [(0, xR_ (x0)), (1, xI (x1)), (3, xI (x3)), (4, xI (x4)), (5, xI (x5)), (6, xR_ (x6)), (7, xI (x7)), (8, xI (x8))]) (xsb_of ⟨rfl, rfl, rfl, rfl, rfl, rfl, rfl, rfl, trivial⟩ (show [0, 1, 3, 4, 5, 6, 7, 8].Nodup by decide)) ?_
      exact k149_209  hr66 hr89 hr148 hx1 hx3 hx4 hx5 hx7 hx8 h
    · rw [if_neg c102] at h
      refine xe_alr (ins := .aload_n 0) (len := 1) (i := 0) (by decide +kernel) rfl rfl rfl rfl rfl ?_
      refine xe_alr (ins := .aload 6) (len := 2) (i := 6) (by decide +kernel) rfl rfl rfl rfl rfl ?_
      refine xe_ldn (ins := .iload_n 3) (len := 1) (by decide +kernel) rfl rfl rfl rfl ?_
      refine xe_ldn (ins := .iload 4) (len := 2) (by decide +kernel) rfl rfl rfl rfl ?_
      refine xe_ldn (ins := .iload 8) (len := 2) (by decide +kernel) rfl rfl rfl rfl ?_
      obtain ⟨_, e104, h⟩ := xbnd h
      obtain ⟨M105, e103, h⟩ := xbnd h
      refine xs_cv (i := 185) (j := 153) (ar := [xI (x8), xI (x4), xI (x3), xR_ (x6)]) (rest := []) (r2 := xr_153) (by decide +kernel) (by decide +kernel) (by decide +kernel) xr_153_e rfl (by decide) (by decide) e104 ?_
      refine xc_v (k153 (d := d + 3)  hx3 hx4 hx8 e103) rfl ?_
      refine xe_alr (ins := .aload 6) (len := 2) (i := 6) (by decide +kernel) rfl rfl rfl rfl rfl ?_
      obtain ⟨v107, e108, h⟩ := xbnd h
      refine xs_gi (i := 189) (c := 6) (k := 3) (by decide +kernel) (by decide) (by decide +kernel) e108 rfl ?_
      refine xe_iconst (n := -1) (by decide +kernel) rfl ?_
      refine xe_icmpne (off := 15) (t := 198) (by decide +kernel) (by decide) rfl (xq_gi_in e108) (show xin (-1) by decide) (fun c109 => ?_) (fun c109 => ?_)
      · rw [if_pos c109] at h
        refine xe_alr (ins := .aload_n 0) (len := 1) (i := 0) (by decide +kernel) rfl rfl rfl rfl rfl ?_
        refine xe_alr (ins := .aload 6) (len := 2) (i := 6) (by decide +kernel) rfl rfl rfl rfl rfl ?_
        obtain ⟨_, e111, h⟩ := xbnd h
        obtain ⟨R112, e110, h⟩ := xbnd h
        refine xs_cv (i := 196) (j := 157) (ar := [xR_ (x6)]) (rest := []) (r2 := xr_157) (by decide +kernel) (by decide +kernel) (by decide +kernel) xr_157_e rfl (by decide) (by decide) e111 ?_
        refine xc_i (k157 (d := d + 0)   e110) rfl (fun hi113 => ?_)
        refine xe_ifne (off := 5) (t := 209) (by decide +kernel) (by decide) rfl hi113 (fun c114 => ?_) (fun c114 => ?_)
        · rw [if_pos c114] at h
          refine xW_lv rfl (l := [(0, xR_ (x0)), (1, xI (x1)), (3, xI (x3)), (4, xI (x4)), (5, xI (x5)), (6, xR_ (x6)), (7, xI (x7)), (8, xI (x8))]) (xsb_of ⟨rfl, rfl, rfl, rfl, rfl, rfl, rfl, rfl, trivial⟩ (show [0, 1, 3, 4, 5, 6, 7, 8].Nodup by decide)) ?_
          exact k149_209  hr66 hr89 hr148 hx1 hx3 hx4 hx5 hx7 hx8 h
        · rw [if_neg c114] at h
          refine xW_lv rfl (l := []) (xsb_of trivial (show [0, 1, 3, 4, 5, 6, 7, 8].Nodup by decide)) ?_
          exact k149_207    h
      · rw [if_neg c109] at h
        refine xe_alr (ins := .aload_n 0) (len := 1) (i := 0) (by decide +kernel) rfl rfl rfl rfl rfl ?_
        refine xe_alr (ins := .aload 6) (len := 2) (i := 6) (by decide +kernel) rfl rfl rfl rfl rfl ?_
        obtain ⟨_, e116, h⟩ := xbnd h
        obtain ⟨R117, e115, h⟩ := xbnd h
        refine xs_cv (i := 192) (j := 155) (ar := [xR_ (x6)]) (rest := []) (r2 := xr_155) (by decide +kernel) (by decide +kernel) (by decide +kernel) xr_155_e rfl (by decide) (by decide) e116 ?_
        refine xc_i (k155 (d := d + 0)   e115) rfl (fun hi118 => ?_)
        refine xe_ifeq (off := 15) (t := 207) (by decide +kernel) (by decide) rfl hi118 (fun c119 => ?_) (fun c119 => ?_)
        · rw [if_pos c119] at h
          refine xW_lv rfl (l := []) (xsb_of trivial (show [0, 1, 3, 4, 5, 6, 7, 8].Nodup by decide)) ?_
          exact k149_207    h
        · rw [if_neg c119] at h
          refine xe_goto (off := 14) (nx := 209) (by decide +kernel) (by decide) ?_
          refine xW_lv rfl (l := [(0, xR_ (x0)), (1, xI (x1)), (3, xI (x3)), (4, xI (x4)), (5, xI (x5)), (6, xR_ (x6)), (7, xI (x7)), (8, xI (x8))]) (xsb_of ⟨rfl, rfl, rfl, rfl, rfl, rfl, rfl, rfl, trivial⟩ (show [0, 1, 3, 4, 5, 6, 7, 8].Nodup by decide)) ?_
          exact k149_209  hr66 hr89 hr148 hx1 hx3 hx4 hx5 hx7 hx8 h
def f149_148  (r66 : Nat → Int → Int → Int → xj_M → Option (Int × xj_M)) (r89 : Nat → Int → Int → Int → Int → xj_M → Option (Int × xj_M)) (f : Nat) : Nat → Nat → Int → Int → Int → Int → Nat → Int → Int → xj_M → Option (Int × xj_M)
  | 0, _, _, _, _, _, _, _, _, _ => none
  | n + 1, x0, x1, x3, x4, x5, x6, x7, x8, M => f149_148b  r66 r89 (f149_148  r66 r89 f n) f x0 x1 x3 x4 x5 x6 x7 x8 M
theorem k149_148 {d f : Nat}  {r66 : Nat → Int → Int → Int → xj_M → Option (Int × xj_M)} {r89 : Nat → Int → Int → Int → Int → xj_M → Option (Int × xj_M)}  (hr66 : ∀ {x0 : Nat} {x1 : Int} {x3 : Int} {x4 : Int} {M : xj_M} {R : Int × xj_M}, xin x1 → xin x3 → xin x4 → r66 x0 x1 x3 x4 M = some R → xW (d + 6) (none, d + 6, none) xr_149 (66, [(0, xR_ x0), (1, xI x1), (3, xI x3), (4, xI x4)], [], M) (xQi R)) (hr89 : ∀ {x0 : Nat} {x1 : Int} {x3 : Int} {x4 : Int} {x5 : Int} {M : xj_M} {R : Int × xj_M}, xin x1 → xin x3 → xin x4 → xin x5 → r89 x0 x1 x3 x4 x5 M = some R → xW (d + 6) (none, d + 6, none) xr_149 (89, [(0, xR_ x0), (1, xI x1), (3, xI x3), (4, xI x4), (5, xI x5)], [], M) (xQi R)) : ∀ {n : Nat} {x0 : Nat} {x1 : Int} {x3 : Int} {x4 : Int} {x5 : Int} {x6 : Nat} {x7 : Int} {x8 : Int} {M : xj_M} {R : Int × xj_M}, xin x1 → xin x3 → xin x4 → xin x5 → xin x7 → xin x8 → f149_148  r66 r89 f n x0 x1 x3 x4 x5 x6 x7 x8 M = some R → xW (d + 6) (none, d + 6, none) xr_149 (148, [(0, xR_ x0), (1, xI x1), (3, xI x3), (4, xI x4), (5, xI x5), (6, xR_ x6), (7, xI x7), (8, xI x8)], [], M) (xQi R) := by
  intro n
  induction n with
  | zero => intros; rename_i h; cases h
  | succ n ih => intros; rename_i h; exact k149_148b  hr66 hr89 ih (by assumption) (by assumption) (by assumption) (by assumption) (by assumption) (by assumption) h
def f149_143  (r66 : Nat → Int → Int → Int → xj_M → Option (Int × xj_M)) (r89 : Nat → Int → Int → Int → Int → xj_M → Option (Int × xj_M)) (f : Nat) (x0 : Nat) (x1 : Int) (x3 : Int) (x4 : Int) (x5 : Int) (x6 : Nat) (y0 : Int) (M : xj_M) : Option (Int × xj_M) := f149_148  r66 r89 f f (x0) (x1) (x3) (x4) (x5) (x6) (y0) (0) M
theorem k149_143 {d f : Nat}  {r66 : Nat → Int → Int → Int → xj_M → Option (Int × xj_M)} {r89 : Nat → Int → Int → Int → Int → xj_M → Option (Int × xj_M)}  (hr66 : ∀ {x0 : Nat} {x1 : Int} {x3 : Int} {x4 : Int} {M : xj_M} {R : Int × xj_M}, xin x1 → xin x3 → xin x4 → r66 x0 x1 x3 x4 M = some R → xW (d + 6) (none, d + 6, none) xr_149 (66, [(0, xR_ x0), (1, xI x1), (3, xI x3), (4, xI x4)], [], M) (xQi R)) (hr89 : ∀ {x0 : Nat} {x1 : Int} {x3 : Int} {x4 : Int} {x5 : Int} {M : xj_M} {R : Int × xj_M}, xin x1 → xin x3 → xin x4 → xin x5 → r89 x0 x1 x3 x4 x5 M = some R → xW (d + 6) (none, d + 6, none) xr_149 (89, [(0, xR_ x0), (1, xI x1), (3, xI x3), (4, xI x4), (5, xI x5)], [], M) (xQi R)) {x0 : Nat} {x1 : Int} {x3 : Int} {x4 : Int} {x5 : Int} {x6 : Nat} {y0 : Int} {M : xj_M} {R : Int × xj_M} (hx1 : xin x1) (hx3 : xin x3) (hx4 : xin x4) (hx5 : xin x5) (hy0 : xin y0) (h : f149_143  r66 r89 f x0 x1 x3 x4 x5 x6 y0 M = some R) : xW (d + 6) (none, d + 6, none) xr_149 (143, [(0, xR_ x0), (1, xI x1), (3, xI x3), (4, xI x4), (5, xI x5), (6, xR_ x6)], [xI y0], M) (xQi R) := by
  unfold f149_143 at h
  refine xe_isr (ins := .istore 7) (len := 2) (i := 7) (by decide +kernel) rfl rfl rfl (by decide) (xk_k (show ¬ (0 : Nat) = 7 by decide) (Or.inl (show ¬ (0 + 1 : Nat) = 7 by decide)) (xk_k (show ¬ (1 : Nat) = 7 by decide) (Or.inl (show ¬ (1 + 1 : Nat) = 7 by decide)) (xk_k (show ¬ (3 : Nat) = 7 by decide) (Or.inl (show ¬ (3 + 1 : Nat) = 7 by decide)) (xk_k (show ¬ (4 : Nat) = 7 by decide) (Or.inl (show ¬ (4 + 1 : Nat) = 7 by decide)) (xk_k (show ¬ (5 : Nat) = 7 by decide) (Or.inl (show ¬ (5 + 1 : Nat) = 7 by decide)) (xk_k (show ¬ (6 : Nat) = 7 by decide) (Or.inr (xR_cat _)) xk_n)))))) rfl ?_
  refine xe_iconst (n := 0) (by decide +kernel) rfl ?_
  refine xe_isr (ins := .istore 8) (len := 2) (i := 8) (by decide +kernel) rfl rfl rfl (by decide) (xk_k (show ¬ (7 : Nat) = 8 by decide) (Or.inr (xI_cat _)) (xk_k (show ¬ (0 : Nat) = 8 by decide) (Or.inl (show ¬ (0 + 1 : Nat) = 8 by decide)) (xk_k (show ¬ (1 : Nat) = 8 by decide) (Or.inl (show ¬ (1 + 1 : Nat) = 8 by decide)) (xk_k (show ¬ (3 : Nat) = 8 by decide) (Or.inl (show ¬ (3 + 1 : Nat) = 8 by decide)) (xk_k (show ¬ (4 : Nat) = 8 by decide) (Or.inl (show ¬ (4 + 1 : Nat) = 8 by decide)) (xk_k (show ¬ (5 : Nat) = 8 by decide) (Or.inl (show ¬ (5 + 1 : Nat) = 8 by decide)) (xk_k (show ¬ (6 : Nat) = 8 by decide) (Or.inl (show ¬ (6 + 1 : Nat) = 8 by decide)) xk_n))))))) rfl ?_
  refine xW_lv rfl (l := [(0, xR_ (x0)), (1, xI (x1)), (3, xI (x3)), (4, xI (x4)), (5, xI (x5)), (6, xR_ (x6)), (7, xI (y0)), (8, xI (0))]) (xsb_of ⟨rfl, rfl, rfl, rfl, rfl, rfl, rfl, rfl, trivial⟩ (show [8, 7, 0, 1, 3, 4, 5, 6].Nodup by decide)) ?_
  exact k149_148  hr66 hr89 hx1 hx3 hx4 hx5 hy0 (show xin (0) by decide) h
def f149_89b  (r66 : Nat → Int → Int → Int → xj_M → Option (Int × xj_M)) (r89 : Nat → Int → Int → Int → Int → xj_M → Option (Int × xj_M)) (f : Nat) (x0 : Nat) (x1 : Int) (x3 : Int) (x4 : Int) (x5 : Int) (M : xj_M) : Option (Int × xj_M) := ((xq_gr 10 1 (x0) M).bind fun v120 => ((xq_gi 3 8 (v120) M).bind fun v122 => (if (v122) ≤ (x5) then ((xq_is 10 (x0) M).bind fun _ => ((f154  f (x0) (x1) (x4) M).bind fun M127 => r66 (x0) (x1) (x3) (xwr ((x4) + (1))) M127)) else ((xq_gr 10 1 (x0) M).bind fun v129 => ((xq_gr 3 9 (v129) M).bind fun v131 => ((xq_ar (v131) (x5) M).bind fun v133 => ((xq_gr 10 1 (x0) M).bind fun v135 => ((xq_gr 3 10 (v135) M).bind fun v137 => ((xq_gi 6 0 (v133) M).bind fun v139 => ((xq_ai 3 (v137) (v139) M).bind fun v141 => (if ¬ (v141) = (x1) then f149_143  r66 r89 f (x0) (x1) (x3) (x4) (x5) (v133) (0) M else ((xq_is 10 (x0) M).bind fun _ => ((f151  f (x0) (v133) (x3) (x4) M).bind fun R146 => f149_143  r66 r89 f (x0) (x1) (x3) (x4) (x5) (v133) (R146.1) R146.2)))))))))))))
theorem k149_89b {d f : Nat}  {r66 : Nat → Int → Int → Int → xj_M → Option (Int × xj_M)} {r89 : Nat → Int → Int → Int → Int → xj_M → Option (Int × xj_M)}  (hr66 : ∀ {x0 : Nat} {x1 : Int} {x3 : Int} {x4 : Int} {M : xj_M} {R : Int × xj_M}, xin x1 → xin x3 → xin x4 → r66 x0 x1 x3 x4 M = some R → xW (d + 6) (none, d + 6, none) xr_149 (66, [(0, xR_ x0), (1, xI x1), (3, xI x3), (4, xI x4)], [], M) (xQi R)) (hr89 : ∀ {x0 : Nat} {x1 : Int} {x3 : Int} {x4 : Int} {x5 : Int} {M : xj_M} {R : Int × xj_M}, xin x1 → xin x3 → xin x4 → xin x5 → r89 x0 x1 x3 x4 x5 M = some R → xW (d + 6) (none, d + 6, none) xr_149 (89, [(0, xR_ x0), (1, xI x1), (3, xI x3), (4, xI x4), (5, xI x5)], [], M) (xQi R)) {x0 : Nat} {x1 : Int} {x3 : Int} {x4 : Int} {x5 : Int} {M : xj_M} {R : Int × xj_M} (hx1 : xin x1) (hx3 : xin x3) (hx4 : xin x4) (hx5 : xin x5) (h : f149_89b  r66 r89 f x0 x1 x3 x4 x5 M = some R) : xW (d + 6) (none, d + 6, none) xr_149 (89, [(0, xR_ x0), (1, xI x1), (3, xI x3), (4, xI x4), (5, xI x5)], [], M) (xQi R) := by
  unfold f149_89b at h
  refine xe_ldn (ins := .iload 5) (len := 2) (by decide +kernel) rfl rfl rfl rfl ?_
  refine xe_alr (ins := .aload_n 0) (len := 1) (i := 0) (by decide +kernel) rfl rfl rfl rfl rfl ?_
  obtain ⟨v120, e121, h⟩ := xbnd h
  refine xs_gr (i := 60) (c := 10) (k := 1) (by decide +kernel) (by decide) (by decide +kernel) e121 rfl ?_
  obtain ⟨v122, e123, h⟩ := xbnd h
  refine xs_gi (i := 166) (c := 3) (k := 8) (by decide +kernel) (by decide) (by decide +kernel) e123 rfl ?_
  refine xe_icmpge (off := 123) (t := 221) (by decide +kernel) (by decide) rfl hx5 (xq_gi_in e123) (fun c124 => ?_) (fun c124 => ?_)
  · rw [if_pos c124] at h
    refine xe_alr (ins := .aload_n 0) (len := 1) (i := 0) (by decide +kernel) rfl rfl rfl rfl rfl ?_
    refine xe_ldn (ins := .iload_n 1) (len := 1) (by decide +kernel) rfl rfl rfl rfl ?_
    refine xe_ldn (ins := .iload 4) (len := 2) (by decide +kernel) rfl rfl rfl rfl ?_
    obtain ⟨_, e126, h⟩ := xbnd h
    obtain ⟨M127, e125, h⟩ := xbnd h
    refine xs_cv (i := 198) (j := 154) (ar := [xI (x4), xI (x1)]) (rest := []) (r2 := xr_154) (by decide +kernel) (by decide +kernel) (by decide +kernel) xr_154_e rfl (by decide) (by decide) e126 ?_
    refine xc_v (k154 (d := d + 2)  hx1 hx4 e125) rfl ?_
    refine xe_iincr (i := 4) (n := 1) (by decide +kernel) (by decide) rfl (xk_k (show ¬ (0 : Nat) = 4 by decide) (Or.inl (show ¬ (0 + 1 : Nat) = 4 by decide)) (xk_k (show ¬ (1 : Nat) = 4 by decide) (Or.inl (show ¬ (1 + 1 : Nat) = 4 by decide)) (xk_k (show ¬ (3 : Nat) = 4 by decide) (Or.inr (xI_cat _)) (xk_d rfl (xk_k (show ¬ (5 : Nat) = 4 by decide) (Or.inl (show ¬ (5 + 1 : Nat) = 4 by decide)) xk_n))))) rfl ?_
    refine xe_goto (off := -165) (nx := 66) (by decide +kernel) (by decide) ?_
    refine xW_lv rfl (l := [(0, xR_ (x0)), (1, xI (x1)), (3, xI (x3)), (4, xI (xwr ((x4) + (1))))]) (xsb_of ⟨rfl, rfl, rfl, rfl, trivial⟩ (show [4, 0, 1, 3, 5].Nodup by decide)) ?_
    exact hr66 hx1 hx3 (xin_wr _) h
  · rw [if_neg c124] at h
    refine xe_alr (ins := .aload_n 0) (len := 1) (i := 0) (by decide +kernel) rfl rfl rfl rfl rfl ?_
    obtain ⟨v129, e130, h⟩ := xbnd h
    refine xs_gr (i := 60) (c := 10) (k := 1) (by decide +kernel) (by decide) (by decide +kernel) e130 rfl ?_
    obtain ⟨v131, e132, h⟩ := xbnd h
    refine xs_gr (i := 169) (c := 3) (k := 9) (by decide +kernel) (by decide) (by decide +kernel) e132 rfl ?_
    refine xe_ldn (ins := .iload 5) (len := 2) (by decide +kernel) rfl rfl rfl rfl ?_
    obtain ⟨v133, e134, h⟩ := xbnd h
    refine xs_aald (by decide +kernel) hx5 e134 rfl ?_
    refine xe_asr (ins := .astore 6) (len := 2) (i := 6) (by decide +kernel) rfl rfl rfl (by decide) (xk_k (show ¬ (0 : Nat) = 6 by decide) (Or.inl (show ¬ (0 + 1 : Nat) = 6 by decide)) (xk_k (show ¬ (1 : Nat) = 6 by decide) (Or.inl (show ¬ (1 + 1 : Nat) = 6 by decide)) (xk_k (show ¬ (3 : Nat) = 6 by decide) (Or.inl (show ¬ (3 + 1 : Nat) = 6 by decide)) (xk_k (show ¬ (4 : Nat) = 6 by decide) (Or.inl (show ¬ (4 + 1 : Nat) = 6 by decide)) (xk_k (show ¬ (5 : Nat) = 6 by decide) (Or.inr (xI_cat _)) xk_n))))) rfl ?_
    refine xe_alr (ins := .aload_n 0) (len := 1) (i := 0) (by decide +kernel) rfl rfl rfl rfl rfl ?_
    obtain ⟨v135, e136, h⟩ := xbnd h
    refine xs_gr (i := 60) (c := 10) (k := 1) (by decide +kernel) (by decide) (by decide +kernel) e136 rfl ?_
    obtain ⟨v137, e138, h⟩ := xbnd h
    refine xs_gr (i := 173) (c := 3) (k := 10) (by decide +kernel) (by decide) (by decide +kernel) e138 rfl ?_
    refine xe_alr (ins := .aload 6) (len := 2) (i := 6) (by decide +kernel) rfl rfl rfl rfl rfl ?_
    obtain ⟨v139, e140, h⟩ := xbnd h
    refine xs_gi (i := 176) (c := 6) (k := 0) (by decide +kernel) (by decide) (by decide +kernel) e140 rfl ?_
    obtain ⟨v141, e142, h⟩ := xbnd h
    refine xs_iald rfl (by decide +kernel) (xq_gi_in e140) e142 rfl ?_
    refine xe_ldn (ins := .iload_n 1) (len := 1) (by decide +kernel) rfl rfl rfl rfl ?_
    refine xe_icmpne (off := 15) (t := 142) (by decide +kernel) (by decide) rfl (xq_ai_in e142) hx1 (fun c143 => ?_) (fun c143 => ?_)
    · rw [if_pos c143] at h
      refine xe_iconst (n := 0) (by decide +kernel) rfl ?_
      refine xW_lv rfl (l := [(0, xR_ (x0)), (1, xI (x1)), (3, xI (x3)), (4, xI (x4)), (5, xI (x5)), (6, xR_ (v133))]) (xsb_of ⟨rfl, rfl, rfl, rfl, rfl, rfl, trivial⟩ (show [6, 0, 1, 3, 4, 5].Nodup by decide)) ?_
      exact k149_143  hr66 hr89 hx1 hx3 hx4 hx5 (show xin (0) by decide) h
    · rw [if_neg c143] at h
      refine xe_alr (ins := .aload_n 0) (len := 1) (i := 0) (by decide +kernel) rfl rfl rfl rfl rfl ?_
      refine xe_alr (ins := .aload 6) (len := 2) (i := 6) (by decide +kernel) rfl rfl rfl rfl rfl ?_
      refine xe_ldn (ins := .iload_n 3) (len := 1) (by decide +kernel) rfl rfl rfl rfl ?_
      refine xe_ldn (ins := .iload 4) (len := 2) (by decide +kernel) rfl rfl rfl rfl ?_
      obtain ⟨_, e145, h⟩ := xbnd h
      obtain ⟨R146, e144, h⟩ := xbnd h
      refine xs_cv (i := 181) (j := 151) (ar := [xI (x4), xI (x3), xR_ (v133)]) (rest := []) (r2 := xr_151) (by decide +kernel) (by decide +kernel) (by decide +kernel) xr_151_e rfl (by decide) (by decide) e145 ?_
      refine xc_i (k151 (d := d + 4)  hx3 hx4 e144) rfl (fun hi147 => ?_)
      refine xe_goto (off := 4) (nx := 143) (by decide +kernel) (by decide) ?_
      refine xW_lv rfl (l := [(0, xR_ (x0)), (1, xI (x1)), (3, xI (x3)), (4, xI (x4)), (5, xI (x5)), (6, xR_ (v133))]) (xsb_of ⟨rfl, rfl, rfl, rfl, rfl, rfl, trivial⟩ (show [6, 0, 1, 3, 4, 5].Nodup by decide)) ?_
      exact k149_143  hr66 hr89 hx1 hx3 hx4 hx5 hi147 h
def f149_89  (r66 : Nat → Int → Int → Int → xj_M → Option (Int × xj_M)) (f : Nat) : Nat → Nat → Int → Int → Int → Int → xj_M → Option (Int × xj_M)
  | 0, _, _, _, _, _, _ => none
  | n + 1, x0, x1, x3, x4, x5, M => f149_89b  r66 (f149_89  r66 f n) f x0 x1 x3 x4 x5 M
theorem k149_89 {d f : Nat}  {r66 : Nat → Int → Int → Int → xj_M → Option (Int × xj_M)}  (hr66 : ∀ {x0 : Nat} {x1 : Int} {x3 : Int} {x4 : Int} {M : xj_M} {R : Int × xj_M}, xin x1 → xin x3 → xin x4 → r66 x0 x1 x3 x4 M = some R → xW (d + 6) (none, d + 6, none) xr_149 (66, [(0, xR_ x0), (1, xI x1), (3, xI x3), (4, xI x4)], [], M) (xQi R)) : ∀ {n : Nat} {x0 : Nat} {x1 : Int} {x3 : Int} {x4 : Int} {x5 : Int} {M : xj_M} {R : Int × xj_M}, xin x1 → xin x3 → xin x4 → xin x5 → f149_89  r66 f n x0 x1 x3 x4 x5 M = some R → xW (d + 6) (none, d + 6, none) xr_149 (89, [(0, xR_ x0), (1, xI x1), (3, xI x3), (4, xI x4), (5, xI x5)], [], M) (xQi R) := by
  intro n
  induction n with
  | zero => intros; rename_i h; cases h
  | succ n ih => intros; rename_i h; exact k149_89b  hr66 ih (by assumption) (by assumption) (by assumption) (by assumption) h
def f149_269  (r237 : Nat → Int → Int → xj_M → Option (Int × xj_M)) (f : Nat) (x0 : Nat) (x1 : Int) (x4 : Int) (M : xj_M) : Option (Int × xj_M) := r237 (x0) (x1) (xwr ((x4) + (1))) M
theorem k149_269 {d f : Nat}  {r237 : Nat → Int → Int → xj_M → Option (Int × xj_M)}  (hr237 : ∀ {x0 : Nat} {x1 : Int} {x4 : Int} {M : xj_M} {R : Int × xj_M}, xin x1 → xin x4 → r237 x0 x1 x4 M = some R → xW (d + 6) (none, d + 6, none) xr_149 (237, [(0, xR_ x0), (1, xI x1), (4, xI x4)], [], M) (xQi R)) {x0 : Nat} {x1 : Int} {x4 : Int} {M : xj_M} {R : Int × xj_M} (hx1 : xin x1) (hx4 : xin x4) (h : f149_269  r237 f x0 x1 x4 M = some R) : xW (d + 6) (none, d + 6, none) xr_149 (269, [(0, xR_ x0), (1, xI x1), (4, xI x4)], [], M) (xQi R) := by
  unfold f149_269 at h
  refine xe_iincr (i := 4) (n := 1) (by decide +kernel) (by decide) rfl (xk_k (show ¬ (0 : Nat) = 4 by decide) (Or.inl (show ¬ (0 + 1 : Nat) = 4 by decide)) (xk_k (show ¬ (1 : Nat) = 4 by decide) (Or.inl (show ¬ (1 + 1 : Nat) = 4 by decide)) (xk_d rfl xk_n))) rfl ?_
  refine xe_goto (off := -35) (nx := 237) (by decide +kernel) (by decide) ?_
  refine xW_lv rfl (l := [(0, xR_ (x0)), (1, xI (x1)), (4, xI (xwr ((x4) + (1))))]) (xsb_of ⟨rfl, rfl, rfl, trivial⟩ (show [4, 0, 1].Nodup by decide)) ?_
  exact hr237 hx1 (xin_wr _) h
def f149_237b  (r237 : Nat → Int → Int → xj_M → Option (Int × xj_M)) (f : Nat) (x0 : Nat) (x1 : Int) (x4 : Int) (M : xj_M) : Option (Int × xj_M) := ((xq_gr 10 1 (x0) M).bind fun v148 => ((xq_gi 3 1 (v148) M).bind fun v150 => (if (v150) ≤ (x4) then (some (1, M)) else ((xq_gr 10 1 (x0) M).bind fun v153 => ((xq_gr 3 10 (v153) M).bind fun v155 => ((xq_ai 3 (v155) (x4) M).bind fun v157 => (if ¬ (v157) = (x1) then f149_269  r237 f (x0) (x1) (x4) M else ((xq_is 10 (x0) M).bind fun _ => ((f148  f (x0) (x4) M).bind fun M162 => f149_269  r237 f (x0) (x1) (x4) M162)))))))))
theorem k149_237b {d f : Nat}  {r237 : Nat → Int → Int → xj_M → Option (Int × xj_M)}  (hr237 : ∀ {x0 : Nat} {x1 : Int} {x4 : Int} {M : xj_M} {R : Int × xj_M}, xin x1 → xin x4 → r237 x0 x1 x4 M = some R → xW (d + 6) (none, d + 6, none) xr_149 (237, [(0, xR_ x0), (1, xI x1), (4, xI x4)], [], M) (xQi R)) {x0 : Nat} {x1 : Int} {x4 : Int} {M : xj_M} {R : Int × xj_M} (hx1 : xin x1) (hx4 : xin x4) (h : f149_237b  r237 f x0 x1 x4 M = some R) : xW (d + 6) (none, d + 6, none) xr_149 (237, [(0, xR_ x0), (1, xI x1), (4, xI x4)], [], M) (xQi R) := by
  unfold f149_237b at h
  refine xe_ldn (ins := .iload 4) (len := 2) (by decide +kernel) rfl rfl rfl rfl ?_
  refine xe_alr (ins := .aload_n 0) (len := 1) (i := 0) (by decide +kernel) rfl rfl rfl rfl rfl ?_
  obtain ⟨v148, e149, h⟩ := xbnd h
  refine xs_gr (i := 60) (c := 10) (k := 1) (by decide +kernel) (by decide) (by decide +kernel) e149 rfl ?_
  obtain ⟨v150, e151, h⟩ := xbnd h
  refine xs_gi (i := 79) (c := 3) (k := 1) (by decide +kernel) (by decide) (by decide +kernel) e151 rfl ?_
  refine xe_icmpge (off := 29) (t := 275) (by decide +kernel) (by decide) rfl hx4 (xq_gi_in e151) (fun c152 => ?_) (fun c152 => ?_)
  · rw [if_pos c152] at h
    refine xe_iconst (n := 1) (by decide +kernel) rfl ?_
    cases h
    exact xe_ret_i (ty := .boolean) (by decide +kernel) rfl (by decide) ⟨rfl, rfl, (show xin (1) by decide)⟩
  · rw [if_neg c152] at h
    refine xe_alr (ins := .aload_n 0) (len := 1) (i := 0) (by decide +kernel) rfl rfl rfl rfl rfl ?_
    obtain ⟨v153, e154, h⟩ := xbnd h
    refine xs_gr (i := 60) (c := 10) (k := 1) (by decide +kernel) (by decide) (by decide +kernel) e154 rfl ?_
    obtain ⟨v155, e156, h⟩ := xbnd h
    refine xs_gr (i := 173) (c := 3) (k := 10) (by decide +kernel) (by decide) (by decide +kernel) e156 rfl ?_
    refine xe_ldn (ins := .iload 4) (len := 2) (by decide +kernel) rfl rfl rfl rfl ?_
    obtain ⟨v157, e158, h⟩ := xbnd h
    refine xs_iald rfl (by decide +kernel) hx4 e158 rfl ?_
    refine xe_ldn (ins := .iload_n 1) (len := 1) (by decide +kernel) rfl rfl rfl rfl ?_
    refine xe_icmpne (off := 9) (t := 269) (by decide +kernel) (by decide) rfl (xq_ai_in e158) hx1 (fun c159 => ?_) (fun c159 => ?_)
    · rw [if_pos c159] at h
      refine xW_lv rfl (l := [(0, xR_ (x0)), (1, xI (x1)), (4, xI (x4))]) (xsb_of ⟨rfl, rfl, rfl, trivial⟩ (show [0, 1, 4].Nodup by decide)) ?_
      exact k149_269  hr237 hx1 hx4 h
    · rw [if_neg c159] at h
      refine xe_alr (ins := .aload_n 0) (len := 1) (i := 0) (by decide +kernel) rfl rfl rfl rfl rfl ?_
      refine xe_ldn (ins := .iload 4) (len := 2) (by decide +kernel) rfl rfl rfl rfl ?_
      obtain ⟨_, e161, h⟩ := xbnd h
      obtain ⟨M162, e160, h⟩ := xbnd h
      refine xs_cv (i := 130) (j := 148) (ar := [xI (x4)]) (rest := []) (r2 := xr_148) (by decide +kernel) (by decide +kernel) (by decide +kernel) xr_148_e rfl (by decide) (by decide) e161 ?_
      refine xc_v (k148 (d := d + 3)  hx4 e160) rfl ?_
      refine xW_lv rfl (l := [(0, xR_ (x0)), (1, xI (x1)), (4, xI (x4))]) (xsb_of ⟨rfl, rfl, rfl, trivial⟩ (show [0, 1, 4].Nodup by decide)) ?_
      exact k149_269  hr237 hx1 hx4 h
def f149_237   (f : Nat) : Nat → Nat → Int → Int → xj_M → Option (Int × xj_M)
  | 0, _, _, _, _ => none
  | n + 1, x0, x1, x4, M => f149_237b   (f149_237   f n) f x0 x1 x4 M
theorem k149_237 {d f : Nat}     : ∀ {n : Nat} {x0 : Nat} {x1 : Int} {x4 : Int} {M : xj_M} {R : Int × xj_M}, xin x1 → xin x4 → f149_237   f n x0 x1 x4 M = some R → xW (d + 6) (none, d + 6, none) xr_149 (237, [(0, xR_ x0), (1, xI x1), (4, xI x4)], [], M) (xQi R) := by
  intro n
  induction n with
  | zero => intros; rename_i h; cases h
  | succ n ih => intros; rename_i h; exact k149_237b   ih (by assumption) (by assumption) h
def f149_234   (f : Nat) (x0 : Nat) (x1 : Int) (M : xj_M) : Option (Int × xj_M) := f149_237   f f (x0) (x1) (0) M
theorem k149_234 {d f : Nat}     {x0 : Nat} {x1 : Int} {M : xj_M} {R : Int × xj_M} (hx1 : xin x1) (h : f149_234   f x0 x1 M = some R) : xW (d + 6) (none, d + 6, none) xr_149 (234, [(0, xR_ x0), (1, xI x1)], [], M) (xQi R) := by
  unfold f149_234 at h
  refine xe_iconst (n := 0) (by decide +kernel) rfl ?_
  refine xe_isr (ins := .istore 4) (len := 2) (i := 4) (by decide +kernel) rfl rfl rfl (by decide) (xk_k (show ¬ (0 : Nat) = 4 by decide) (Or.inl (show ¬ (0 + 1 : Nat) = 4 by decide)) (xk_k (show ¬ (1 : Nat) = 4 by decide) (Or.inl (show ¬ (1 + 1 : Nat) = 4 by decide)) xk_n)) rfl ?_
  refine xW_lv rfl (l := [(0, xR_ (x0)), (1, xI (x1)), (4, xI (0))]) (xsb_of ⟨rfl, rfl, rfl, trivial⟩ (show [4, 0, 1].Nodup by decide)) ?_
  exact k149_237   hx1 (show xin (0) by decide) h
def f149_66b  (r66 : Nat → Int → Int → Int → xj_M → Option (Int × xj_M)) (f : Nat) (x0 : Nat) (x1 : Int) (x3 : Int) (x4 : Int) (M : xj_M) : Option (Int × xj_M) := (if (1700) < (x4) then f149_234   f (x0) (x1) M else ((xq_gi 10 15 (x0) M).bind fun v165 => (if (v165) ≤ 0 then f149_234   f (x0) (x1) M else ((xq_pi 10 15 (x0) (0) M).bind fun M168 => f149_89  r66 f f (x0) (x1) (x3) (x4) (0) M168))))
theorem k149_66b {d f : Nat}  {r66 : Nat → Int → Int → Int → xj_M → Option (Int × xj_M)}  (hr66 : ∀ {x0 : Nat} {x1 : Int} {x3 : Int} {x4 : Int} {M : xj_M} {R : Int × xj_M}, xin x1 → xin x3 → xin x4 → r66 x0 x1 x3 x4 M = some R → xW (d + 6) (none, d + 6, none) xr_149 (66, [(0, xR_ x0), (1, xI x1), (3, xI x3), (4, xI x4)], [], M) (xQi R)) {x0 : Nat} {x1 : Int} {x3 : Int} {x4 : Int} {M : xj_M} {R : Int × xj_M} (hx1 : xin x1) (hx3 : xin x3) (hx4 : xin x4) (h : f149_66b  r66 f x0 x1 x3 x4 M = some R) : xW (d + 6) (none, d + 6, none) xr_149 (66, [(0, xR_ x0), (1, xI x1), (3, xI x3), (4, xI x4)], [], M) (xQi R) := by
  unfold f149_66b at h
  refine xe_ldn (ins := .iload 4) (len := 2) (by decide +kernel) rfl rfl rfl rfl ?_
  refine xe_sipush (n := 1700) (by decide +kernel) (by decide) rfl ?_
  refine xe_icmpgt (off := 163) (t := 234) (by decide +kernel) (by decide) rfl hx4 (show xin (1700) by decide) (fun c164 => ?_) (fun c164 => ?_)
  · rw [if_pos c164] at h
    refine xW_lv rfl (l := [(0, xR_ (x0)), (1, xI (x1))]) (xsb_of ⟨rfl, rfl, trivial⟩ (show [0, 1, 3, 4].Nodup by decide)) ?_
    exact k149_234   hx1 h
  · rw [if_neg c164] at h
    refine xe_alr (ins := .aload_n 0) (len := 1) (i := 0) (by decide +kernel) rfl rfl rfl rfl rfl ?_
    obtain ⟨v165, e166, h⟩ := xbnd h
    refine xs_gi (i := 163) (c := 10) (k := 15) (by decide +kernel) (by decide) (by decide +kernel) e166 rfl ?_
    refine xe_ifle (off := 156) (t := 234) (by decide +kernel) (by decide) rfl (xq_gi_in e166) (fun c167 => ?_) (fun c167 => ?_)
    · rw [if_pos c167] at h
      refine xW_lv rfl (l := [(0, xR_ (x0)), (1, xI (x1))]) (xsb_of ⟨rfl, rfl, trivial⟩ (show [0, 1, 3, 4].Nodup by decide)) ?_
      exact k149_234   hx1 h
    · rw [if_neg c167] at h
      refine xe_alr (ins := .aload_n 0) (len := 1) (i := 0) (by decide +kernel) rfl rfl rfl rfl rfl ?_
      refine xe_iconst (n := 0) (by decide +kernel) rfl ?_
      obtain ⟨M168, e169, h⟩ := xbnd h
      refine xs_p (i := 163) (c := 10) (k := 15) (by decide +kernel) (by decide +kernel) (by decide +kernel) e169 rfl ?_
      refine xe_iconst (n := 0) (by decide +kernel) rfl ?_
      refine xe_isr (ins := .istore 5) (len := 2) (i := 5) (by decide +kernel) rfl rfl rfl (by decide) (xk_k (show ¬ (0 : Nat) = 5 by decide) (Or.inl (show ¬ (0 + 1 : Nat) = 5 by decide)) (xk_k (show ¬ (1 : Nat) = 5 by decide) (Or.inl (show ¬ (1 + 1 : Nat) = 5 by decide)) (xk_k (show ¬ (3 : Nat) = 5 by decide) (Or.inl (show ¬ (3 + 1 : Nat) = 5 by decide)) (xk_k (show ¬ (4 : Nat) = 5 by decide) (Or.inr (xI_cat _)) xk_n)))) rfl ?_
      refine xW_lv rfl (l := [(0, xR_ (x0)), (1, xI (x1)), (3, xI (x3)), (4, xI (x4)), (5, xI (0))]) (xsb_of ⟨rfl, rfl, rfl, rfl, rfl, trivial⟩ (show [5, 0, 1, 3, 4].Nodup by decide)) ?_
      exact k149_89  hr66 hx1 hx3 hx4 (show xin (0) by decide) h
def f149_66   (f : Nat) : Nat → Nat → Int → Int → Int → xj_M → Option (Int × xj_M)
  | 0, _, _, _, _, _ => none
  | n + 1, x0, x1, x3, x4, M => f149_66b   (f149_66   f n) f x0 x1 x3 x4 M
theorem k149_66 {d f : Nat}     : ∀ {n : Nat} {x0 : Nat} {x1 : Int} {x3 : Int} {x4 : Int} {M : xj_M} {R : Int × xj_M}, xin x1 → xin x3 → xin x4 → f149_66   f n x0 x1 x3 x4 M = some R → xW (d + 6) (none, d + 6, none) xr_149 (66, [(0, xR_ x0), (1, xI x1), (3, xI x3), (4, xI x4)], [], M) (xQi R) := by
  intro n
  induction n with
  | zero => intros; rename_i h; cases h
  | succ n ih => intros; rename_i h; exact k149_66b   ih (by assumption) (by assumption) (by assumption) h
def f149_34   (f : Nat) (x0 : Nat) (x1 : Int) (M : xj_M) : Option (Int × xj_M) := ((xq_gr 10 1 (x0) M).bind fun v170 => ((xq_is 3 (v170) M).bind fun _ => ((f26  f (v170) (x1) M).bind fun R174 => ((xq_gi 10 14 (x0) R174.2).bind fun v176 => ((xq_pi 10 14 (x0) (xor_ (v176) (R174.1)) R174.2).bind fun M178 => ((xq_is 10 (x0) M178).bind fun _ => ((f150  f (x0) (x1) M178).bind fun M182 => ((xq_pi 10 15 (x0) (1) M182).bind fun M184 => f149_66   f f (x0) (x1) (R174.1) (1) M184))))))))
theorem k149_34 {d f : Nat}     {x0 : Nat} {x1 : Int} {M : xj_M} {R : Int × xj_M} (hx1 : xin x1) (h : f149_34   f x0 x1 M = some R) : xW (d + 6) (none, d + 6, none) xr_149 (34, [(0, xR_ x0), (1, xI x1)], [], M) (xQi R) := by
  unfold f149_34 at h
  refine xe_alr (ins := .aload_n 0) (len := 1) (i := 0) (by decide +kernel) rfl rfl rfl rfl rfl ?_
  obtain ⟨v170, e171, h⟩ := xbnd h
  refine xs_gr (i := 60) (c := 10) (k := 1) (by decide +kernel) (by decide) (by decide +kernel) e171 rfl ?_
  refine xe_ldn (ins := .iload_n 1) (len := 1) (by decide +kernel) rfl rfl rfl rfl ?_
  obtain ⟨_, e173, h⟩ := xbnd h
  obtain ⟨R174, e172, h⟩ := xbnd h
  refine xs_cv (i := 157) (j := 26) (ar := [xI (x1)]) (rest := []) (r2 := xr_26) (by decide +kernel) (by decide +kernel) (by decide +kernel) xr_26_e rfl (by decide) (by decide) e173 ?_
  refine xc_i (k26 (d := d + 5)  hx1 e172) rfl (fun hi175 => ?_)
  refine xe_isr (ins := .istore_n 3) (len := 1) (i := 3) (by decide +kernel) rfl rfl rfl (by decide) (xk_k (show ¬ (0 : Nat) = 3 by decide) (Or.inl (show ¬ (0 + 1 : Nat) = 3 by decide)) (xk_k (show ¬ (1 : Nat) = 3 by decide) (Or.inl (show ¬ (1 + 1 : Nat) = 3 by decide)) xk_n)) rfl ?_
  refine xe_alr (ins := .aload_n 0) (len := 1) (i := 0) (by decide +kernel) rfl rfl rfl rfl rfl ?_
  refine xe_dupr (by decide +kernel) rfl ?_
  obtain ⟨v176, e177, h⟩ := xbnd h
  refine xs_gi (i := 68) (c := 10) (k := 14) (by decide +kernel) (by decide) (by decide +kernel) e177 rfl ?_
  refine xe_ldn (ins := .iload_n 3) (len := 1) (by decide +kernel) rfl rfl rfl rfl ?_
  refine xe_ior (by decide +kernel) rfl ?_
  obtain ⟨M178, e179, h⟩ := xbnd h
  refine xs_p (i := 68) (c := 10) (k := 14) (by decide +kernel) (by decide +kernel) (by decide +kernel) e179 rfl ?_
  refine xe_alr (ins := .aload_n 0) (len := 1) (i := 0) (by decide +kernel) rfl rfl rfl rfl rfl ?_
  refine xe_ldn (ins := .iload_n 1) (len := 1) (by decide +kernel) rfl rfl rfl rfl ?_
  obtain ⟨_, e181, h⟩ := xbnd h
  obtain ⟨M182, e180, h⟩ := xbnd h
  refine xs_cv (i := 160) (j := 150) (ar := [xI (x1)]) (rest := []) (r2 := xr_150) (by decide +kernel) (by decide +kernel) (by decide +kernel) xr_150_e rfl (by decide) (by decide) e181 ?_
  refine xc_v (k150 (d := d + 4)  hx1 e180) rfl ?_
  refine xe_alr (ins := .aload_n 0) (len := 1) (i := 0) (by decide +kernel) rfl rfl rfl rfl rfl ?_
  refine xe_iconst (n := 1) (by decide +kernel) rfl ?_
  obtain ⟨M184, e185, h⟩ := xbnd h
  refine xs_p (i := 163) (c := 10) (k := 15) (by decide +kernel) (by decide +kernel) (by decide +kernel) e185 rfl ?_
  refine xe_iconst (n := 1) (by decide +kernel) rfl ?_
  refine xe_isr (ins := .istore 4) (len := 2) (i := 4) (by decide +kernel) rfl rfl rfl (by decide) (xk_k (show ¬ (3 : Nat) = 4 by decide) (Or.inr (xI_cat _)) (xk_k (show ¬ (0 : Nat) = 4 by decide) (Or.inl (show ¬ (0 + 1 : Nat) = 4 by decide)) (xk_k (show ¬ (1 : Nat) = 4 by decide) (Or.inl (show ¬ (1 + 1 : Nat) = 4 by decide)) xk_n))) rfl ?_
  refine xW_lv rfl (l := [(0, xR_ (x0)), (1, xI (x1)), (3, xI (R174.1)), (4, xI (1))]) (xsb_of ⟨rfl, rfl, rfl, rfl, trivial⟩ (show [4, 3, 0, 1].Nodup by decide)) ?_
  exact k149_66   hx1 hi175 (show xin (1) by decide) h
def f149  (f : Nat) (a0 : Nat) (a1 : Int) (a2 : Int) (M : xj_M) : Option (Int × xj_M) := ((xq_gr 10 1 (a0) M).bind fun v186 => ((xq_gr 3 5 (v186) M).bind fun v188 => ((xq_ab (v188) (a1) M).bind fun v190 => (if ¬ (v190) = 0 then f149_32   f  M else (if ¬ (a2) = 0 then f149_34   f (a0) (a1) M else ((xq_gr 10 1 (a0) M).bind fun v194 => ((xq_is 3 (v194) M).bind fun _ => ((f27  f (v194) (a1) M).bind fun R198 => ((xq_gi 10 13 (a0) R198.2).bind fun v200 => (if ¬ (xand (R198.1) (v200)) = 0 then f149_34   f (a0) (a1) R198.2 else f149_32   f  R198.2))))))))))
theorem k149 {d f : Nat}   {a0 : Nat} {a1 : Int} {a2 : Int} {M : xj_M} {R : Int × xj_M} (ha1 : xin a1) (ha2 : xin a2) (h : f149  f a0 a1 a2 M = some R) : xT (d + 7) 149 [xR_ a0, xI a1, xI a2] M (xQi R) := by
  refine xT_m xr_149_e (X := (none, d + 6, none)) rfl (xa_1 (xR_cat _) (xa_1 (xI_cat _) (xa_1 (xI_cat _) xa_n))) (by decide) ?_
  unfold f149 at h
  refine xe_alr (ins := .aload_n 0) (len := 1) (i := 0) (by decide +kernel) rfl rfl rfl rfl rfl ?_
  obtain ⟨v186, e187, h⟩ := xbnd h
  refine xs_gr (i := 60) (c := 10) (k := 1) (by decide +kernel) (by decide) (by decide +kernel) e187 rfl ?_
  obtain ⟨v188, e189, h⟩ := xbnd h
  refine xs_gr (i := 92) (c := 3) (k := 5) (by decide +kernel) (by decide) (by decide +kernel) e189 rfl ?_
  refine xe_ldn (ins := .iload_n 1) (len := 1) (by decide +kernel) rfl rfl rfl rfl ?_
  obtain ⟨v190, e191, h⟩ := xbnd h
  refine xs_bald (by decide +kernel) ha1 e191 rfl ?_
  refine xe_ifne (off := 23) (t := 32) (by decide +kernel) (by decide) rfl (xq_ab_in e191) (fun c192 => ?_) (fun c192 => ?_)
  · rw [if_pos c192] at h
    refine xW_lv rfl (l := []) (xsb_of trivial (show [0, 1, 2].Nodup by decide)) ?_
    exact k149_32    h
  · rw [if_neg c192] at h
    refine xe_ldn (ins := .iload_n 2) (len := 1) (by decide +kernel) rfl rfl rfl rfl ?_
    refine xe_ifne (off := 21) (t := 34) (by decide +kernel) (by decide) rfl ha2 (fun c193 => ?_) (fun c193 => ?_)
    · rw [if_pos c193] at h
      refine xW_lv rfl (l := [(0, xR_ (a0)), (1, xI (a1))]) (xsb_of ⟨rfl, rfl, trivial⟩ (show [0, 1, 2].Nodup by decide)) ?_
      exact k149_34   ha1 h
    · rw [if_neg c193] at h
      refine xe_alr (ins := .aload_n 0) (len := 1) (i := 0) (by decide +kernel) rfl rfl rfl rfl rfl ?_
      obtain ⟨v194, e195, h⟩ := xbnd h
      refine xs_gr (i := 60) (c := 10) (k := 1) (by decide +kernel) (by decide) (by decide +kernel) e195 rfl ?_
      refine xe_ldn (ins := .iload_n 1) (len := 1) (by decide +kernel) rfl rfl rfl rfl ?_
      obtain ⟨_, e197, h⟩ := xbnd h
      obtain ⟨R198, e196, h⟩ := xbnd h
      refine xs_cv (i := 153) (j := 27) (ar := [xI (a1)]) (rest := []) (r2 := xr_27) (by decide +kernel) (by decide +kernel) (by decide +kernel) xr_27_e rfl (by decide) (by decide) e197 ?_
      refine xc_i (k27 (d := d + 4)  ha1 e196) rfl (fun hi199 => ?_)
      refine xe_alr (ins := .aload_n 0) (len := 1) (i := 0) (by decide +kernel) rfl rfl rfl rfl rfl ?_
      obtain ⟨v200, e201, h⟩ := xbnd h
      refine xs_gi (i := 64) (c := 10) (k := 13) (by decide +kernel) (by decide) (by decide +kernel) e201 rfl ?_
      refine xe_iand (by decide +kernel) rfl ?_
      refine xe_ifne (off := 5) (t := 34) (by decide +kernel) (by decide) rfl (xin_of _) (fun c202 => ?_) (fun c202 => ?_)
      · rw [if_pos c202] at h
        refine xW_lv rfl (l := [(0, xR_ (a0)), (1, xI (a1))]) (xsb_of ⟨rfl, rfl, trivial⟩ (show [0, 1, 2].Nodup by decide)) ?_
        exact k149_34   ha1 h
      · rw [if_neg c202] at h
        refine xW_lv rfl (l := []) (xsb_of trivial (show [0, 1, 2].Nodup by decide)) ?_
        exact k149_32    h
-- ChangeHouse$Works.explain
def xr_163 : xj_mR := (10, yX10_explain, cX10_explain, 8, (Option.none : Option Jvm.ClassFile.FieldType), 3, false, (8, 65), (1, 5))
set_option maxRecDepth 20000 in
theorem xr_163_e : xj_row 163 = some xr_163 := rfl
def f163_157  (r51 : Nat → Nat → Int → Int → Int → xj_M → Option (xj_M)) (f : Nat) (x0 : Nat) (x1 : Nat) (x2 : Int) (x4 : Int) (x5 : Int) (M : xj_M) : Option (xj_M) := r51 (x0) (x1) (x2) (x4) (xwr ((x5) + (1))) M
theorem k163_157 {d f : Nat}  {r51 : Nat → Nat → Int → Int → Int → xj_M → Option (xj_M)}  (hr51 : ∀ {x0 : Nat} {x1 : Nat} {x2 : Int} {x4 : Int} {x5 : Int} {M : xj_M} {R : xj_M}, xin x2 → xin x4 → xin x5 → r51 x0 x1 x2 x4 x5 M = some R → xW (d + 6) (none, d + 6, none) xr_163 (51, [(0, xR_ x0), (1, xR_ x1), (2, xI x2), (4, xI x4), (5, xI x5)], [], M) (xQv R)) {x0 : Nat} {x1 : Nat} {x2 : Int} {x4 : Int} {x5 : Int} {M : xj_M} {R : xj_M} (hx2 : xin x2) (hx4 : xin x4) (hx5 : xin x5) (h : f163_157  r51 f x0 x1 x2 x4 x5 M = some R) : xW (d + 6) (none, d + 6, none) xr_163 (157, [(0, xR_ x0), (1, xR_ x1), (2, xI x2), (4, xI x4), (5, xI x5)], [], M) (xQv R) := by
  unfold f163_157 at h
  refine xe_iincr (i := 5) (n := 1) (by decide +kernel) (by decide) rfl (xk_k (show ¬ (0 : Nat) = 5 by decide) (Or.inl (show ¬ (0 + 1 : Nat) = 5 by decide)) (xk_k (show ¬ (1 : Nat) = 5 by decide) (Or.inl (show ¬ (1 + 1 : Nat) = 5 by decide)) (xk_k (show ¬ (2 : Nat) = 5 by decide) (Or.inl (show ¬ (2 + 1 : Nat) = 5 by decide)) (xk_k (show ¬ (4 : Nat) = 5 by decide) (Or.inr (xI_cat _)) (xk_d rfl xk_n))))) rfl ?_
  refine xe_goto (off := -109) (nx := 51) (by decide +kernel) (by decide) ?_
  refine xW_lv rfl (l := [(0, xR_ (x0)), (1, xR_ (x1)), (2, xI (x2)), (4, xI (x4)), (5, xI (xwr ((x5) + (1))))]) (xsb_of ⟨rfl, rfl, rfl, rfl, rfl, trivial⟩ (show [5, 0, 1, 2, 4].Nodup by decide)) ?_
  exact hr51 hx2 hx4 (xin_wr _) h
def f163_154  (r51 : Nat → Nat → Int → Int → Int → xj_M → Option (xj_M)) (f : Nat) (x0 : Nat) (x1 : Nat) (x2 : Int) (x4 : Int) (x5 : Int) (y0 : Int) (y1 : Nat) (M : xj_M) : Option (xj_M) := ((xq_pi 10 16 (y1) (y0) M).bind fun M101 => f163_157  r51 f (x0) (x1) (x2) (x4) (x5) M101)
theorem k163_154 {d f : Nat}  {r51 : Nat → Nat → Int → Int → Int → xj_M → Option (xj_M)}  (hr51 : ∀ {x0 : Nat} {x1 : Nat} {x2 : Int} {x4 : Int} {x5 : Int} {M : xj_M} {R : xj_M}, xin x2 → xin x4 → xin x5 → r51 x0 x1 x2 x4 x5 M = some R → xW (d + 6) (none, d + 6, none) xr_163 (51, [(0, xR_ x0), (1, xR_ x1), (2, xI x2), (4, xI x4), (5, xI x5)], [], M) (xQv R)) {x0 : Nat} {x1 : Nat} {x2 : Int} {x4 : Int} {x5 : Int} {y0 : Int} {y1 : Nat} {M : xj_M} {R : xj_M} (hx2 : xin x2) (hx4 : xin x4) (hx5 : xin x5) (hy0 : xin y0) (h : f163_154  r51 f x0 x1 x2 x4 x5 y0 y1 M = some R) : xW (d + 6) (none, d + 6, none) xr_163 (154, [(0, xR_ x0), (1, xR_ x1), (2, xI x2), (4, xI x4), (5, xI x5)], [xI y0, xR_ y1], M) (xQv R) := by
  unfold f163_154 at h
  obtain ⟨M101, e102, h⟩ := xbnd h
  refine xs_p (i := 314) (c := 10) (k := 16) (by decide +kernel) (by decide +kernel) (by decide +kernel) e102 rfl ?_
  refine xW_lv rfl (l := [(0, xR_ (x0)), (1, xR_ (x1)), (2, xI (x2)), (4, xI (x4)), (5, xI (x5))]) (xsb_of ⟨rfl, rfl, rfl, rfl, rfl, trivial⟩ (show [0, 1, 2, 4, 5].Nodup by decide)) ?_
  exact k163_157  hr51 hx2 hx4 hx5 h
def f163_140  (r51 : Nat → Nat → Int → Int → Int → xj_M → Option (xj_M)) (f : Nat) (x0 : Nat) (x1 : Nat) (x2 : Int) (x4 : Int) (x5 : Int) (y0 : Int) (M : xj_M) : Option (xj_M) := (if (y0) = 0 then f163_154  r51 f (x0) (x1) (x2) (x4) (x5) (-1) (x0) M else f163_154  r51 f (x0) (x1) (x2) (x4) (x5) (x5) (x0) M)
theorem k163_140 {d f : Nat}  {r51 : Nat → Nat → Int → Int → Int → xj_M → Option (xj_M)}  (hr51 : ∀ {x0 : Nat} {x1 : Nat} {x2 : Int} {x4 : Int} {x5 : Int} {M : xj_M} {R : xj_M}, xin x2 → xin x4 → xin x5 → r51 x0 x1 x2 x4 x5 M = some R → xW (d + 6) (none, d + 6, none) xr_163 (51, [(0, xR_ x0), (1, xR_ x1), (2, xI x2), (4, xI x4), (5, xI x5)], [], M) (xQv R)) {x0 : Nat} {x1 : Nat} {x2 : Int} {x4 : Int} {x5 : Int} {y0 : Int} {M : xj_M} {R : xj_M} (hx2 : xin x2) (hx4 : xin x4) (hx5 : xin x5) (hy0 : xin y0) (h : f163_140  r51 f x0 x1 x2 x4 x5 y0 M = some R) : xW (d + 6) (none, d + 6, none) xr_163 (140, [(0, xR_ x0), (1, xR_ x1), (2, xI x2), (4, xI x4), (5, xI x5)], [xI y0], M) (xQv R) := by
  unfold f163_140 at h
  refine xe_isr (ins := .istore 7) (len := 2) (i := 7) (by decide +kernel) rfl rfl rfl (by decide) (xk_k (show ¬ (0 : Nat) = 7 by decide) (Or.inl (show ¬ (0 + 1 : Nat) = 7 by decide)) (xk_k (show ¬ (1 : Nat) = 7 by decide) (Or.inl (show ¬ (1 + 1 : Nat) = 7 by decide)) (xk_k (show ¬ (2 : Nat) = 7 by decide) (Or.inl (show ¬ (2 + 1 : Nat) = 7 by decide)) (xk_k (show ¬ (4 : Nat) = 7 by decide) (Or.inl (show ¬ (4 + 1 : Nat) = 7 by decide)) (xk_k (show ¬ (5 : Nat) = 7 by decide) (Or.inl (show ¬ (5 + 1 : Nat) = 7 by decide)) xk_n))))) rfl ?_
  refine xe_alr (ins := .aload_n 0) (len := 1) (i := 0) (by decide +kernel) rfl rfl rfl rfl rfl ?_
  refine xe_ldn (ins := .iload 7) (len := 2) (by decide +kernel) rfl rfl rfl rfl ?_
  refine xe_ifeq (off := 8) (t := 153) (by decide +kernel) (by decide) rfl hy0 (fun c103 => ?_) (fun c103 => ?_)
  · rw [if_pos c103] at h
    refine xe_iconst (n := -1) (by decide +kernel) rfl ?_
    refine xW_lv rfl (l := [(0, xR_ (x0)), (1, xR_ (x1)), (2, xI (x2)), (4, xI (x4)), (5, xI (x5))]) (xsb_of ⟨rfl, rfl, rfl, rfl, rfl, trivial⟩ (show [7, 0, 1, 2, 4, 5].Nodup by decide)) ?_
    exact k163_154  hr51 hx2 hx4 hx5 (show xin (-1) by decide) h
  · rw [if_neg c103] at h
    refine xe_ldn (ins := .iload 5) (len := 2) (by decide +kernel) rfl rfl rfl rfl ?_
    refine xe_goto (off := 4) (nx := 154) (by decide +kernel) (by decide) ?_
    refine xW_lv rfl (l := [(0, xR_ (x0)), (1, xR_ (x1)), (2, xI (x2)), (4, xI (x4)), (5, xI (x5))]) (xsb_of ⟨rfl, rfl, rfl, rfl, rfl, trivial⟩ (show [7, 0, 1, 2, 4, 5].Nodup by decide)) ?_
    exact k163_154  hr51 hx2 hx4 hx5 hx5 h
def f163_139  (r51 : Nat → Nat → Int → Int → Int → xj_M → Option (xj_M)) (f : Nat) (x0 : Nat) (x1 : Nat) (x2 : Int) (x4 : Int) (x5 : Int) (M : xj_M) : Option (xj_M) := f163_140  r51 f (x0) (x1) (x2) (x4) (x5) (0) M
theorem k163_139 {d f : Nat}  {r51 : Nat → Nat → Int → Int → Int → xj_M → Option (xj_M)}  (hr51 : ∀ {x0 : Nat} {x1 : Nat} {x2 : Int} {x4 : Int} {x5 : Int} {M : xj_M} {R : xj_M}, xin x2 → xin x4 → xin x5 → r51 x0 x1 x2 x4 x5 M = some R → xW (d + 6) (none, d + 6, none) xr_163 (51, [(0, xR_ x0), (1, xR_ x1), (2, xI x2), (4, xI x4), (5, xI x5)], [], M) (xQv R)) {x0 : Nat} {x1 : Nat} {x2 : Int} {x4 : Int} {x5 : Int} {M : xj_M} {R : xj_M} (hx2 : xin x2) (hx4 : xin x4) (hx5 : xin x5) (h : f163_139  r51 f x0 x1 x2 x4 x5 M = some R) : xW (d + 6) (none, d + 6, none) xr_163 (139, [(0, xR_ x0), (1, xR_ x1), (2, xI x2), (4, xI x4), (5, xI x5)], [], M) (xQv R) := by
  unfold f163_139 at h
  refine xe_iconst (n := 0) (by decide +kernel) rfl ?_
  refine xW_lv rfl (l := [(0, xR_ (x0)), (1, xR_ (x1)), (2, xI (x2)), (4, xI (x4)), (5, xI (x5))]) (xsb_of ⟨rfl, rfl, rfl, rfl, rfl, trivial⟩ (show [0, 1, 2, 4, 5].Nodup by decide)) ?_
  exact k163_140  hr51 hx2 hx4 hx5 (show xin (0) by decide) h
def f163_163   (f : Nat)  (M : xj_M) : Option (xj_M) := (some M)
theorem k163_163 {d f : Nat}      {M : xj_M} {R : xj_M}  (h : f163_163   f  M = some R) : xW (d + 6) (none, d + 6, none) xr_163 (163, [], [], M) (xQv R) := by
  unfold f163_163 at h
  cases h
  exact xe_ret_v (by decide +kernel) rfl ⟨rfl, rfl⟩
def f163_51b  (r51 : Nat → Nat → Int → Int → Int → xj_M → Option (xj_M)) (f : Nat) (x0 : Nat) (x1 : Nat) (x2 : Int) (x4 : Int) (x5 : Int) (M : xj_M) : Option (xj_M) := ((xq_gr 10 1 (x0) M).bind fun v104 => ((xq_gi 3 8 (v104) M).bind fun v106 => (if (v106) ≤ (x5) then f163_163   f  M else ((xq_gi 10 16 (x0) M).bind fun v109 => (if ¬ (v109) = (-1) then f163_163   f  M else ((xq_gr 10 1 (x0) M).bind fun v112 => ((xq_gr 3 9 (v112) M).bind fun v114 => ((xq_ar (v114) (x5) M).bind fun v116 => ((xq_gi 6 0 (v116) M).bind fun v118 => (if ¬ (v118) = (x2) then f163_157  r51 f (x0) (x1) (x2) (x4) (x5) M else ((xq_gi 6 3 (v116) M).bind fun v121 => (if ¬ (v121) = (-1) then (if ¬ (x4) = (1) then f163_139  r51 f (x0) (x1) (x2) (x4) (x5) M else ((xq_gr 2 1 (x1) M).bind fun v125 => ((xq_is 10 (x0) M).bind fun _ => ((f167  f (x0) (v116) (v125) M).bind fun R129 => (if (R129.1) = 0 then f163_139  r51 f (x0) (x1) (x2) (x4) (x5) R129.2 else f163_140  r51 f (x0) (x1) (x2) (x4) (x5) (1) R129.2))))) else ((xq_gr 2 1 (x1) M).bind fun v132 => ((xq_is 10 (x0) M).bind fun _ => ((f164  f (x0) (v116) (v132) (x4) M).bind fun R136 => f163_140  r51 f (x0) (x1) (x2) (x4) (x5) (R136.1) R136.2)))))))))))))))
theorem k163_51b {d f : Nat}  {r51 : Nat → Nat → Int → Int → Int → xj_M → Option (xj_M)}  (hr51 : ∀ {x0 : Nat} {x1 : Nat} {x2 : Int} {x4 : Int} {x5 : Int} {M : xj_M} {R : xj_M}, xin x2 → xin x4 → xin x5 → r51 x0 x1 x2 x4 x5 M = some R → xW (d + 6) (none, d + 6, none) xr_163 (51, [(0, xR_ x0), (1, xR_ x1), (2, xI x2), (4, xI x4), (5, xI x5)], [], M) (xQv R)) {x0 : Nat} {x1 : Nat} {x2 : Int} {x4 : Int} {x5 : Int} {M : xj_M} {R : xj_M} (hx2 : xin x2) (hx4 : xin x4) (hx5 : xin x5) (h : f163_51b  r51 f x0 x1 x2 x4 x5 M = some R) : xW (d + 6) (none, d + 6, none) xr_163 (51, [(0, xR_ x0), (1, xR_ x1), (2, xI x2), (4, xI x4), (5, xI x5)], [], M) (xQv R) := by
  unfold f163_51b at h
  refine xe_ldn (ins := .iload 5) (len := 2) (by decide +kernel) rfl rfl rfl rfl ?_
  refine xe_alr (ins := .aload_n 0) (len := 1) (i := 0) (by decide +kernel) rfl rfl rfl rfl rfl ?_
  obtain ⟨v104, e105, h⟩ := xbnd h
  refine xs_gr (i := 60) (c := 10) (k := 1) (by decide +kernel) (by decide) (by decide +kernel) e105 rfl ?_
  obtain ⟨v106, e107, h⟩ := xbnd h
  refine xs_gi (i := 166) (c := 3) (k := 8) (by decide +kernel) (by decide) (by decide +kernel) e107 rfl ?_
  refine xe_icmpge (off := 103) (t := 163) (by decide +kernel) (by decide) rfl hx5 (xq_gi_in e107) (fun c108 => ?_) (fun c108 => ?_)
  · rw [if_pos c108] at h
    refine xW_lv rfl (l := []) (xsb_of trivial (show [0, 1, 2, 4, 5].Nodup by decide)) ?_
    exact k163_163    h
  · rw [if_neg c108] at h
    refine xe_alr (ins := .aload_n 0) (len := 1) (i := 0) (by decide +kernel) rfl rfl rfl rfl rfl ?_
    obtain ⟨v109, e110, h⟩ := xbnd h
    refine xs_gi (i := 314) (c := 10) (k := 16) (by decide +kernel) (by decide) (by decide +kernel) e110 rfl ?_
    refine xe_iconst (n := -1) (by decide +kernel) rfl ?_
    refine xe_icmpne (off := 95) (t := 163) (by decide +kernel) (by decide) rfl (xq_gi_in e110) (show xin (-1) by decide) (fun c111 => ?_) (fun c111 => ?_)
    · rw [if_pos c111] at h
      refine xW_lv rfl (l := []) (xsb_of trivial (show [0, 1, 2, 4, 5].Nodup by decide)) ?_
      exact k163_163    h
    · rw [if_neg c111] at h
      refine xe_alr (ins := .aload_n 0) (len := 1) (i := 0) (by decide +kernel) rfl rfl rfl rfl rfl ?_
      obtain ⟨v112, e113, h⟩ := xbnd h
      refine xs_gr (i := 60) (c := 10) (k := 1) (by decide +kernel) (by decide) (by decide +kernel) e113 rfl ?_
      obtain ⟨v114, e115, h⟩ := xbnd h
      refine xs_gr (i := 169) (c := 3) (k := 9) (by decide +kernel) (by decide) (by decide +kernel) e115 rfl ?_
      refine xe_ldn (ins := .iload 5) (len := 2) (by decide +kernel) rfl rfl rfl rfl ?_
      obtain ⟨v116, e117, h⟩ := xbnd h
      refine xs_aald (by decide +kernel) hx5 e117 rfl ?_
      refine xe_asr (ins := .astore 6) (len := 2) (i := 6) (by decide +kernel) rfl rfl rfl (by decide) (xk_k (show ¬ (0 : Nat) = 6 by decide) (Or.inl (show ¬ (0 + 1 : Nat) = 6 by decide)) (xk_k (show ¬ (1 : Nat) = 6 by decide) (Or.inl (show ¬ (1 + 1 : Nat) = 6 by decide)) (xk_k (show ¬ (2 : Nat) = 6 by decide) (Or.inl (show ¬ (2 + 1 : Nat) = 6 by decide)) (xk_k (show ¬ (4 : Nat) = 6 by decide) (Or.inl (show ¬ (4 + 1 : Nat) = 6 by decide)) (xk_k (show ¬ (5 : Nat) = 6 by decide) (Or.inr (xI_cat _)) xk_n))))) rfl ?_
      refine xe_alr (ins := .aload 6) (len := 2) (i := 6) (by decide +kernel) rfl rfl rfl rfl rfl ?_
      obtain ⟨v118, e119, h⟩ := xbnd h
      refine xs_gi (i := 176) (c := 6) (k := 0) (by decide +kernel) (by decide) (by decide +kernel) e119 rfl ?_
      refine xe_ldn (ins := .iload_n 2) (len := 1) (by decide +kernel) rfl rfl rfl rfl ?_
      refine xe_icmpne (off := 68) (t := 157) (by decide +kernel) (by decide) rfl (xq_gi_in e119) hx2 (fun c120 => ?_) (fun c120 => ?_)
      · rw [if_pos c120] at h
        refine xW_lv rfl (l := [(0, xR_ (x0)), (1, xR_ (x1)), (2, xI (x2)), (4, xI (x4)), (5, xI (x5))]) (xsb_of ⟨rfl, rfl, rfl, rfl, rfl, trivial⟩ (show [6, 0, 1, 2, 4, 5].Nodup by decide)) ?_
        exact k163_157  hr51 hx2 hx4 hx5 h
      · rw [if_neg c120] at h
        refine xe_alr (ins := .aload 6) (len := 2) (i := 6) (by decide +kernel) rfl rfl rfl rfl rfl ?_
        obtain ⟨v121, e122, h⟩ := xbnd h
        refine xs_gi (i := 189) (c := 6) (k := 3) (by decide +kernel) (by decide) (by decide +kernel) e122 rfl ?_
        refine xe_iconst (n := -1) (by decide +kernel) rfl ?_
        refine xe_icmpne (off := 18) (t := 116) (by decide +kernel) (by decide) rfl (xq_gi_in e122) (show xin (-1) by decide) (fun c123 => ?_) (fun c123 => ?_)
        · rw [if_pos c123] at h
          refine xe_ldn (ins := .iload 4) (len := 2) (by decide +kernel) rfl rfl rfl rfl ?_
          refine xe_iconst (n := 1) (by decide +kernel) rfl ?_
          refine xe_icmpne (off := 20) (t := 139) (by decide +kernel) (by decide) rfl hx4 (show xin (1) by decide) (fun c124 => ?_) (fun c124 => ?_)
          · rw [if_pos c124] at h
            refine xW_lv rfl (l := [(0, xR_ (x0)), (1, xR_ (x1)), (2, xI (x2)), (4, xI (x4)), (5, xI (x5))]) (xsb_of ⟨rfl, rfl, rfl, rfl, rfl, trivial⟩ (show [6, 0, 1, 2, 4, 5].Nodup by decide)) ?_
            exact k163_139  hr51 hx2 hx4 hx5 h
          · rw [if_neg c124] at h
            refine xe_alr (ins := .aload_n 0) (len := 1) (i := 0) (by decide +kernel) rfl rfl rfl rfl rfl ?_
            refine xe_alr (ins := .aload 6) (len := 2) (i := 6) (by decide +kernel) rfl rfl rfl rfl rfl ?_
            refine xe_alr (ins := .aload_n 1) (len := 1) (i := 1) (by decide +kernel) rfl rfl rfl rfl rfl ?_
            obtain ⟨v125, e126, h⟩ := xbnd h
            refine xs_gr (i := 89) (c := 2) (k := 1) (by decide +kernel) (by decide) (by decide +kernel) e126 rfl ?_
            obtain ⟨_, e128, h⟩ := xbnd h
            obtain ⟨R129, e127, h⟩ := xbnd h
            refine xs_cv (i := 327) (j := 167) (ar := [xR_ (v125), xR_ (v116)]) (rest := []) (r2 := xr_167) (by decide +kernel) (by decide +kernel) (by decide +kernel) xr_167_e rfl (by decide) (by decide) e128 ?_
            refine xc_i (k167 (d := d + 0)   e127) rfl (fun hi130 => ?_)
            refine xe_ifeq (off := 7) (t := 139) (by decide +kernel) (by decide) rfl hi130 (fun c131 => ?_) (fun c131 => ?_)
            · rw [if_pos c131] at h
              refine xW_lv rfl (l := [(0, xR_ (x0)), (1, xR_ (x1)), (2, xI (x2)), (4, xI (x4)), (5, xI (x5))]) (xsb_of ⟨rfl, rfl, rfl, rfl, rfl, trivial⟩ (show [6, 0, 1, 2, 4, 5].Nodup by decide)) ?_
              exact k163_139  hr51 hx2 hx4 hx5 h
            · rw [if_neg c131] at h
              refine xe_iconst (n := 1) (by decide +kernel) rfl ?_
              refine xe_goto (off := 4) (nx := 140) (by decide +kernel) (by decide) ?_
              refine xW_lv rfl (l := [(0, xR_ (x0)), (1, xR_ (x1)), (2, xI (x2)), (4, xI (x4)), (5, xI (x5))]) (xsb_of ⟨rfl, rfl, rfl, rfl, rfl, trivial⟩ (show [6, 0, 1, 2, 4, 5].Nodup by decide)) ?_
              exact k163_140  hr51 hx2 hx4 hx5 (show xin (1) by decide) h
        · rw [if_neg c123] at h
          refine xe_alr (ins := .aload_n 0) (len := 1) (i := 0) (by decide +kernel) rfl rfl rfl rfl rfl ?_
          refine xe_alr (ins := .aload 6) (len := 2) (i := 6) (by decide +kernel) rfl rfl rfl rfl rfl ?_
          refine xe_alr (ins := .aload_n 1) (len := 1) (i := 1) (by decide +kernel) rfl rfl rfl rfl rfl ?_
          obtain ⟨v132, e133, h⟩ := xbnd h
          refine xs_gr (i := 89) (c := 2) (k := 1) (by decide +kernel) (by decide) (by decide +kernel) e133 rfl ?_
          refine xe_ldn (ins := .iload 4) (len := 2) (by decide +kernel) rfl rfl rfl rfl ?_
          obtain ⟨_, e135, h⟩ := xbnd h
          obtain ⟨R136, e134, h⟩ := xbnd h
          refine xs_cv (i := 323) (j := 164) (ar := [xI (x4), xR_ (v132), xR_ (v116)]) (rest := []) (r2 := xr_164) (by decide +kernel) (by decide +kernel) (by decide +kernel) xr_164_e rfl (by decide) (by decide) e135 ?_
          refine xc_i (k164 (d := d + 0)  hx4 e134) rfl (fun hi137 => ?_)
          refine xe_goto (off := 27) (nx := 140) (by decide +kernel) (by decide) ?_
          refine xW_lv rfl (l := [(0, xR_ (x0)), (1, xR_ (x1)), (2, xI (x2)), (4, xI (x4)), (5, xI (x5))]) (xsb_of ⟨rfl, rfl, rfl, rfl, rfl, trivial⟩ (show [6, 0, 1, 2, 4, 5].Nodup by decide)) ?_
          exact k163_140  hr51 hx2 hx4 hx5 hi137 h
def f163_51   (f : Nat) : Nat → Nat → Nat → Int → Int → Int → xj_M → Option (xj_M)
  | 0, _, _, _, _, _, _ => none
  | n + 1, x0, x1, x2, x4, x5, M => f163_51b   (f163_51   f n) f x0 x1 x2 x4 x5 M
theorem k163_51 {d f : Nat}     : ∀ {n : Nat} {x0 : Nat} {x1 : Nat} {x2 : Int} {x4 : Int} {x5 : Int} {M : xj_M} {R : xj_M}, xin x2 → xin x4 → xin x5 → f163_51   f n x0 x1 x2 x4 x5 M = some R → xW (d + 6) (none, d + 6, none) xr_163 (51, [(0, xR_ x0), (1, xR_ x1), (2, xI x2), (4, xI x4), (5, xI x5)], [], M) (xQv R) := by
  intro n
  induction n with
  | zero => intros; rename_i h; cases h
  | succ n ih => intros; rename_i h; exact k163_51b   ih (by assumption) (by assumption) (by assumption) h
def f163  (f : Nat) (a0 : Nat) (a1 : Nat) (a2 : Int) (a3 : Int) (M : xj_M) : Option (xj_M) := ((xq_gr 2 0 (a1) M).bind fun v138 => ((xq_pr 10 1 (a0) (v138) M).bind fun M140 => ((xq_pi 10 16 (a0) (-1) M140).bind fun M142 => ((xq_gr 10 17 (a0) M142).bind fun v144 => ((f382  f (v144) (-1) M142).bind fun M147 => ((xq_gr 2 1 (a1) M147).bind fun v149 => ((xq_ar (v149) (a2) M147).bind fun v151 => ((xq_gr 5 3 (v151) M147).bind fun v153 => ((xq_ai 3 (v153) (a3) M147).bind fun v155 => ((xq_gr 2 1 (a1) M147).bind fun v157 => ((xq_ar (v157) (a2) M147).bind fun v159 => ((xq_gr 10 11 (a0) M147).bind fun v161 => ((xq_is 5 (v159) M147).bind fun _ => ((f78  f (v159) (a3) (v161) M147).bind fun M165 => f163_51   f f (a0) (a1) (a2) (v155) (0) M165))))))))))))))
theorem k163 {d f : Nat}   {a0 : Nat} {a1 : Nat} {a2 : Int} {a3 : Int} {M : xj_M} {R : xj_M} (ha2 : xin a2) (ha3 : xin a3) (h : f163  f a0 a1 a2 a3 M = some R) : xT (d + 7) 163 [xR_ a0, xR_ a1, xI a2, xI a3] M (xQv R) := by
  refine xT_m xr_163_e (X := (none, d + 6, none)) rfl (xa_1 (xR_cat _) (xa_1 (xR_cat _) (xa_1 (xI_cat _) (xa_1 (xI_cat _) xa_n)))) (by decide) ?_
  unfold f163 at h
  refine xe_alr (ins := .aload_n 0) (len := 1) (i := 0) (by decide +kernel) rfl rfl rfl rfl rfl ?_
  refine xe_alr (ins := .aload_n 1) (len := 1) (i := 1) (by decide +kernel) rfl rfl rfl rfl rfl ?_
  obtain ⟨v138, e139, h⟩ := xbnd h
  refine xs_gr (i := 76) (c := 2) (k := 0) (by decide +kernel) (by decide) (by decide +kernel) e139 rfl ?_
  obtain ⟨M140, e141, h⟩ := xbnd h
  refine xs_p (i := 60) (c := 10) (k := 1) (by decide +kernel) (by decide +kernel) (by decide +kernel) e141 rfl ?_
  refine xe_alr (ins := .aload_n 0) (len := 1) (i := 0) (by decide +kernel) rfl rfl rfl rfl rfl ?_
  refine xe_iconst (n := -1) (by decide +kernel) rfl ?_
  obtain ⟨M142, e143, h⟩ := xbnd h
  refine xs_p (i := 314) (c := 10) (k := 16) (by decide +kernel) (by decide +kernel) (by decide +kernel) e143 rfl ?_
  refine xe_alr (ins := .aload_n 0) (len := 1) (i := 0) (by decide +kernel) rfl rfl rfl rfl rfl ?_
  obtain ⟨v144, e145, h⟩ := xbnd h
  refine xs_gr (i := 52) (c := 10) (k := 17) (by decide +kernel) (by decide) (by decide +kernel) e145 rfl ?_
  refine xe_iconst (n := -1) (by decide +kernel) rfl ?_
  obtain ⟨M147, e146, h⟩ := xbnd h
  refine xs_cs (kd := 2) (by decide) (i := 317) (j := 382) (ar := [xI (-1), xR_ (v144)]) (rest := []) (r2 := xr_382) (by decide +kernel) (by decide +kernel) (by decide +kernel) xr_382_e rfl (by decide) ?_
  refine xc_v (k382 (d := d + 5)  (show xin (-1) by decide) e146) rfl ?_
  refine xe_alr (ins := .aload_n 1) (len := 1) (i := 1) (by decide +kernel) rfl rfl rfl rfl rfl ?_
  obtain ⟨v149, e150, h⟩ := xbnd h
  refine xs_gr (i := 89) (c := 2) (k := 1) (by decide +kernel) (by decide) (by decide +kernel) e150 rfl ?_
  refine xe_ldn (ins := .iload_n 2) (len := 1) (by decide +kernel) rfl rfl rfl rfl ?_
  obtain ⟨v151, e152, h⟩ := xbnd h
  refine xs_aald (by decide +kernel) ha2 e152 rfl ?_
  obtain ⟨v153, e154, h⟩ := xbnd h
  refine xs_gr (i := 270) (c := 5) (k := 3) (by decide +kernel) (by decide) (by decide +kernel) e154 rfl ?_
  refine xe_ldn (ins := .iload_n 3) (len := 1) (by decide +kernel) rfl rfl rfl rfl ?_
  obtain ⟨v155, e156, h⟩ := xbnd h
  refine xs_iald rfl (by decide +kernel) ha3 e156 rfl ?_
  refine xe_isr (ins := .istore 4) (len := 2) (i := 4) (by decide +kernel) rfl rfl rfl (by decide) (xk_k (show ¬ (0 : Nat) = 4 by decide) (Or.inl (show ¬ (0 + 1 : Nat) = 4 by decide)) (xk_k (show ¬ (1 : Nat) = 4 by decide) (Or.inl (show ¬ (1 + 1 : Nat) = 4 by decide)) (xk_k (show ¬ (2 : Nat) = 4 by decide) (Or.inl (show ¬ (2 + 1 : Nat) = 4 by decide)) (xk_k (show ¬ (3 : Nat) = 4 by decide) (Or.inr (xI_cat _)) xk_n)))) rfl ?_
  refine xe_alr (ins := .aload_n 1) (len := 1) (i := 1) (by decide +kernel) rfl rfl rfl rfl rfl ?_
  obtain ⟨v157, e158, h⟩ := xbnd h
  refine xs_gr (i := 89) (c := 2) (k := 1) (by decide +kernel) (by decide) (by decide +kernel) e158 rfl ?_
  refine xe_ldn (ins := .iload_n 2) (len := 1) (by decide +kernel) rfl rfl rfl rfl ?_
  obtain ⟨v159, e160, h⟩ := xbnd h
  refine xs_aald (by decide +kernel) ha2 e160 rfl ?_
  refine xe_ldn (ins := .iload_n 3) (len := 1) (by decide +kernel) rfl rfl rfl rfl ?_
  refine xe_alr (ins := .aload_n 0) (len := 1) (i := 0) (by decide +kernel) rfl rfl rfl rfl rfl ?_
  obtain ⟨v161, e162, h⟩ := xbnd h
  refine xs_gr (i := 46) (c := 10) (k := 11) (by decide +kernel) (by decide) (by decide +kernel) e162 rfl ?_
  obtain ⟨_, e164, h⟩ := xbnd h
  obtain ⟨M165, e163, h⟩ := xbnd h
  refine xs_cv (i := 228) (j := 78) (ar := [xR_ (v161), xI (a3)]) (rest := []) (r2 := xr_78) (by decide +kernel) (by decide +kernel) (by decide +kernel) xr_78_e rfl (by decide) (by decide) e164 ?_
  refine xc_v (k78 (d := d + 5)  ha3 e163) rfl ?_
  refine xe_iconst (n := 0) (by decide +kernel) rfl ?_
  refine xe_isr (ins := .istore 5) (len := 2) (i := 5) (by decide +kernel) rfl rfl rfl (by decide) (xk_k (show ¬ (4 : Nat) = 5 by decide) (Or.inr (xI_cat _)) (xk_k (show ¬ (0 : Nat) = 5 by decide) (Or.inl (show ¬ (0 + 1 : Nat) = 5 by decide)) (xk_k (show ¬ (1 : Nat) = 5 by decide) (Or.inl (show ¬ (1 + 1 : Nat) = 5 by decide)) (xk_k (show ¬ (2 : Nat) = 5 by decide) (Or.inl (show ¬ (2 + 1 : Nat) = 5 by decide)) (xk_k (show ¬ (3 : Nat) = 5 by decide) (Or.inl (show ¬ (3 + 1 : Nat) = 5 by decide)) xk_n))))) rfl ?_
  refine xW_lv rfl (l := [(0, xR_ (a0)), (1, xR_ (a1)), (2, xI (a2)), (4, xI (v155)), (5, xI (0))]) (xsb_of ⟨rfl, rfl, rfl, rfl, rfl, trivial⟩ (show [5, 4, 0, 1, 2, 3].Nodup by decide)) ?_
  exact k163_51   ha2 (xq_ai_in e156) (show xin (0) by decide) h
-- ChangeHouse.reason
def xr_182 : xj_mR := (11, yX11_reason, cX11_reason, 5, (Option.some Jvm.ClassFile.FieldType.int), 3, false, (8, 61), (1, 1))
set_option maxRecDepth 20000 in
theorem xr_182_e : xj_row 182 = some xr_182 := rfl
def f182_55   (f : Nat)  (M : xj_M) : Option ((Nat ⊕ Int) × xj_M) := (some (.inr (-1), M))
theorem k182_55 {d f : Nat}      {M : xj_M} {R : (Nat ⊕ Int) × xj_M}  (h : f182_55   f  M = some R) : xW (d + 7) (none, d + 7, none) xr_182 (55, [], [], M) (xQti R) := by
  unfold f182_55 at h
  refine xe_iconst (n := -1) (by decide +kernel) rfl ?_
  cases h
  exact xe_ret_i (ty := .int) (by decide +kernel) rfl rfl ⟨rfl, rfl, fun v hv => by cases hv; exact (show xin (-1) by decide)⟩
def f182_93   (f : Nat) (y0 : Int) (M : xj_M) : Option ((Nat ⊕ Int) × xj_M) := (some (.inr (y0), M))
theorem k182_93 {d f : Nat}     {y0 : Int} {M : xj_M} {R : (Nat ⊕ Int) × xj_M} (hy0 : xin y0) (h : f182_93   f y0 M = some R) : xW (d + 7) (none, d + 7, none) xr_182 (93, [], [xI y0], M) (xQti R) := by
  unfold f182_93 at h
  cases h
  exact xe_ret_i (ty := .int) (by decide +kernel) rfl rfl ⟨rfl, rfl, fun v hv => by cases hv; exact hy0⟩
def f182  (f : Nat) (a0 : Nat) (a1 : Int) (a2 : Int) (a3 : Int) (M : xj_M) : Option ((Nat ⊕ Int) × xj_M) := ((xq_gr 11 5 (a0) M).bind fun v101 => ((xq_gi 11 6 (a0) M).bind fun v103 => ((xq_ar (v101) (v103) M).bind fun v105 => ((xq_is 1 (v105) M).bind fun _ => ((f5  f (v105) M).bind fun R109 => ((xq_is 2 (R109.1) R109.2).bind fun _ => ((f15  f (R109.1) (a1) (a2) (0) R109.2).bind fun R113 => (if ¬ (R113.1) = 0 then (if (a3) < 0 then f182_55   f  R113.2 else (if (3) < (a3) then f182_55   f  R113.2 else ((xq_gr 2 0 (R109.1) R113.2).bind fun v118 => ((xq_gr 3 5 (v118) R113.2).bind fun v120 => ((xq_ab (v120) (a1) R113.2).bind fun v122 => (if (v122) = 0 then ((xq_gr 11 3 (a0) R113.2).bind fun v125 => ((xq_is 10 (v125) R113.2).bind fun _ => ((f163  f (v125) (R109.1) (a1) (a2) R113.2).bind fun M129 => (if ¬ (a3) = 0 then ((xq_gr 11 3 (a0) M129).bind fun v132 => ((xq_gr 10 17 (v132) M129).bind fun v134 => ((xq_ai 3 (v134) (xwr ((a3) - (1))) M129).bind fun v136 => f182_93   f (v136) M129))) else ((xq_gr 11 3 (a0) M129).bind fun v138 => ((xq_gi 10 16 (v138) M129).bind fun v140 => f182_93   f (v140) M129)))))) else f182_55   f  R113.2)))))) else (some (.inl 1, xj_new R113.2 (.inl ()) 6))))))))))
theorem k182 {d f : Nat}   {a0 : Nat} {a1 : Int} {a2 : Int} {a3 : Int} {M : xj_M} {R : (Nat ⊕ Int) × xj_M} (ha1 : xin a1) (ha2 : xin a2) (ha3 : xin a3) (h : f182  f a0 a1 a2 a3 M = some R) : xT (d + 8) 182 [xR_ a0, xI a1, xI a2, xI a3] M (xQti R) := by
  refine xT_m xr_182_e (X := (none, d + 7, none)) rfl (xa_1 (xR_cat _) (xa_1 (xI_cat _) (xa_1 (xI_cat _) (xa_1 (xI_cat _) xa_n)))) (by decide) ?_
  unfold f182 at h
  refine xe_alr (ins := .aload_n 0) (len := 1) (i := 0) (by decide +kernel) rfl rfl rfl rfl rfl ?_
  obtain ⟨v101, e102, h⟩ := xbnd h
  refine xs_gr (i := 50) (c := 11) (k := 5) (by decide +kernel) (by decide) (by decide +kernel) e102 rfl ?_
  refine xe_alr (ins := .aload_n 0) (len := 1) (i := 0) (by decide +kernel) rfl rfl rfl rfl rfl ?_
  obtain ⟨v103, e104, h⟩ := xbnd h
  refine xs_gi (i := 132) (c := 11) (k := 6) (by decide +kernel) (by decide) (by decide +kernel) e104 rfl ?_
  obtain ⟨v105, e106, h⟩ := xbnd h
  refine xs_aald (by decide +kernel) (xq_gi_in e104) e106 rfl ?_
  obtain ⟨_, e108, h⟩ := xbnd h
  obtain ⟨R109, e107, h⟩ := xbnd h
  refine xs_cv (i := 145) (j := 5) (ar := []) (rest := []) (r2 := xr_5) (by decide +kernel) (by decide +kernel) (by decide +kernel) xr_5_e rfl (by decide) (by decide) e108 ?_
  refine xc_r (k5 (d := d + 6)   e107) rfl ?_
  refine xe_asr (ins := .astore 4) (len := 2) (i := 4) (by decide +kernel) rfl rfl rfl (by decide) (xk_k (show ¬ (0 : Nat) = 4 by decide) (Or.inl (show ¬ (0 + 1 : Nat) = 4 by decide)) (xk_k (show ¬ (1 : Nat) = 4 by decide) (Or.inl (show ¬ (1 + 1 : Nat) = 4 by decide)) (xk_k (show ¬ (2 : Nat) = 4 by decide) (Or.inl (show ¬ (2 + 1 : Nat) = 4 by decide)) (xk_k (show ¬ (3 : Nat) = 4 by decide) (Or.inr (xI_cat _)) xk_n)))) rfl ?_
  refine xe_alr (ins := .aload 4) (len := 2) (i := 4) (by decide +kernel) rfl rfl rfl rfl rfl ?_
  refine xe_ldn (ins := .iload_n 1) (len := 1) (by decide +kernel) rfl rfl rfl rfl ?_
  refine xe_ldn (ins := .iload_n 2) (len := 1) (by decide +kernel) rfl rfl rfl rfl ?_
  refine xe_iconst (n := 0) (by decide +kernel) rfl ?_
  obtain ⟨_, e112, h⟩ := xbnd h
  obtain ⟨R113, e111, h⟩ := xbnd h
  refine xs_cv (i := 288) (j := 15) (ar := [xI (0), xI (a2), xI (a1)]) (rest := []) (r2 := xr_15) (by decide +kernel) (by decide +kernel) (by decide +kernel) xr_15_e rfl (by decide) (by decide) e112 ?_
  refine xc_i (k15 (d := d + 6)  ha1 ha2 (show xin (0) by decide) e111) rfl (fun hi114 => ?_)
  refine xe_ifne (off := 11) (t := 33) (by decide +kernel) (by decide) rfl hi114 (fun c115 => ?_) (fun c115 => ?_)
  · rw [if_pos c115] at h
    refine xe_ldn (ins := .iload_n 3) (len := 1) (by decide +kernel) rfl rfl rfl rfl ?_
    refine xe_iflt (off := 21) (t := 55) (by decide +kernel) (by decide) rfl ha3 (fun c116 => ?_) (fun c116 => ?_)
    · rw [if_pos c116] at h
      refine xW_lv rfl (l := []) (xsb_of trivial (show [4, 0, 1, 2, 3].Nodup by decide)) ?_
      exact k182_55    h
    · rw [if_neg c116] at h
      refine xe_ldn (ins := .iload_n 3) (len := 1) (by decide +kernel) rfl rfl rfl rfl ?_
      refine xe_iconst (n := 3) (by decide +kernel) rfl ?_
      refine xe_icmpgt (off := 16) (t := 55) (by decide +kernel) (by decide) rfl ha3 (show xin (3) by decide) (fun c117 => ?_) (fun c117 => ?_)
      · rw [if_pos c117] at h
        refine xW_lv rfl (l := []) (xsb_of trivial (show [4, 0, 1, 2, 3].Nodup by decide)) ?_
        exact k182_55    h
      · rw [if_neg c117] at h
        refine xe_alr (ins := .aload 4) (len := 2) (i := 4) (by decide +kernel) rfl rfl rfl rfl rfl ?_
        obtain ⟨v118, e119, h⟩ := xbnd h
        refine xs_gr (i := 149) (c := 2) (k := 0) (by decide +kernel) (by decide) (by decide +kernel) e119 rfl ?_
        obtain ⟨v120, e121, h⟩ := xbnd h
        refine xs_gr (i := 268) (c := 3) (k := 5) (by decide +kernel) (by decide) (by decide +kernel) e121 rfl ?_
        refine xe_ldn (ins := .iload_n 1) (len := 1) (by decide +kernel) rfl rfl rfl rfl ?_
        obtain ⟨v122, e123, h⟩ := xbnd h
        refine xs_bald (by decide +kernel) ha1 e123 rfl ?_
        refine xe_ifeq (off := 5) (t := 57) (by decide +kernel) (by decide) rfl (xq_ab_in e123) (fun c124 => ?_) (fun c124 => ?_)
        · rw [if_pos c124] at h
          refine xe_alr (ins := .aload_n 0) (len := 1) (i := 0) (by decide +kernel) rfl rfl rfl rfl rfl ?_
          obtain ⟨v125, e126, h⟩ := xbnd h
          refine xs_gr (i := 37) (c := 11) (k := 3) (by decide +kernel) (by decide) (by decide +kernel) e126 rfl ?_
          refine xe_alr (ins := .aload 4) (len := 2) (i := 4) (by decide +kernel) rfl rfl rfl rfl rfl ?_
          refine xe_ldn (ins := .iload_n 1) (len := 1) (by decide +kernel) rfl rfl rfl rfl ?_
          refine xe_ldn (ins := .iload_n 2) (len := 1) (by decide +kernel) rfl rfl rfl rfl ?_
          obtain ⟨_, e128, h⟩ := xbnd h
          obtain ⟨M129, e127, h⟩ := xbnd h
          refine xs_cv (i := 350) (j := 163) (ar := [xI (a2), xI (a1), xR_ (R109.1)]) (rest := []) (r2 := xr_163) (by decide +kernel) (by decide +kernel) (by decide +kernel) xr_163_e rfl (by decide) (by decide) e128 ?_
          refine xc_v (k163 (d := d + 0)  ha1 ha2 e127) rfl ?_
          refine xe_ldn (ins := .iload_n 3) (len := 1) (by decide +kernel) rfl rfl rfl rfl ?_
          refine xe_ifne (off := 13) (t := 82) (by decide +kernel) (by decide) rfl ha3 (fun c131 => ?_) (fun c131 => ?_)
          · rw [if_pos c131] at h
            refine xe_alr (ins := .aload_n 0) (len := 1) (i := 0) (by decide +kernel) rfl rfl rfl rfl rfl ?_
            obtain ⟨v132, e133, h⟩ := xbnd h
            refine xs_gr (i := 37) (c := 11) (k := 3) (by decide +kernel) (by decide) (by decide +kernel) e133 rfl ?_
            obtain ⟨v134, e135, h⟩ := xbnd h
            refine xs_gr (i := 357) (c := 10) (k := 17) (by decide +kernel) (by decide) (by decide +kernel) e135 rfl ?_
            refine xe_ldn (ins := .iload_n 3) (len := 1) (by decide +kernel) rfl rfl rfl rfl ?_
            refine xe_iconst (n := 1) (by decide +kernel) rfl ?_
            refine xe_isub (by decide +kernel) rfl ?_
            obtain ⟨v136, e137, h⟩ := xbnd h
            refine xs_iald rfl (by decide +kernel) (xin_wr _) e137 rfl ?_
            refine xW_lv rfl (l := []) (xsb_of trivial (show [4, 0, 1, 2, 3].Nodup by decide)) ?_
            exact k182_93   (xq_ai_in e137) h
          · rw [if_neg c131] at h
            refine xe_alr (ins := .aload_n 0) (len := 1) (i := 0) (by decide +kernel) rfl rfl rfl rfl rfl ?_
            obtain ⟨v138, e139, h⟩ := xbnd h
            refine xs_gr (i := 37) (c := 11) (k := 3) (by decide +kernel) (by decide) (by decide +kernel) e139 rfl ?_
            obtain ⟨v140, e141, h⟩ := xbnd h
            refine xs_gi (i := 354) (c := 10) (k := 16) (by decide +kernel) (by decide) (by decide +kernel) e141 rfl ?_
            refine xe_goto (off := 14) (nx := 93) (by decide +kernel) (by decide) ?_
            refine xW_lv rfl (l := []) (xsb_of trivial (show [4, 0, 1, 2, 3].Nodup by decide)) ?_
            exact k182_93   (xq_gi_in e141) h
        · rw [if_neg c124] at h
          refine xW_lv rfl (l := []) (xsb_of trivial (show [4, 0, 1, 2, 3].Nodup by decide)) ?_
          exact k182_55    h
  · rw [if_neg c115] at h
    cases h
    exact xe_throw (i := 261) rfl (show 5 ≤ d + 7 by omega) (by decide +kernel) (by decide +kernel) (by decide +kernel) ⟨rfl, rfl, fun v hv => by cases hv⟩
-- ChangeHouseLaw.reason
def xr_1009 : xj_mR := (16, yL_reason, cL_reason, 6, (Option.some Jvm.ClassFile.FieldType.int), 5, false, (8, 57), (1, 0))
set_option maxRecDepth 20000 in
theorem xr_1009_e : xj_row 1009 = some xr_1009 := rfl
def f1009  (f : Nat) (a0 : Nat) (a1 : Int) (a2 : Int) (a3 : Int) (a4 : Nat) (M : xj_M) : Option (Int × xj_M) := ((xq_is 11 (a0) M).bind fun _ => ((f182 f (a0) (a1) (a2) (a3) M).bind fun R103 => xhd R103 1 ((some (1, R103.2))) (fun v104 => ((xq_sl (a4) (0) (v104) R103.2).bind fun M107 => (some (0, M107))))))
theorem k1009 {d f : Nat}   {a0 : Nat} {a1 : Int} {a2 : Int} {a3 : Int} {a4 : Nat} {M : xj_M} {R : Int × xj_M} (ha1 : xin a1) (ha2 : xin a2) (ha3 : xin a3) (h : f1009  f a0 a1 a2 a3 a4 M = some R) : xT (d + 9) 1009 [xR_ a0, xI a1, xI a2, xI a3, xR_ a4] M (xQi R) := by
  refine xT_m xr_1009_e (X := (some (0, 12, 15, 13, 1), d + 8, none)) rfl (xa_1 (xR_cat _) (xa_1 (xI_cat _) (xa_1 (xI_cat _) (xa_1 (xI_cat _) (xa_1 (xR_cat _) xa_n))))) (by decide) ?_
  unfold f1009 at h
  refine xe_alr (ins := .aload 4) (len := 2) (i := 4) (by decide +kernel) rfl rfl rfl rfl rfl ?_
  refine xe_iconst (n := 0) (by decide +kernel) rfl ?_
  refine xe_alr (ins := .aload_n 0) (len := 1) (i := 0) (by decide +kernel) rfl rfl rfl rfl rfl ?_
  refine xe_ldn (ins := .iload_n 1) (len := 1) (by decide +kernel) rfl rfl rfl rfl ?_
  refine xe_ldn (ins := .iload_n 2) (len := 1) (by decide +kernel) rfl rfl rfl rfl ?_
  refine xe_ldn (ins := .iload_n 3) (len := 1) (by decide +kernel) rfl rfl rfl rfl ?_
  obtain ⟨_, e102, h⟩ := xbnd h
  obtain ⟨R103, e101, h⟩ := xbnd h
  refine xs2_cv (kd := 0) (jj := 182) (by decide) (i := 29) (j := 182) (ar := [xI (a3), xI (a2), xI (a1)]) (rest := [xI (0), xR_ (a4)]) (r2 := xr_182) (by decide +kernel) (by decide +kernel) (by decide +kernel) xr_182_e rfl (by decide) (by simp only [List.map_cons, List.map_nil, List.sum_cons, List.sum_nil, xR_cat, xI_cat, xZ_cat]; decide) e102 ?_
  refine xct_i (k182 (d := d + 0) ha1 ha2 ha3 e101) rfl (fun e1 g105 => ?_) (fun v104 g105 hi106 => ?_)
  · obtain ⟨e2, h⟩ := xhd_l g105 h
    refine xK_han2 (t := (0, 12, 15, 13, 1)) (i := 5) rfl ⟨by decide, by decide, e2⟩ (by decide +kernel) (by decide) (xk_k (show ¬ (0 : Nat) = 5 by decide) (Or.inl (show ¬ (0 + 1 : Nat) = 5 by decide)) (xk_k (show ¬ (1 : Nat) = 5 by decide) (Or.inl (show ¬ (1 + 1 : Nat) = 5 by decide)) (xk_k (show ¬ (2 : Nat) = 5 by decide) (Or.inl (show ¬ (2 + 1 : Nat) = 5 by decide)) (xk_k (show ¬ (3 : Nat) = 5 by decide) (Or.inl (show ¬ (3 + 1 : Nat) = 5 by decide)) (xk_k (show ¬ (4 : Nat) = 5 by decide) (Or.inr (xR_cat _)) xk_n))))) ?_
    refine xe_iconst (n := 1) (by decide +kernel) rfl ?_
    cases h
    exact xe_ret_i (ty := .int) (by decide +kernel) rfl rfl ⟨rfl, rfl, (show xin (1) by decide)⟩
  · rw [xhd_r g105] at h
    refine xe_i2l (by decide +kernel) rfl hi106 ?_
    obtain ⟨M107, e108, h⟩ := xbnd h
    refine xs_last (by decide +kernel) (show xin (0) by decide) e108 rfl ?_
    refine xe_goto (off := 7) (nx := 19) (by decide +kernel) (by decide) ?_
    refine xe_iconst (n := 0) (by decide +kernel) rfl ?_
    cases h
    exact xe_ret_i (ty := .int) (by decide +kernel) rfl rfl ⟨rfl, rfl, (show xin (0) by decide)⟩
-- ChangeHouse$Reader.readQuery
def xr_31 : xj_mR := (4, yX4_readQuery, cX4_readQuery, 3, (Option.none : Option Jvm.ClassFile.FieldType), 1, false, (7, 152), (1, 3))
set_option maxRecDepth 20000 in
theorem xr_31_e : xj_row 31 = some xr_31 := rfl
def f31_90   (f : Nat) (x0 : Nat) (M : xj_M) : Option ((Nat ⊕ Unit) × xj_M) := ((xq_gr 4 5 (x0) M).bind fun v101 => ((xq_gr 4 7 (x0) M).bind fun v103 => ((xq_gr 4 8 (x0) M).bind fun v105 => ((xq_gi 4 9 (x0) M).bind fun v107 => ((xq_is 6 (v101) M).bind fun _ => ((f88  f (v101) (v103) (v105) (v107) M).bind fun M111 => (some (.inr (), M111))))))))
theorem k31_90 {d f : Nat}     {x0 : Nat} {M : xj_M} {R : (Nat ⊕ Unit) × xj_M}  (h : f31_90   f x0 M = some R) : xW (d + 10) (none, d + 10, none) xr_31 (90, [(0, xR_ x0)], [], M) (xQtv R) := by
  unfold f31_90 at h
  refine xe_alr (ins := .aload_n 0) (len := 1) (i := 0) (by decide +kernel) rfl rfl rfl rfl rfl ?_
  obtain ⟨v101, e102, h⟩ := xbnd h
  refine xs_gr (i := 86) (c := 4) (k := 5) (by decide +kernel) (by decide) (by decide +kernel) e102 rfl ?_
  refine xe_alr (ins := .aload_n 0) (len := 1) (i := 0) (by decide +kernel) rfl rfl rfl rfl rfl ?_
  obtain ⟨v103, e104, h⟩ := xbnd h
  refine xs_gr (i := 9) (c := 4) (k := 7) (by decide +kernel) (by decide) (by decide +kernel) e104 rfl ?_
  refine xe_alr (ins := .aload_n 0) (len := 1) (i := 0) (by decide +kernel) rfl rfl rfl rfl rfl ?_
  obtain ⟨v105, e106, h⟩ := xbnd h
  refine xs_gr (i := 15) (c := 4) (k := 8) (by decide +kernel) (by decide) (by decide +kernel) e106 rfl ?_
  refine xe_alr (ins := .aload_n 0) (len := 1) (i := 0) (by decide +kernel) rfl rfl rfl rfl rfl ?_
  obtain ⟨v107, e108, h⟩ := xbnd h
  refine xs_gi (i := 90) (c := 4) (k := 9) (by decide +kernel) (by decide) (by decide +kernel) e108 rfl ?_
  obtain ⟨_, e110, h⟩ := xbnd h
  obtain ⟨M111, e109, h⟩ := xbnd h
  refine xs_cv (i := 93) (j := 88) (ar := [xI (v107), xR_ (v105), xR_ (v103)]) (rest := []) (r2 := xr_88) (by decide +kernel) (by decide +kernel) (by decide +kernel) xr_88_e rfl (by decide) (by decide) e110 ?_
  refine xc_v (k88 (d := d + 5)  (xq_gi_in e108) e109) rfl ?_
  cases h
  exact xe_ret_v (by decide +kernel) rfl ⟨rfl, rfl⟩
def f31_53   (f : Nat) (x0 : Nat) (M : xj_M) : Option ((Nat ⊕ Unit) × xj_M) := ((xq_is 4 (x0) M).bind fun _ => ((f38 f (x0) (46) M).bind fun R115 => xth R115 (fun _ => ((xq_gr 4 0 (x0) R115.2).bind fun v119 => ((xq_gr 8 3 (v119) R115.2).bind fun v121 => ((xq_gi 4 1 (x0) R115.2).bind fun v123 => ((xq_ai 3 (v121) (v123) R115.2).bind fun v125 => (if (v125) = 0 then f31_90   f (x0) R115.2 else ((xq_gr 4 0 (x0) R115.2).bind fun v128 => ((xq_gr 8 4 (v128) R115.2).bind fun v130 => ((xq_gi 4 1 (x0) R115.2).bind fun v132 => ((xq_ai 3 (v130) (v132) R115.2).bind fun v134 => ((xq_is 4 (x0) R115.2).bind fun _ => ((f36 f (x0) (v134) R115.2).bind fun R138 => xth R138 (fun _ => f31_90   f (x0) R138.2)))))))))))))))
theorem k31_53 {d f : Nat}     {x0 : Nat} {M : xj_M} {R : (Nat ⊕ Unit) × xj_M}  (h : f31_53   f x0 M = some R) : xW (d + 10) (none, d + 10, none) xr_31 (53, [(0, xR_ x0)], [], M) (xQtv R) := by
  unfold f31_53 at h
  refine xe_alr (ins := .aload_n 0) (len := 1) (i := 0) (by decide +kernel) rfl rfl rfl rfl rfl ?_
  refine xe_bipush (n := 46) (by decide +kernel) (by decide) rfl ?_
  obtain ⟨_, e114, h⟩ := xbnd h
  obtain ⟨R115, e113, h⟩ := xbnd h
  refine xs2_cv (kd := 0) (jj := 38) (by decide) (i := 76) (j := 38) (ar := [xI (46)]) (rest := []) (r2 := xr_38) (by decide +kernel) (by decide +kernel) (by decide +kernel) xr_38_e rfl (by decide) (by decide) e114 ?_
  refine xct_v (k38 (d := d + 3) (show xin (46) by decide) e113) rfl (fun e1 g117 => ?_) (fun g117 => ?_)
  · rw [xth_l g117] at h; cases h; exact xK_thr rfl ⟨rfl, rfl⟩
  · rw [xth_r g117] at h
    refine xe_alr (ins := .aload_n 0) (len := 1) (i := 0) (by decide +kernel) rfl rfl rfl rfl rfl ?_
    obtain ⟨v119, e120, h⟩ := xbnd h
    refine xs_gr (i := 43) (c := 4) (k := 0) (by decide +kernel) (by decide) (by decide +kernel) e120 rfl ?_
    obtain ⟨v121, e122, h⟩ := xbnd h
    refine xs_gr (i := 51) (c := 8) (k := 3) (by decide +kernel) (by decide) (by decide +kernel) e122 rfl ?_
    refine xe_alr (ins := .aload_n 0) (len := 1) (i := 0) (by decide +kernel) rfl rfl rfl rfl rfl ?_
    obtain ⟨v123, e124, h⟩ := xbnd h
    refine xs_gi (i := 54) (c := 4) (k := 1) (by decide +kernel) (by decide) (by decide +kernel) e124 rfl ?_
    obtain ⟨v125, e126, h⟩ := xbnd h
    refine xs_iald rfl (by decide +kernel) (xq_gi_in e124) e126 rfl ?_
    refine xe_ifeq (off := 19) (t := 90) (by decide +kernel) (by decide) rfl (xq_ai_in e126) (fun c127 => ?_) (fun c127 => ?_)
    · rw [if_pos c127] at h
      refine xW_lv rfl (l := [(0, xR_ (x0))]) (xsb_of ⟨rfl, trivial⟩ (show [0].Nodup by decide)) ?_
      exact k31_90    h
    · rw [if_neg c127] at h
      refine xe_alr (ins := .aload_n 0) (len := 1) (i := 0) (by decide +kernel) rfl rfl rfl rfl rfl ?_
      refine xe_alr (ins := .aload_n 0) (len := 1) (i := 0) (by decide +kernel) rfl rfl rfl rfl rfl ?_
      obtain ⟨v128, e129, h⟩ := xbnd h
      refine xs_gr (i := 43) (c := 4) (k := 0) (by decide +kernel) (by decide) (by decide +kernel) e129 rfl ?_
      obtain ⟨v130, e131, h⟩ := xbnd h
      refine xs_gr (i := 80) (c := 8) (k := 4) (by decide +kernel) (by decide) (by decide +kernel) e131 rfl ?_
      refine xe_alr (ins := .aload_n 0) (len := 1) (i := 0) (by decide +kernel) rfl rfl rfl rfl rfl ?_
      obtain ⟨v132, e133, h⟩ := xbnd h
      refine xs_gi (i := 54) (c := 4) (k := 1) (by decide +kernel) (by decide) (by decide +kernel) e133 rfl ?_
      obtain ⟨v134, e135, h⟩ := xbnd h
      refine xs_iald rfl (by decide +kernel) (xq_gi_in e133) e135 rfl ?_
      obtain ⟨_, e137, h⟩ := xbnd h
      obtain ⟨R138, e136, h⟩ := xbnd h
      refine xs2_cv (kd := 0) (jj := 36) (by decide) (i := 83) (j := 36) (ar := [xI (v134)]) (rest := []) (r2 := xr_36) (by decide +kernel) (by decide +kernel) (by decide +kernel) xr_36_e rfl (by decide) (by decide) e137 ?_
      refine xct_v (k36 (d := d + 4) (xq_ai_in e135) e136) rfl (fun e1 g140 => ?_) (fun g140 => ?_)
      · rw [xth_l g140] at h; cases h; exact xK_thr rfl ⟨rfl, rfl⟩
      · rw [xth_r g140] at h
        refine xW_lv rfl (l := [(0, xR_ (x0))]) (xsb_of ⟨rfl, trivial⟩ (show [0].Nodup by decide)) ?_
        exact k31_90    h
def f31_16b  (r16 : Nat → Int → xj_M → Option ((Nat ⊕ Unit) × xj_M)) (f : Nat) (x0 : Nat) (x2 : Int) (M : xj_M) : Option ((Nat ⊕ Unit) × xj_M) := (if (8) < (x2) then f31_53   f (x0) M else ((xq_gr 4 0 (x0) M).bind fun v143 => ((xq_gr 8 3 (v143) M).bind fun v145 => ((xq_gi 4 1 (x0) M).bind fun v147 => ((xq_ai 3 (v145) (v147) M).bind fun v149 => (if ¬ (v149) = (44) then f31_53   f (x0) M else ((xq_is 4 (x0) M).bind fun _ => ((f37  f (x0) M).bind fun M154 => ((xq_is 4 (x0) M154).bind fun _ => ((f45 f (x0) M154).bind fun R158 => xth R158 (fun _ => r16 (x0) (xwr ((x2) + (1))) R158.2)))))))))))
theorem k31_16b {d f : Nat}  {r16 : Nat → Int → xj_M → Option ((Nat ⊕ Unit) × xj_M)}  (hr16 : ∀ {x0 : Nat} {x2 : Int} {M : xj_M} {R : (Nat ⊕ Unit) × xj_M}, xin x2 → r16 x0 x2 M = some R → xW (d + 10) (none, d + 10, none) xr_31 (16, [(0, xR_ x0), (2, xI x2)], [], M) (xQtv R)) {x0 : Nat} {x2 : Int} {M : xj_M} {R : (Nat ⊕ Unit) × xj_M} (hx2 : xin x2) (h : f31_16b  r16 f x0 x2 M = some R) : xW (d + 10) (none, d + 10, none) xr_31 (16, [(0, xR_ x0), (2, xI x2)], [], M) (xQtv R) := by
  unfold f31_16b at h
  refine xe_ldn (ins := .iload_n 2) (len := 1) (by decide +kernel) rfl rfl rfl rfl ?_
  refine xe_bipush (n := 8) (by decide +kernel) (by decide) rfl ?_
  refine xe_icmpgt (off := 34) (t := 53) (by decide +kernel) (by decide) rfl hx2 (show xin (8) by decide) (fun c142 => ?_) (fun c142 => ?_)
  · rw [if_pos c142] at h
    refine xW_lv rfl (l := [(0, xR_ (x0))]) (xsb_of ⟨rfl, trivial⟩ (show [0, 2].Nodup by decide)) ?_
    exact k31_53    h
  · rw [if_neg c142] at h
    refine xe_alr (ins := .aload_n 0) (len := 1) (i := 0) (by decide +kernel) rfl rfl rfl rfl rfl ?_
    obtain ⟨v143, e144, h⟩ := xbnd h
    refine xs_gr (i := 43) (c := 4) (k := 0) (by decide +kernel) (by decide) (by decide +kernel) e144 rfl ?_
    obtain ⟨v145, e146, h⟩ := xbnd h
    refine xs_gr (i := 51) (c := 8) (k := 3) (by decide +kernel) (by decide) (by decide +kernel) e146 rfl ?_
    refine xe_alr (ins := .aload_n 0) (len := 1) (i := 0) (by decide +kernel) rfl rfl rfl rfl rfl ?_
    obtain ⟨v147, e148, h⟩ := xbnd h
    refine xs_gi (i := 54) (c := 4) (k := 1) (by decide +kernel) (by decide) (by decide +kernel) e148 rfl ?_
    obtain ⟨v149, e150, h⟩ := xbnd h
    refine xs_iald rfl (by decide +kernel) (xq_gi_in e148) e150 rfl ?_
    refine xe_bipush (n := 44) (by decide +kernel) (by decide) rfl ?_
    refine xe_icmpne (off := 17) (t := 53) (by decide +kernel) (by decide) rfl (xq_ai_in e150) (show xin (44) by decide) (fun c151 => ?_) (fun c151 => ?_)
    · rw [if_pos c151] at h
      refine xW_lv rfl (l := [(0, xR_ (x0))]) (xsb_of ⟨rfl, trivial⟩ (show [0, 2].Nodup by decide)) ?_
      exact k31_53    h
    · rw [if_neg c151] at h
      refine xe_alr (ins := .aload_n 0) (len := 1) (i := 0) (by decide +kernel) rfl rfl rfl rfl rfl ?_
      obtain ⟨_, e153, h⟩ := xbnd h
      obtain ⟨M154, e152, h⟩ := xbnd h
      refine xs_cv (i := 73) (j := 37) (ar := []) (rest := []) (r2 := xr_37) (by decide +kernel) (by decide +kernel) (by decide +kernel) xr_37_e rfl (by decide) (by decide) e153 ?_
      refine xc_v (k37 (d := d + 9)   e152) rfl ?_
      refine xe_alr (ins := .aload_n 0) (len := 1) (i := 0) (by decide +kernel) rfl rfl rfl rfl rfl ?_
      obtain ⟨_, e157, h⟩ := xbnd h
      obtain ⟨R158, e156, h⟩ := xbnd h
      refine xs2_cv (kd := 0) (jj := 45) (by decide) (i := 70) (j := 45) (ar := []) (rest := []) (r2 := xr_45) (by decide +kernel) (by decide +kernel) (by decide +kernel) xr_45_e rfl (by decide) (by decide) e157 ?_
      refine xct_v (k45 (d := d + 0)  e156) rfl (fun e1 g160 => ?_) (fun g160 => ?_)
      · rw [xth_l g160] at h; cases h; exact xK_thr rfl ⟨rfl, rfl⟩
      · rw [xth_r g160] at h
        refine xe_iincr (i := 2) (n := 1) (by decide +kernel) (by decide) rfl (xk_k (show ¬ (0 : Nat) = 2 by decide) (Or.inl (show ¬ (0 + 1 : Nat) = 2 by decide)) (xk_d rfl xk_n)) rfl ?_
        refine xe_goto (off := -34) (nx := 16) (by decide +kernel) (by decide) ?_
        refine xW_lv rfl (l := [(0, xR_ (x0)), (2, xI (xwr ((x2) + (1))))]) (xsb_of ⟨rfl, rfl, trivial⟩ (show [2, 0].Nodup by decide)) ?_
        exact hr16 (xin_wr _) h
def f31_16   (f : Nat) : Nat → Nat → Int → xj_M → Option ((Nat ⊕ Unit) × xj_M)
  | 0, _, _, _ => none
  | n + 1, x0, x2, M => f31_16b   (f31_16   f n) f x0 x2 M
theorem k31_16 {d f : Nat}     : ∀ {n : Nat} {x0 : Nat} {x2 : Int} {M : xj_M} {R : (Nat ⊕ Unit) × xj_M}, xin x2 → f31_16   f n x0 x2 M = some R → xW (d + 10) (none, d + 10, none) xr_31 (16, [(0, xR_ x0), (2, xI x2)], [], M) (xQtv R) := by
  intro n
  induction n with
  | zero => intros; rename_i h; cases h
  | succ n ih => intros; rename_i h; exact k31_16b   ih (by assumption) h
def f31  (f : Nat) (a0 : Nat) (a1 : Nat) (M : xj_M) : Option ((Nat ⊕ Unit) × xj_M) := ((xq_is 4 (a0) M).bind fun _ => ((f34  f (a0) (a1) (0) M).bind fun M164 => ((xq_is 4 (a0) M164).bind fun _ => ((f35  f (a0) M164).bind fun M168 => ((xq_is 4 (a0) M168).bind fun _ => ((f45 f (a0) M168).bind fun R172 => xth R172 (fun _ => f31_16   f f (a0) (0) R172.2)))))))
theorem k31 {d f : Nat}   {a0 : Nat} {a1 : Nat} {M : xj_M} {R : (Nat ⊕ Unit) × xj_M}  (h : f31  f a0 a1 M = some R) : xT (d + 11) 31 [xR_ a0, xR_ a1] M (xQtv R) := by
  refine xT_m xr_31_e (X := (none, d + 10, none)) rfl (xa_1 (xR_cat _) (xa_1 (xR_cat _) xa_n)) (by decide) ?_
  unfold f31 at h
  refine xe_alr (ins := .aload_n 0) (len := 1) (i := 0) (by decide +kernel) rfl rfl rfl rfl rfl ?_
  refine xe_alr (ins := .aload_n 1) (len := 1) (i := 1) (by decide +kernel) rfl rfl rfl rfl rfl ?_
  refine xe_iconst (n := 0) (by decide +kernel) rfl ?_
  obtain ⟨_, e163, h⟩ := xbnd h
  obtain ⟨M164, e162, h⟩ := xbnd h
  refine xs_cv (i := 47) (j := 34) (ar := [xI (0), xR_ (a1)]) (rest := []) (r2 := xr_34) (by decide +kernel) (by decide +kernel) (by decide +kernel) xr_34_e rfl (by decide) (by decide) e163 ?_
  refine xc_v (k34 (d := d + 9)  (show xin (0) by decide) e162) rfl ?_
  refine xe_alr (ins := .aload_n 0) (len := 1) (i := 0) (by decide +kernel) rfl rfl rfl rfl rfl ?_
  obtain ⟨_, e167, h⟩ := xbnd h
  obtain ⟨M168, e166, h⟩ := xbnd h
  refine xs_cv (i := 67) (j := 35) (ar := []) (rest := []) (r2 := xr_35) (by decide +kernel) (by decide +kernel) (by decide +kernel) xr_35_e rfl (by decide) (by decide) e167 ?_
  refine xc_v (k35 (d := d + 8)   e166) rfl ?_
  refine xe_alr (ins := .aload_n 0) (len := 1) (i := 0) (by decide +kernel) rfl rfl rfl rfl rfl ?_
  obtain ⟨_, e171, h⟩ := xbnd h
  obtain ⟨R172, e170, h⟩ := xbnd h
  refine xs2_cv (kd := 0) (jj := 45) (by decide) (i := 70) (j := 45) (ar := []) (rest := []) (r2 := xr_45) (by decide +kernel) (by decide +kernel) (by decide +kernel) xr_45_e rfl (by decide) (by decide) e171 ?_
  refine xct_v (k45 (d := d + 0)  e170) rfl (fun e1 g174 => ?_) (fun g174 => ?_)
  · rw [xth_l g174] at h; cases h; exact xK_thr rfl ⟨rfl, rfl⟩
  · rw [xth_r g174] at h
    refine xe_iconst (n := 0) (by decide +kernel) rfl ?_
    refine xe_isr (ins := .istore_n 2) (len := 1) (i := 2) (by decide +kernel) rfl rfl rfl (by decide) (xk_k (show ¬ (0 : Nat) = 2 by decide) (Or.inl (show ¬ (0 + 1 : Nat) = 2 by decide)) (xk_k (show ¬ (1 : Nat) = 2 by decide) (Or.inr (xR_cat _)) xk_n)) rfl ?_
    refine xW_lv rfl (l := [(0, xR_ (a0)), (2, xI (0))]) (xsb_of ⟨rfl, rfl, trivial⟩ (show [2, 0, 1].Nodup by decide)) ?_
    exact k31_16   (show xin (0) by decide) h
-- ChangeHouse$Reader.readRule
def xr_43 : xj_mR := (4, yX4_readRule, cX4_readRule, 4, (Option.none : Option Jvm.ClassFile.FieldType), 0, false, (4, 182), (1, 3))
set_option maxRecDepth 20000 in
theorem xr_43_e : xj_row 43 = some xr_43 := rfl
def f43_208   (f : Nat) (x0 : Nat) (M : xj_M) : Option ((Nat ⊕ Unit) × xj_M) := ((xq_is 4 (x0) M).bind fun _ => ((f38 f (x0) (46) M).bind fun R103 => xth R103 (fun _ => ((xq_gr 4 5 (x0) R103.2).bind fun v107 => ((xq_gr 4 7 (x0) R103.2).bind fun v109 => ((xq_gr 4 8 (x0) R103.2).bind fun v111 => ((xq_gi 4 9 (x0) R103.2).bind fun v113 => ((xq_is 6 (v107) R103.2).bind fun _ => ((f88  f (v107) (v109) (v111) (v113) R103.2).bind fun M117 => ((xq_gr 4 3 (x0) M117).bind fun v119 => ((xq_gr 3 9 (v119) M117).bind fun v121 => ((xq_gr 4 3 (x0) M117).bind fun v123 => ((xq_gi 3 8 (v123) M117).bind fun v125 => ((xq_gr 4 5 (x0) M117).bind fun v127 => ((xq_sr (v121) (v125) (v127) M117).bind fun M129 => ((xq_gr 4 3 (x0) M129).bind fun v131 => ((xq_gi 3 8 (v131) M129).bind fun v133 => ((xq_pi 3 8 (v131) (xwr ((v133) + (1))) M129).bind fun M135 => (some (.inr (), M135))))))))))))))))))))
theorem k43_208 {d f : Nat}     {x0 : Nat} {M : xj_M} {R : (Nat ⊕ Unit) × xj_M}  (h : f43_208   f x0 M = some R) : xW (d + 10) (none, d + 10, none) xr_43 (208, [(0, xR_ x0)], [], M) (xQtv R) := by
  unfold f43_208 at h
  refine xe_alr (ins := .aload_n 0) (len := 1) (i := 0) (by decide +kernel) rfl rfl rfl rfl rfl ?_
  refine xe_bipush (n := 46) (by decide +kernel) (by decide) rfl ?_
  obtain ⟨_, e102, h⟩ := xbnd h
  obtain ⟨R103, e101, h⟩ := xbnd h
  refine xs2_cv (kd := 0) (jj := 38) (by decide) (i := 76) (j := 38) (ar := [xI (46)]) (rest := []) (r2 := xr_38) (by decide +kernel) (by decide +kernel) (by decide +kernel) xr_38_e rfl (by decide) (by decide) e102 ?_
  refine xct_v (k38 (d := d + 3) (show xin (46) by decide) e101) rfl (fun e1 g105 => ?_) (fun g105 => ?_)
  · rw [xth_l g105] at h; cases h; exact xK_thr rfl ⟨rfl, rfl⟩
  · rw [xth_r g105] at h
    refine xe_alr (ins := .aload_n 0) (len := 1) (i := 0) (by decide +kernel) rfl rfl rfl rfl rfl ?_
    obtain ⟨v107, e108, h⟩ := xbnd h
    refine xs_gr (i := 86) (c := 4) (k := 5) (by decide +kernel) (by decide) (by decide +kernel) e108 rfl ?_
    refine xe_alr (ins := .aload_n 0) (len := 1) (i := 0) (by decide +kernel) rfl rfl rfl rfl rfl ?_
    obtain ⟨v109, e110, h⟩ := xbnd h
    refine xs_gr (i := 9) (c := 4) (k := 7) (by decide +kernel) (by decide) (by decide +kernel) e110 rfl ?_
    refine xe_alr (ins := .aload_n 0) (len := 1) (i := 0) (by decide +kernel) rfl rfl rfl rfl rfl ?_
    obtain ⟨v111, e112, h⟩ := xbnd h
    refine xs_gr (i := 15) (c := 4) (k := 8) (by decide +kernel) (by decide) (by decide +kernel) e112 rfl ?_
    refine xe_alr (ins := .aload_n 0) (len := 1) (i := 0) (by decide +kernel) rfl rfl rfl rfl rfl ?_
    obtain ⟨v113, e114, h⟩ := xbnd h
    refine xs_gi (i := 90) (c := 4) (k := 9) (by decide +kernel) (by decide) (by decide +kernel) e114 rfl ?_
    obtain ⟨_, e116, h⟩ := xbnd h
    obtain ⟨M117, e115, h⟩ := xbnd h
    refine xs_cv (i := 93) (j := 88) (ar := [xI (v113), xR_ (v111), xR_ (v109)]) (rest := []) (r2 := xr_88) (by decide +kernel) (by decide +kernel) (by decide +kernel) xr_88_e rfl (by decide) (by decide) e116 ?_
    refine xc_v (k88 (d := d + 5)  (xq_gi_in e114) e115) rfl ?_
    refine xe_alr (ins := .aload_n 0) (len := 1) (i := 0) (by decide +kernel) rfl rfl rfl rfl rfl ?_
    obtain ⟨v119, e120, h⟩ := xbnd h
    refine xs_gr (i := 147) (c := 4) (k := 3) (by decide +kernel) (by decide) (by decide +kernel) e120 rfl ?_
    obtain ⟨v121, e122, h⟩ := xbnd h
    refine xs_gr (i := 203) (c := 3) (k := 9) (by decide +kernel) (by decide) (by decide +kernel) e122 rfl ?_
    refine xe_alr (ins := .aload_n 0) (len := 1) (i := 0) (by decide +kernel) rfl rfl rfl rfl rfl ?_
    obtain ⟨v123, e124, h⟩ := xbnd h
    refine xs_gr (i := 147) (c := 4) (k := 3) (by decide +kernel) (by decide) (by decide +kernel) e124 rfl ?_
    obtain ⟨v125, e126, h⟩ := xbnd h
    refine xs_gi (i := 185) (c := 3) (k := 8) (by decide +kernel) (by decide) (by decide +kernel) e126 rfl ?_
    refine xe_alr (ins := .aload_n 0) (len := 1) (i := 0) (by decide +kernel) rfl rfl rfl rfl rfl ?_
    obtain ⟨v127, e128, h⟩ := xbnd h
    refine xs_gr (i := 86) (c := 4) (k := 5) (by decide +kernel) (by decide) (by decide +kernel) e128 rfl ?_
    obtain ⟨M129, e130, h⟩ := xbnd h
    refine xs_aast (by decide +kernel) (xq_gi_in e126) e130 rfl ?_
    refine xe_alr (ins := .aload_n 0) (len := 1) (i := 0) (by decide +kernel) rfl rfl rfl rfl rfl ?_
    obtain ⟨v131, e132, h⟩ := xbnd h
    refine xs_gr (i := 147) (c := 4) (k := 3) (by decide +kernel) (by decide) (by decide +kernel) e132 rfl ?_
    refine xe_dupr (by decide +kernel) rfl ?_
    obtain ⟨v133, e134, h⟩ := xbnd h
    refine xs_gi (i := 185) (c := 3) (k := 8) (by decide +kernel) (by decide) (by decide +kernel) e134 rfl ?_
    refine xe_iconst (n := 1) (by decide +kernel) rfl ?_
    refine xe_iadd (by decide +kernel) rfl ?_
    obtain ⟨M135, e136, h⟩ := xbnd h
    refine xs_p (i := 185) (c := 3) (k := 8) (by decide +kernel) (by decide +kernel) (by decide +kernel) e136 rfl ?_
    cases h
    exact xe_ret_v (by decide +kernel) rfl ⟨rfl, rfl⟩
def f43_169b  (r169 : Nat → Int → Int → xj_M → Option ((Nat ⊕ Unit) × xj_M)) (f : Nat) (x0 : Nat) (x2 : Int) (x3 : Int) (M : xj_M) : Option ((Nat ⊕ Unit) × xj_M) := (if (8) < (x3) then f43_208   f (x0) M else ((xq_gr 4 0 (x0) M).bind fun v138 => ((xq_gr 8 3 (v138) M).bind fun v140 => ((xq_gi 4 1 (x0) M).bind fun v142 => ((xq_ai 3 (v140) (v142) M).bind fun v144 => (if ¬ (v144) = (x2) then f43_208   f (x0) M else ((xq_is 4 (x0) M).bind fun _ => ((f37  f (x0) M).bind fun M149 => ((xq_is 4 (x0) M149).bind fun _ => ((f45 f (x0) M149).bind fun R153 => xth R153 (fun _ => r169 (x0) (44) (xwr ((x3) + (1))) R153.2)))))))))))
theorem k43_169b {d f : Nat}  {r169 : Nat → Int → Int → xj_M → Option ((Nat ⊕ Unit) × xj_M)}  (hr169 : ∀ {x0 : Nat} {x2 : Int} {x3 : Int} {M : xj_M} {R : (Nat ⊕ Unit) × xj_M}, xin x2 → xin x3 → r169 x0 x2 x3 M = some R → xW (d + 10) (none, d + 10, none) xr_43 (169, [(0, xR_ x0), (2, xI x2), (3, xI x3)], [], M) (xQtv R)) {x0 : Nat} {x2 : Int} {x3 : Int} {M : xj_M} {R : (Nat ⊕ Unit) × xj_M} (hx2 : xin x2) (hx3 : xin x3) (h : f43_169b  r169 f x0 x2 x3 M = some R) : xW (d + 10) (none, d + 10, none) xr_43 (169, [(0, xR_ x0), (2, xI x2), (3, xI x3)], [], M) (xQtv R) := by
  unfold f43_169b at h
  refine xe_ldn (ins := .iload_n 3) (len := 1) (by decide +kernel) rfl rfl rfl rfl ?_
  refine xe_bipush (n := 8) (by decide +kernel) (by decide) rfl ?_
  refine xe_icmpgt (off := 36) (t := 208) (by decide +kernel) (by decide) rfl hx3 (show xin (8) by decide) (fun c137 => ?_) (fun c137 => ?_)
  · rw [if_pos c137] at h
    refine xW_lv rfl (l := [(0, xR_ (x0))]) (xsb_of ⟨rfl, trivial⟩ (show [0, 2, 3].Nodup by decide)) ?_
    exact k43_208    h
  · rw [if_neg c137] at h
    refine xe_alr (ins := .aload_n 0) (len := 1) (i := 0) (by decide +kernel) rfl rfl rfl rfl rfl ?_
    obtain ⟨v138, e139, h⟩ := xbnd h
    refine xs_gr (i := 43) (c := 4) (k := 0) (by decide +kernel) (by decide) (by decide +kernel) e139 rfl ?_
    obtain ⟨v140, e141, h⟩ := xbnd h
    refine xs_gr (i := 51) (c := 8) (k := 3) (by decide +kernel) (by decide) (by decide +kernel) e141 rfl ?_
    refine xe_alr (ins := .aload_n 0) (len := 1) (i := 0) (by decide +kernel) rfl rfl rfl rfl rfl ?_
    obtain ⟨v142, e143, h⟩ := xbnd h
    refine xs_gi (i := 54) (c := 4) (k := 1) (by decide +kernel) (by decide) (by decide +kernel) e143 rfl ?_
    obtain ⟨v144, e145, h⟩ := xbnd h
    refine xs_iald rfl (by decide +kernel) (xq_gi_in e143) e145 rfl ?_
    refine xe_ldn (ins := .iload_n 2) (len := 1) (by decide +kernel) rfl rfl rfl rfl ?_
    refine xe_icmpne (off := 20) (t := 208) (by decide +kernel) (by decide) rfl (xq_ai_in e145) hx2 (fun c146 => ?_) (fun c146 => ?_)
    · rw [if_pos c146] at h
      refine xW_lv rfl (l := [(0, xR_ (x0))]) (xsb_of ⟨rfl, trivial⟩ (show [0, 2, 3].Nodup by decide)) ?_
      exact k43_208    h
    · rw [if_neg c146] at h
      refine xe_alr (ins := .aload_n 0) (len := 1) (i := 0) (by decide +kernel) rfl rfl rfl rfl rfl ?_
      obtain ⟨_, e148, h⟩ := xbnd h
      obtain ⟨M149, e147, h⟩ := xbnd h
      refine xs_cv (i := 73) (j := 37) (ar := []) (rest := []) (r2 := xr_37) (by decide +kernel) (by decide +kernel) (by decide +kernel) xr_37_e rfl (by decide) (by decide) e148 ?_
      refine xc_v (k37 (d := d + 9)   e147) rfl ?_
      refine xe_alr (ins := .aload_n 0) (len := 1) (i := 0) (by decide +kernel) rfl rfl rfl rfl rfl ?_
      obtain ⟨_, e152, h⟩ := xbnd h
      obtain ⟨R153, e151, h⟩ := xbnd h
      refine xs2_cv (kd := 0) (jj := 45) (by decide) (i := 70) (j := 45) (ar := []) (rest := []) (r2 := xr_45) (by decide +kernel) (by decide +kernel) (by decide +kernel) xr_45_e rfl (by decide) (by decide) e152 ?_
      refine xct_v (k45 (d := d + 0)  e151) rfl (fun e1 g155 => ?_) (fun g155 => ?_)
      · rw [xth_l g155] at h; cases h; exact xK_thr rfl ⟨rfl, rfl⟩
      · rw [xth_r g155] at h
        refine xe_bipush (n := 44) (by decide +kernel) (by decide) rfl ?_
        refine xe_isr (ins := .istore_n 2) (len := 1) (i := 2) (by decide +kernel) rfl rfl rfl (by decide) (xk_k (show ¬ (0 : Nat) = 2 by decide) (Or.inl (show ¬ (0 + 1 : Nat) = 2 by decide)) (xk_d rfl (xk_k (show ¬ (3 : Nat) = 2 by decide) (Or.inl (show ¬ (3 + 1 : Nat) = 2 by decide)) xk_n))) rfl ?_
        refine xe_iincr (i := 3) (n := 1) (by decide +kernel) (by decide) rfl (xk_k (show ¬ (2 : Nat) = 3 by decide) (Or.inr (xI_cat _)) (xk_k (show ¬ (0 : Nat) = 3 by decide) (Or.inl (show ¬ (0 + 1 : Nat) = 3 by decide)) (xk_d rfl xk_n))) rfl ?_
        refine xe_goto (off := -36) (nx := 169) (by decide +kernel) (by decide) ?_
        refine xW_lv rfl (l := [(0, xR_ (x0)), (2, xI (44)), (3, xI (xwr ((x3) + (1))))]) (xsb_of ⟨rfl, rfl, rfl, trivial⟩ (show [3, 2, 0].Nodup by decide)) ?_
        exact hr169 (show xin (44) by decide) (xin_wr _) h
def f43_169   (f : Nat) : Nat → Nat → Int → Int → xj_M → Option ((Nat ⊕ Unit) × xj_M)
  | 0, _, _, _, _ => none
  | n + 1, x0, x2, x3, M => f43_169b   (f43_169   f n) f x0 x2 x3 M
theorem k43_169 {d f : Nat}     : ∀ {n : Nat} {x0 : Nat} {x2 : Int} {x3 : Int} {M : xj_M} {R : (Nat ⊕ Unit) × xj_M}, xin x2 → xin x3 → f43_169   f n x0 x2 x3 M = some R → xW (d + 10) (none, d + 10, none) xr_43 (169, [(0, xR_ x0), (2, xI x2), (3, xI x3)], [], M) (xQtv R) := by
  intro n
  induction n with
  | zero => intros; rename_i h; cases h
  | succ n ih => intros; rename_i h; exact k43_169b   ih (by assumption) (by assumption) h
def f43_99   (f : Nat) (x0 : Nat) (x1 : Int) (M : xj_M) : Option ((Nat ⊕ Unit) × xj_M) := ((xq_is 4 (x0) M).bind fun _ => ((f38 f (x0) (41) M).bind fun R159 => xth R159 (fun _ => ((xq_gr 4 5 (x0) R159.2).bind fun v163 => ((xq_gi 6 0 (v163) R159.2).bind fun v165 => ((xq_gr 4 5 (x0) R159.2).bind fun v167 => ((xq_gi 6 2 (v167) R159.2).bind fun v169 => ((xq_is 4 (x0) R159.2).bind fun _ => ((f40  f (x0) (14) (v165) (x1) (v169) R159.2).bind fun M173 => ((xq_gr 4 3 (x0) M173).bind fun v175 => ((xq_gr 3 7 (v175) M173).bind fun v177 => ((xq_gr 4 5 (x0) M173).bind fun v179 => ((xq_gi 6 0 (v179) M173).bind fun v181 => ((xq_sb (v177) (v181) (1) M173).bind fun M183 => ((xq_gr 4 3 (x0) M183).bind fun v185 => ((xq_gr 4 5 (x0) M183).bind fun v187 => ((xq_gi 6 0 (v187) M183).bind fun v189 => ((xq_gr 4 5 (x0) M183).bind fun v191 => ((xq_gi 6 2 (v191) M183).bind fun v193 => ((xq_is 3 (v185) M183).bind fun _ => ((f23  f (v185) (v189) (v193) M183).bind fun M197 => f43_169   f f (x0) (256) (0) M197)))))))))))))))))))))
theorem k43_99 {d f : Nat}     {x0 : Nat} {x1 : Int} {M : xj_M} {R : (Nat ⊕ Unit) × xj_M} (hx1 : xin x1) (h : f43_99   f x0 x1 M = some R) : xW (d + 10) (none, d + 10, none) xr_43 (99, [(0, xR_ x0), (1, xI x1)], [], M) (xQtv R) := by
  unfold f43_99 at h
  refine xe_alr (ins := .aload_n 0) (len := 1) (i := 0) (by decide +kernel) rfl rfl rfl rfl rfl ?_
  refine xe_bipush (n := 41) (by decide +kernel) (by decide) rfl ?_
  obtain ⟨_, e158, h⟩ := xbnd h
  obtain ⟨R159, e157, h⟩ := xbnd h
  refine xs2_cv (kd := 0) (jj := 38) (by decide) (i := 76) (j := 38) (ar := [xI (41)]) (rest := []) (r2 := xr_38) (by decide +kernel) (by decide +kernel) (by decide +kernel) xr_38_e rfl (by decide) (by decide) e158 ?_
  refine xct_v (k38 (d := d + 3) (show xin (41) by decide) e157) rfl (fun e1 g161 => ?_) (fun g161 => ?_)
  · rw [xth_l g161] at h; cases h; exact xK_thr rfl ⟨rfl, rfl⟩
  · rw [xth_r g161] at h
    refine xe_alr (ins := .aload_n 0) (len := 1) (i := 0) (by decide +kernel) rfl rfl rfl rfl rfl ?_
    refine xe_bipush (n := 14) (by decide +kernel) (by decide) rfl ?_
    refine xe_alr (ins := .aload_n 0) (len := 1) (i := 0) (by decide +kernel) rfl rfl rfl rfl rfl ?_
    obtain ⟨v163, e164, h⟩ := xbnd h
    refine xs_gr (i := 86) (c := 4) (k := 5) (by decide +kernel) (by decide) (by decide +kernel) e164 rfl ?_
    obtain ⟨v165, e166, h⟩ := xbnd h
    refine xs_gi (i := 191) (c := 6) (k := 0) (by decide +kernel) (by decide) (by decide +kernel) e166 rfl ?_
    refine xe_ldn (ins := .iload_n 1) (len := 1) (by decide +kernel) rfl rfl rfl rfl ?_
    refine xe_alr (ins := .aload_n 0) (len := 1) (i := 0) (by decide +kernel) rfl rfl rfl rfl rfl ?_
    obtain ⟨v167, e168, h⟩ := xbnd h
    refine xs_gr (i := 86) (c := 4) (k := 5) (by decide +kernel) (by decide) (by decide +kernel) e168 rfl ?_
    obtain ⟨v169, e170, h⟩ := xbnd h
    refine xs_gi (i := 197) (c := 6) (k := 2) (by decide +kernel) (by decide) (by decide +kernel) e170 rfl ?_
    obtain ⟨_, e172, h⟩ := xbnd h
    obtain ⟨M173, e171, h⟩ := xbnd h
    refine xs_cv (i := 114) (j := 40) (ar := [xI (v169), xI (x1), xI (v165), xI (14)]) (rest := []) (r2 := xr_40) (by decide +kernel) (by decide +kernel) (by decide +kernel) xr_40_e rfl (by decide) (by decide) e172 ?_
    refine xc_v (k40 (d := d + 9)  (show xin (14) by decide) (xq_gi_in e166) hx1 (xq_gi_in e170) e171) rfl ?_
    refine xe_alr (ins := .aload_n 0) (len := 1) (i := 0) (by decide +kernel) rfl rfl rfl rfl rfl ?_
    obtain ⟨v175, e176, h⟩ := xbnd h
    refine xs_gr (i := 147) (c := 4) (k := 3) (by decide +kernel) (by decide) (by decide +kernel) e176 rfl ?_
    obtain ⟨v177, e178, h⟩ := xbnd h
    refine xs_gr (i := 200) (c := 3) (k := 7) (by decide +kernel) (by decide) (by decide +kernel) e178 rfl ?_
    refine xe_alr (ins := .aload_n 0) (len := 1) (i := 0) (by decide +kernel) rfl rfl rfl rfl rfl ?_
    obtain ⟨v179, e180, h⟩ := xbnd h
    refine xs_gr (i := 86) (c := 4) (k := 5) (by decide +kernel) (by decide) (by decide +kernel) e180 rfl ?_
    obtain ⟨v181, e182, h⟩ := xbnd h
    refine xs_gi (i := 191) (c := 6) (k := 0) (by decide +kernel) (by decide) (by decide +kernel) e182 rfl ?_
    refine xe_iconst (n := 1) (by decide +kernel) rfl ?_
    obtain ⟨M183, e184, h⟩ := xbnd h
    refine xs_bast (by decide +kernel) (xq_gi_in e182) e184 rfl ?_
    refine xe_alr (ins := .aload_n 0) (len := 1) (i := 0) (by decide +kernel) rfl rfl rfl rfl rfl ?_
    obtain ⟨v185, e186, h⟩ := xbnd h
    refine xs_gr (i := 147) (c := 4) (k := 3) (by decide +kernel) (by decide) (by decide +kernel) e186 rfl ?_
    refine xe_alr (ins := .aload_n 0) (len := 1) (i := 0) (by decide +kernel) rfl rfl rfl rfl rfl ?_
    obtain ⟨v187, e188, h⟩ := xbnd h
    refine xs_gr (i := 86) (c := 4) (k := 5) (by decide +kernel) (by decide) (by decide +kernel) e188 rfl ?_
    obtain ⟨v189, e190, h⟩ := xbnd h
    refine xs_gi (i := 191) (c := 6) (k := 0) (by decide +kernel) (by decide) (by decide +kernel) e190 rfl ?_
    refine xe_alr (ins := .aload_n 0) (len := 1) (i := 0) (by decide +kernel) rfl rfl rfl rfl rfl ?_
    obtain ⟨v191, e192, h⟩ := xbnd h
    refine xs_gr (i := 86) (c := 4) (k := 5) (by decide +kernel) (by decide) (by decide +kernel) e192 rfl ?_
    obtain ⟨v193, e194, h⟩ := xbnd h
    refine xs_gi (i := 197) (c := 6) (k := 2) (by decide +kernel) (by decide) (by decide +kernel) e194 rfl ?_
    obtain ⟨_, e196, h⟩ := xbnd h
    obtain ⟨M197, e195, h⟩ := xbnd h
    refine xs_cv (i := 178) (j := 23) (ar := [xI (v193), xI (v189)]) (rest := []) (r2 := xr_23) (by decide +kernel) (by decide +kernel) (by decide +kernel) xr_23_e rfl (by decide) (by decide) e196 ?_
    refine xc_v (k23 (d := d + 9)  (xq_gi_in e190) (xq_gi_in e194) e195) rfl ?_
    refine xe_sipush (n := 256) (by decide +kernel) (by decide) rfl ?_
    refine xe_isr (ins := .istore_n 2) (len := 1) (i := 2) (by decide +kernel) rfl rfl rfl (by decide) (xk_k (show ¬ (0 : Nat) = 2 by decide) (Or.inl (show ¬ (0 + 1 : Nat) = 2 by decide)) (xk_k (show ¬ (1 : Nat) = 2 by decide) (Or.inr (xI_cat _)) xk_n)) rfl ?_
    refine xe_iconst (n := 0) (by decide +kernel) rfl ?_
    refine xe_isr (ins := .istore_n 3) (len := 1) (i := 3) (by decide +kernel) rfl rfl rfl (by decide) (xk_k (show ¬ (2 : Nat) = 3 by decide) (Or.inr (xI_cat _)) (xk_k (show ¬ (0 : Nat) = 3 by decide) (Or.inl (show ¬ (0 + 1 : Nat) = 3 by decide)) (xk_k (show ¬ (1 : Nat) = 3 by decide) (Or.inl (show ¬ (1 + 1 : Nat) = 3 by decide)) xk_n))) rfl ?_
    refine xW_lv rfl (l := [(0, xR_ (x0)), (2, xI (256)), (3, xI (0))]) (xsb_of ⟨rfl, rfl, rfl, trivial⟩ (show [3, 2, 0, 1].Nodup by decide)) ?_
    exact k43_169   (show xin (256) by decide) (show xin (0) by decide) h
def f43_64b  (r64 : Nat → Int → xj_M → Option ((Nat ⊕ Unit) × xj_M)) (f : Nat) (x0 : Nat) (x1 : Int) (M : xj_M) : Option ((Nat ⊕ Unit) × xj_M) := ((xq_is 4 (x0) M).bind fun _ => ((f44 f (x0) M).bind fun R201 => xth R201 (fun _ => ((xq_gr 4 5 (x0) R201.2).bind fun v205 => ((xq_gi 6 2 (v205) R201.2).bind fun v207 => ((xq_pi 6 2 (v205) (xwr ((v207) + (1))) R201.2).bind fun M209 => ((xq_gr 4 5 (x0) M209).bind fun v211 => ((xq_gi 6 2 (v211) M209).bind fun v213 => (if (4) ≤ (v213) then f43_99   f (x0) (x1) M209 else ((xq_is 4 (x0) M209).bind fun _ => ((f39  f (x0) M209).bind fun R218 => (if ¬ (R218.1) = 0 then r64 (x0) (x1) R218.2 else f43_99   f (x0) (x1) R218.2))))))))))))
theorem k43_64b {d f : Nat}  {r64 : Nat → Int → xj_M → Option ((Nat ⊕ Unit) × xj_M)}  (hr64 : ∀ {x0 : Nat} {x1 : Int} {M : xj_M} {R : (Nat ⊕ Unit) × xj_M}, xin x1 → r64 x0 x1 M = some R → xW (d + 10) (none, d + 10, none) xr_43 (64, [(0, xR_ x0), (1, xI x1)], [], M) (xQtv R)) {x0 : Nat} {x1 : Int} {M : xj_M} {R : (Nat ⊕ Unit) × xj_M} (hx1 : xin x1) (h : f43_64b  r64 f x0 x1 M = some R) : xW (d + 10) (none, d + 10, none) xr_43 (64, [(0, xR_ x0), (1, xI x1)], [], M) (xQtv R) := by
  unfold f43_64b at h
  refine xe_alr (ins := .aload_n 0) (len := 1) (i := 0) (by decide +kernel) rfl rfl rfl rfl rfl ?_
  obtain ⟨_, e200, h⟩ := xbnd h
  obtain ⟨R201, e199, h⟩ := xbnd h
  refine xs2_cv (kd := 0) (jj := 44) (by decide) (i := 194) (j := 44) (ar := []) (rest := []) (r2 := xr_44) (by decide +kernel) (by decide +kernel) (by decide +kernel) xr_44_e rfl (by decide) (by decide) e200 ?_
  refine xct_v (k44 (d := d + 0)  e199) rfl (fun e1 g203 => ?_) (fun g203 => ?_)
  · rw [xth_l g203] at h; cases h; exact xK_thr rfl ⟨rfl, rfl⟩
  · rw [xth_r g203] at h
    refine xe_alr (ins := .aload_n 0) (len := 1) (i := 0) (by decide +kernel) rfl rfl rfl rfl rfl ?_
    obtain ⟨v205, e206, h⟩ := xbnd h
    refine xs_gr (i := 86) (c := 4) (k := 5) (by decide +kernel) (by decide) (by decide +kernel) e206 rfl ?_
    refine xe_dupr (by decide +kernel) rfl ?_
    obtain ⟨v207, e208, h⟩ := xbnd h
    refine xs_gi (i := 197) (c := 6) (k := 2) (by decide +kernel) (by decide) (by decide +kernel) e208 rfl ?_
    refine xe_iconst (n := 1) (by decide +kernel) rfl ?_
    refine xe_iadd (by decide +kernel) rfl ?_
    obtain ⟨M209, e210, h⟩ := xbnd h
    refine xs_p (i := 197) (c := 6) (k := 2) (by decide +kernel) (by decide +kernel) (by decide +kernel) e210 rfl ?_
    refine xe_alr (ins := .aload_n 0) (len := 1) (i := 0) (by decide +kernel) rfl rfl rfl rfl rfl ?_
    obtain ⟨v211, e212, h⟩ := xbnd h
    refine xs_gr (i := 86) (c := 4) (k := 5) (by decide +kernel) (by decide) (by decide +kernel) e212 rfl ?_
    obtain ⟨v213, e214, h⟩ := xbnd h
    refine xs_gi (i := 197) (c := 6) (k := 2) (by decide +kernel) (by decide) (by decide +kernel) e214 rfl ?_
    refine xe_iconst (n := 4) (by decide +kernel) rfl ?_
    refine xe_icmpge (off := 10) (t := 99) (by decide +kernel) (by decide) rfl (xq_gi_in e214) (show xin (4) by decide) (fun c215 => ?_) (fun c215 => ?_)
    · rw [if_pos c215] at h
      refine xW_lv rfl (l := [(0, xR_ (x0)), (1, xI (x1))]) (xsb_of ⟨rfl, rfl, trivial⟩ (show [0, 1].Nodup by decide)) ?_
      exact k43_99   hx1 h
    · rw [if_neg c215] at h
      refine xe_alr (ins := .aload_n 0) (len := 1) (i := 0) (by decide +kernel) rfl rfl rfl rfl rfl ?_
      obtain ⟨_, e217, h⟩ := xbnd h
      obtain ⟨R218, e216, h⟩ := xbnd h
      refine xs_cv (i := 110) (j := 39) (ar := []) (rest := []) (r2 := xr_39) (by decide +kernel) (by decide +kernel) (by decide +kernel) xr_39_e rfl (by decide) (by decide) e217 ?_
      refine xc_i (k39 (d := d + 8)   e216) rfl (fun hi219 => ?_)
      refine xe_ifne (off := -32) (t := 64) (by decide +kernel) (by decide) rfl hi219 (fun c220 => ?_) (fun c220 => ?_)
      · rw [if_pos c220] at h
        refine xW_lv rfl (l := [(0, xR_ (x0)), (1, xI (x1))]) (xsb_of ⟨rfl, rfl, trivial⟩ (show [0, 1].Nodup by decide)) ?_
        exact hr64 hx1 h
      · rw [if_neg c220] at h
        refine xW_lv rfl (l := [(0, xR_ (x0)), (1, xI (x1))]) (xsb_of ⟨rfl, rfl, trivial⟩ (show [0, 1].Nodup by decide)) ?_
        exact k43_99   hx1 h
def f43_64   (f : Nat) : Nat → Nat → Int → xj_M → Option ((Nat ⊕ Unit) × xj_M)
  | 0, _, _, _ => none
  | n + 1, x0, x1, M => f43_64b   (f43_64   f n) f x0 x1 M
theorem k43_64 {d f : Nat}     : ∀ {n : Nat} {x0 : Nat} {x1 : Int} {M : xj_M} {R : (Nat ⊕ Unit) × xj_M}, xin x1 → f43_64   f n x0 x1 M = some R → xW (d + 10) (none, d + 10, none) xr_43 (64, [(0, xR_ x0), (1, xI x1)], [], M) (xQtv R) := by
  intro n
  induction n with
  | zero => intros; rename_i h; cases h
  | succ n ih => intros; rename_i h; exact k43_64b   ih (by assumption) h
def f43_30   (f : Nat) (x0 : Nat) (x1 : Int) (M : xj_M) : Option ((Nat ⊕ Unit) × xj_M) := ((xq_is 4 (x0) M).bind fun _ => ((f35  f (x0) M).bind fun M223 => ((xq_gr 4 5 (x0) M223).bind fun v225 => ((xq_pi 6 1 (v225) (x1) M223).bind fun M227 => ((xq_gr 4 5 (x0) M227).bind fun v229 => ((xq_is 4 (x0) M227).bind fun _ => ((f47 f (x0) M227).bind fun R233 => xth R233 (fun v234 => ((xq_is 4 (x0) R233.2).bind fun _ => ((f48 f (x0) (v234) (x1) R233.2).bind fun R239 => xth R239 (fun v240 => ((xq_pi 6 0 (v229) (v240) R239.2).bind fun M243 => ((xq_is 4 (x0) M243).bind fun _ => ((f38 f (x0) (40) M243).bind fun R247 => xth R247 (fun _ => f43_64   f f (x0) (x1) R247.2)))))))))))))))
theorem k43_30 {d f : Nat}     {x0 : Nat} {x1 : Int} {M : xj_M} {R : (Nat ⊕ Unit) × xj_M} (hx1 : xin x1) (h : f43_30   f x0 x1 M = some R) : xW (d + 10) (none, d + 10, none) xr_43 (30, [(0, xR_ x0), (1, xI x1)], [], M) (xQtv R) := by
  unfold f43_30 at h
  refine xe_alr (ins := .aload_n 0) (len := 1) (i := 0) (by decide +kernel) rfl rfl rfl rfl rfl ?_
  obtain ⟨_, e222, h⟩ := xbnd h
  obtain ⟨M223, e221, h⟩ := xbnd h
  refine xs_cv (i := 67) (j := 35) (ar := []) (rest := []) (r2 := xr_35) (by decide +kernel) (by decide +kernel) (by decide +kernel) xr_35_e rfl (by decide) (by decide) e222 ?_
  refine xc_v (k35 (d := d + 8)   e221) rfl ?_
  refine xe_alr (ins := .aload_n 0) (len := 1) (i := 0) (by decide +kernel) rfl rfl rfl rfl rfl ?_
  obtain ⟨v225, e226, h⟩ := xbnd h
  refine xs_gr (i := 86) (c := 4) (k := 5) (by decide +kernel) (by decide) (by decide +kernel) e226 rfl ?_
  refine xe_ldn (ins := .iload_n 1) (len := 1) (by decide +kernel) rfl rfl rfl rfl ?_
  obtain ⟨M227, e228, h⟩ := xbnd h
  refine xs_p (i := 188) (c := 6) (k := 1) (by decide +kernel) (by decide +kernel) (by decide +kernel) e228 rfl ?_
  refine xe_alr (ins := .aload_n 0) (len := 1) (i := 0) (by decide +kernel) rfl rfl rfl rfl rfl ?_
  obtain ⟨v229, e230, h⟩ := xbnd h
  refine xs_gr (i := 86) (c := 4) (k := 5) (by decide +kernel) (by decide) (by decide +kernel) e230 rfl ?_
  refine xe_alr (ins := .aload_n 0) (len := 1) (i := 0) (by decide +kernel) rfl rfl rfl rfl rfl ?_
  refine xe_alr (ins := .aload_n 0) (len := 1) (i := 0) (by decide +kernel) rfl rfl rfl rfl rfl ?_
  obtain ⟨_, e232, h⟩ := xbnd h
  obtain ⟨R233, e231, h⟩ := xbnd h
  refine xs2_cv (kd := 0) (jj := 47) (by decide) (i := 99) (j := 47) (ar := []) (rest := [xR_ (x0), xR_ (v229)]) (r2 := xr_47) (by decide +kernel) (by decide +kernel) (by decide +kernel) xr_47_e rfl (by decide) (by simp only [List.map_cons, List.map_nil, List.sum_cons, List.sum_nil, xR_cat, xI_cat, xZ_cat]; decide) e232 ?_
  refine xct_l (k47 (d := d + 3)  e231) rfl (fun e1 g235 => ?_) (fun v234 g235 hi236 => ?_)
  · rw [xth_l g235] at h; cases h; exact xK_thr rfl ⟨rfl, rfl⟩
  · rw [xth_r g235] at h
    refine xe_ldn (ins := .iload_n 1) (len := 1) (by decide +kernel) rfl rfl rfl rfl ?_
    obtain ⟨_, e238, h⟩ := xbnd h
    obtain ⟨R239, e237, h⟩ := xbnd h
    refine xs2_cv (kd := 0) (jj := 48) (by decide) (i := 103) (j := 48) (ar := [xI (x1), xZ (v234)]) (rest := [xR_ (v229)]) (r2 := xr_48) (by decide +kernel) (by decide +kernel) (by decide +kernel) xr_48_e rfl (by decide) (by simp only [List.map_cons, List.map_nil, List.sum_cons, List.sum_nil, xR_cat, xI_cat, xZ_cat]; decide) e238 ?_
    refine xct_i (k48 (d := d + 3) hi236 hx1 e237) rfl (fun e1 g241 => ?_) (fun v240 g241 hi242 => ?_)
    · rw [xth_l g241] at h; cases h; exact xK_thr rfl ⟨rfl, rfl⟩
    · rw [xth_r g241] at h
      obtain ⟨M243, e244, h⟩ := xbnd h
      refine xs_p (i := 191) (c := 6) (k := 0) (by decide +kernel) (by decide +kernel) (by decide +kernel) e244 rfl ?_
      refine xe_alr (ins := .aload_n 0) (len := 1) (i := 0) (by decide +kernel) rfl rfl rfl rfl rfl ?_
      refine xe_bipush (n := 40) (by decide +kernel) (by decide) rfl ?_
      obtain ⟨_, e246, h⟩ := xbnd h
      obtain ⟨R247, e245, h⟩ := xbnd h
      refine xs2_cv (kd := 0) (jj := 38) (by decide) (i := 76) (j := 38) (ar := [xI (40)]) (rest := []) (r2 := xr_38) (by decide +kernel) (by decide +kernel) (by decide +kernel) xr_38_e rfl (by decide) (by decide) e246 ?_
      refine xct_v (k38 (d := d + 3) (show xin (40) by decide) e245) rfl (fun e1 g249 => ?_) (fun g249 => ?_)
      · rw [xth_l g249] at h; cases h; exact xK_thr rfl ⟨rfl, rfl⟩
      · rw [xth_r g249] at h
        refine xW_lv rfl (l := [(0, xR_ (x0)), (1, xI (x1))]) (xsb_of ⟨rfl, rfl, trivial⟩ (show [0, 1].Nodup by decide)) ?_
        exact k43_64   hx1 h
def f43  (f : Nat) (a0 : Nat) (M : xj_M) : Option ((Nat ⊕ Unit) × xj_M) := ((xq_gr 4 0 (a0) M).bind fun v251 => ((xq_gr 8 4 (v251) M).bind fun v253 => ((xq_gi 4 1 (a0) M).bind fun v255 => ((xq_ai 3 (v253) (v255) M).bind fun v257 => ((xq_gr 4 3 (a0) M).bind fun v259 => ((xq_gi 3 8 (v259) M).bind fun v261 => (if ¬ (v261) = (24) then f43_30   f (a0) (v257) M else ((xq_is 4 (a0) M).bind fun _ => ((f36 f (a0) (v257) M).bind fun R266 => xth R266 (fun _ => f43_30   f (a0) (v257) R266.2))))))))))
theorem k43 {d f : Nat}   {a0 : Nat} {M : xj_M} {R : (Nat ⊕ Unit) × xj_M}  (h : f43  f a0 M = some R) : xT (d + 11) 43 [xR_ a0] M (xQtv R) := by
  refine xT_m xr_43_e (X := (none, d + 10, none)) rfl (xa_1 (xR_cat _) xa_n) (by decide) ?_
  unfold f43 at h
  refine xe_alr (ins := .aload_n 0) (len := 1) (i := 0) (by decide +kernel) rfl rfl rfl rfl rfl ?_
  obtain ⟨v251, e252, h⟩ := xbnd h
  refine xs_gr (i := 43) (c := 4) (k := 0) (by decide +kernel) (by decide) (by decide +kernel) e252 rfl ?_
  obtain ⟨v253, e254, h⟩ := xbnd h
  refine xs_gr (i := 80) (c := 8) (k := 4) (by decide +kernel) (by decide) (by decide +kernel) e254 rfl ?_
  refine xe_alr (ins := .aload_n 0) (len := 1) (i := 0) (by decide +kernel) rfl rfl rfl rfl rfl ?_
  obtain ⟨v255, e256, h⟩ := xbnd h
  refine xs_gi (i := 54) (c := 4) (k := 1) (by decide +kernel) (by decide) (by decide +kernel) e256 rfl ?_
  obtain ⟨v257, e258, h⟩ := xbnd h
  refine xs_iald rfl (by decide +kernel) (xq_gi_in e256) e258 rfl ?_
  refine xe_isr (ins := .istore_n 1) (len := 1) (i := 1) (by decide +kernel) rfl rfl rfl (by decide) (xk_k (show ¬ (0 : Nat) = 1 by decide) (Or.inr (xR_cat _)) xk_n) rfl ?_
  refine xe_alr (ins := .aload_n 0) (len := 1) (i := 0) (by decide +kernel) rfl rfl rfl rfl rfl ?_
  obtain ⟨v259, e260, h⟩ := xbnd h
  refine xs_gr (i := 147) (c := 4) (k := 3) (by decide +kernel) (by decide) (by decide +kernel) e260 rfl ?_
  obtain ⟨v261, e262, h⟩ := xbnd h
  refine xs_gi (i := 185) (c := 3) (k := 8) (by decide +kernel) (by decide) (by decide +kernel) e262 rfl ?_
  refine xe_bipush (n := 24) (by decide +kernel) (by decide) rfl ?_
  refine xe_icmpne (off := 8) (t := 30) (by decide +kernel) (by decide) rfl (xq_gi_in e262) (show xin (24) by decide) (fun c263 => ?_) (fun c263 => ?_)
  · rw [if_pos c263] at h
    refine xW_lv rfl (l := [(0, xR_ (a0)), (1, xI (v257))]) (xsb_of ⟨rfl, rfl, trivial⟩ (show [1, 0].Nodup by decide)) ?_
    exact k43_30   (xq_ai_in e258) h
  · rw [if_neg c263] at h
    refine xe_alr (ins := .aload_n 0) (len := 1) (i := 0) (by decide +kernel) rfl rfl rfl rfl rfl ?_
    refine xe_ldn (ins := .iload_n 1) (len := 1) (by decide +kernel) rfl rfl rfl rfl ?_
    obtain ⟨_, e265, h⟩ := xbnd h
    obtain ⟨R266, e264, h⟩ := xbnd h
    refine xs2_cv (kd := 0) (jj := 36) (by decide) (i := 83) (j := 36) (ar := [xI (v257)]) (rest := []) (r2 := xr_36) (by decide +kernel) (by decide +kernel) (by decide +kernel) xr_36_e rfl (by decide) (by decide) e265 ?_
    refine xct_v (k36 (d := d + 4) (xq_ai_in e258) e264) rfl (fun e1 g268 => ?_) (fun g268 => ?_)
    · rw [xth_l g268] at h; cases h; exact xK_thr rfl ⟨rfl, rfl⟩
    · rw [xth_r g268] at h
      refine xW_lv rfl (l := [(0, xR_ (a0)), (1, xI (v257))]) (xsb_of ⟨rfl, rfl, trivial⟩ (show [1, 0].Nodup by decide)) ?_
      exact k43_30   (xq_ai_in e258) h
-- ChangeHouse$Sheet.settle
def xr_99 : xj_mR := (7, yX7_settle, cX7_settle, 7, (Option.none : Option Jvm.ClassFile.FieldType), 4, false, (7, 58), (1, 7))
set_option maxRecDepth 20000 in
theorem xr_99_e : xj_row 99 = some xr_99 := rfl
def f99_106  (r27 : Nat → Nat → Nat → Nat → Int → Int → Int → xj_M → Option (xj_M)) (f : Nat) (x0 : Nat) (x1 : Nat) (x2 : Nat) (x3 : Nat) (x4 : Int) (x6 : Int) (y0 : Int) (y1 : Int) (M : xj_M) : Option (xj_M) := r27 (x0) (x1) (x2) (x3) (x4) (xor_ (y1) (y0)) (xwr ((x6) + (1))) M
theorem k99_106 {d f : Nat}  {r27 : Nat → Nat → Nat → Nat → Int → Int → Int → xj_M → Option (xj_M)}  (hr27 : ∀ {x0 : Nat} {x1 : Nat} {x2 : Nat} {x3 : Nat} {x4 : Int} {x5 : Int} {x6 : Int} {M : xj_M} {R : xj_M}, xin x4 → xin x5 → xin x6 → r27 x0 x1 x2 x3 x4 x5 x6 M = some R → xW (d + 5) (none, d + 5, none) xr_99 (27, [(0, xR_ x0), (1, xR_ x1), (2, xR_ x2), (3, xR_ x3), (4, xI x4), (5, xI x5), (6, xI x6)], [], M) (xQv R)) {x0 : Nat} {x1 : Nat} {x2 : Nat} {x3 : Nat} {x4 : Int} {x6 : Int} {y0 : Int} {y1 : Int} {M : xj_M} {R : xj_M} (hx4 : xin x4) (hx6 : xin x6) (hy0 : xin y0) (hy1 : xin y1) (h : f99_106  r27 f x0 x1 x2 x3 x4 x6 y0 y1 M = some R) : xW (d + 5) (none, d + 5, none) xr_99 (106, [(0, xR_ x0), (1, xR_ x1), (2, xR_ x2), (3, xR_ x3), (4, xI x4), (6, xI x6)], [xI y0, xI y1], M) (xQv R) := by
  unfold f99_106 at h
  refine xe_ior (by decide +kernel) rfl ?_
  refine xe_isr (ins := .istore 5) (len := 2) (i := 5) (by decide +kernel) rfl rfl rfl (by decide) (xk_k (show ¬ (0 : Nat) = 5 by decide) (Or.inl (show ¬ (0 + 1 : Nat) = 5 by decide)) (xk_k (show ¬ (1 : Nat) = 5 by decide) (Or.inl (show ¬ (1 + 1 : Nat) = 5 by decide)) (xk_k (show ¬ (2 : Nat) = 5 by decide) (Or.inl (show ¬ (2 + 1 : Nat) = 5 by decide)) (xk_k (show ¬ (3 : Nat) = 5 by decide) (Or.inl (show ¬ (3 + 1 : Nat) = 5 by decide)) (xk_k (show ¬ (4 : Nat) = 5 by decide) (Or.inr (xI_cat _)) (xk_k (show ¬ (6 : Nat) = 5 by decide) (Or.inl (show ¬ (6 + 1 : Nat) = 5 by decide)) xk_n)))))) rfl ?_
  refine xe_iincr (i := 6) (n := 1) (by decide +kernel) (by decide) rfl (xk_k (show ¬ (5 : Nat) = 6 by decide) (Or.inr (xI_cat _)) (xk_k (show ¬ (0 : Nat) = 6 by decide) (Or.inl (show ¬ (0 + 1 : Nat) = 6 by decide)) (xk_k (show ¬ (1 : Nat) = 6 by decide) (Or.inl (show ¬ (1 + 1 : Nat) = 6 by decide)) (xk_k (show ¬ (2 : Nat) = 6 by decide) (Or.inl (show ¬ (2 + 1 : Nat) = 6 by decide)) (xk_k (show ¬ (3 : Nat) = 6 by decide) (Or.inl (show ¬ (3 + 1 : Nat) = 6 by decide)) (xk_k (show ¬ (4 : Nat) = 6 by decide) (Or.inl (show ¬ (4 + 1 : Nat) = 6 by decide)) (xk_d rfl xk_n))))))) rfl ?_
  refine xe_goto (off := -85) (nx := 27) (by decide +kernel) (by decide) ?_
  refine xW_lv rfl (l := [(0, xR_ (x0)), (1, xR_ (x1)), (2, xR_ (x2)), (3, xR_ (x3)), (4, xI (x4)), (5, xI (xor_ (y1) (y0))), (6, xI (xwr ((x6) + (1))))]) (xsb_of ⟨rfl, rfl, rfl, rfl, rfl, rfl, rfl, trivial⟩ (show [6, 5, 0, 1, 2, 3, 4].Nodup by decide)) ?_
  exact hr27 hx4 (xin_of _) (xin_wr _) h
def f99_89  (r27 : Nat → Nat → Nat → Nat → Int → Int → Int → xj_M → Option (xj_M)) (f : Nat) (x0 : Nat) (x1 : Nat) (x2 : Nat) (x3 : Nat) (x4 : Int) (x5 : Int) (x6 : Int) (M : xj_M) : Option (xj_M) := ((xq_gr 2 2 (x2) M).bind fun v101 => ((xq_ar (v101) (x6) M).bind fun v103 => (if (v103) = 0 then f99_106  r27 f (x0) (x1) (x2) (x3) (x4) (x6) (0) (x5) M else f99_106  r27 f (x0) (x1) (x2) (x3) (x4) (x6) (1) (x5) M)))
theorem k99_89 {d f : Nat}  {r27 : Nat → Nat → Nat → Nat → Int → Int → Int → xj_M → Option (xj_M)}  (hr27 : ∀ {x0 : Nat} {x1 : Nat} {x2 : Nat} {x3 : Nat} {x4 : Int} {x5 : Int} {x6 : Int} {M : xj_M} {R : xj_M}, xin x4 → xin x5 → xin x6 → r27 x0 x1 x2 x3 x4 x5 x6 M = some R → xW (d + 5) (none, d + 5, none) xr_99 (27, [(0, xR_ x0), (1, xR_ x1), (2, xR_ x2), (3, xR_ x3), (4, xI x4), (5, xI x5), (6, xI x6)], [], M) (xQv R)) {x0 : Nat} {x1 : Nat} {x2 : Nat} {x3 : Nat} {x4 : Int} {x5 : Int} {x6 : Int} {M : xj_M} {R : xj_M} (hx4 : xin x4) (hx5 : xin x5) (hx6 : xin x6) (h : f99_89  r27 f x0 x1 x2 x3 x4 x5 x6 M = some R) : xW (d + 5) (none, d + 5, none) xr_99 (89, [(0, xR_ x0), (1, xR_ x1), (2, xR_ x2), (3, xR_ x3), (4, xI x4), (5, xI x5), (6, xI x6)], [], M) (xQv R) := by
  unfold f99_89 at h
  refine xe_ldn (ins := .iload 5) (len := 2) (by decide +kernel) rfl rfl rfl rfl ?_
  refine xe_alr (ins := .aload_n 2) (len := 1) (i := 2) (by decide +kernel) rfl rfl rfl rfl rfl ?_
  obtain ⟨v101, e102, h⟩ := xbnd h
  refine xs_gr (i := 25) (c := 2) (k := 2) (by decide +kernel) (by decide) (by decide +kernel) e102 rfl ?_
  refine xe_ldn (ins := .iload 6) (len := 2) (by decide +kernel) rfl rfl rfl rfl ?_
  obtain ⟨v103, e104, h⟩ := xbnd h
  refine xs_aald (by decide +kernel) hx6 e104 rfl ?_
  refine xe_ifnull (off := 7) (t := 105) (by decide +kernel) (by decide) rfl (fun c105 => ?_) (fun c105 => ?_)
  · rw [if_pos c105] at h
    refine xe_iconst (n := 0) (by decide +kernel) rfl ?_
    refine xW_lv rfl (l := [(0, xR_ (x0)), (1, xR_ (x1)), (2, xR_ (x2)), (3, xR_ (x3)), (4, xI (x4)), (6, xI (x6))]) (xsb_of ⟨rfl, rfl, rfl, rfl, rfl, rfl, trivial⟩ (show [0, 1, 2, 3, 4, 5, 6].Nodup by decide)) ?_
    exact k99_106  hr27 hx4 hx6 (show xin (0) by decide) hx5 h
  · rw [if_neg c105] at h
    refine xe_iconst (n := 1) (by decide +kernel) rfl ?_
    refine xe_goto (off := 4) (nx := 106) (by decide +kernel) (by decide) ?_
    refine xW_lv rfl (l := [(0, xR_ (x0)), (1, xR_ (x1)), (2, xR_ (x2)), (3, xR_ (x3)), (4, xI (x4)), (6, xI (x6))]) (xsb_of ⟨rfl, rfl, rfl, rfl, rfl, rfl, trivial⟩ (show [0, 1, 2, 3, 4, 5, 6].Nodup by decide)) ?_
    exact k99_106  hr27 hx4 hx6 (show xin (1) by decide) hx5 h
def f99_65  (r27 : Nat → Nat → Nat → Nat → Int → Int → Int → xj_M → Option (xj_M)) (f : Nat) (x0 : Nat) (x1 : Nat) (x2 : Nat) (x3 : Nat) (x4 : Int) (x5 : Int) (x6 : Int) (M : xj_M) : Option (xj_M) := ((xq_gr 2 2 (x2) M).bind fun v106 => ((xq_gr 1 13 (x3) M).bind fun v108 => ((xq_ar (v108) (x6) M).bind fun v110 => ((xq_sr (v106) (x6) (v110) M).bind fun M112 => ((xq_gi 2 5 (x2) M112).bind fun v114 => ((xq_pi 2 5 (x2) (xwr ((v114) + (1))) M112).bind fun M116 => f99_89  r27 f (x0) (x1) (x2) (x3) (x4) (x5) (x6) M116))))))
theorem k99_65 {d f : Nat}  {r27 : Nat → Nat → Nat → Nat → Int → Int → Int → xj_M → Option (xj_M)}  (hr27 : ∀ {x0 : Nat} {x1 : Nat} {x2 : Nat} {x3 : Nat} {x4 : Int} {x5 : Int} {x6 : Int} {M : xj_M} {R : xj_M}, xin x4 → xin x5 → xin x6 → r27 x0 x1 x2 x3 x4 x5 x6 M = some R → xW (d + 5) (none, d + 5, none) xr_99 (27, [(0, xR_ x0), (1, xR_ x1), (2, xR_ x2), (3, xR_ x3), (4, xI x4), (5, xI x5), (6, xI x6)], [], M) (xQv R)) {x0 : Nat} {x1 : Nat} {x2 : Nat} {x3 : Nat} {x4 : Int} {x5 : Int} {x6 : Int} {M : xj_M} {R : xj_M} (hx4 : xin x4) (hx5 : xin x5) (hx6 : xin x6) (h : f99_65  r27 f x0 x1 x2 x3 x4 x5 x6 M = some R) : xW (d + 5) (none, d + 5, none) xr_99 (65, [(0, xR_ x0), (1, xR_ x1), (2, xR_ x2), (3, xR_ x3), (4, xI x4), (5, xI x5), (6, xI x6)], [], M) (xQv R) := by
  unfold f99_65 at h
  refine xe_alr (ins := .aload_n 2) (len := 1) (i := 2) (by decide +kernel) rfl rfl rfl rfl rfl ?_
  obtain ⟨v106, e107, h⟩ := xbnd h
  refine xs_gr (i := 25) (c := 2) (k := 2) (by decide +kernel) (by decide) (by decide +kernel) e107 rfl ?_
  refine xe_ldn (ins := .iload 6) (len := 2) (by decide +kernel) rfl rfl rfl rfl ?_
  refine xe_alr (ins := .aload_n 3) (len := 1) (i := 3) (by decide +kernel) rfl rfl rfl rfl rfl ?_
  obtain ⟨v108, e109, h⟩ := xbnd h
  refine xs_gr (i := 49) (c := 1) (k := 13) (by decide +kernel) (by decide) (by decide +kernel) e109 rfl ?_
  refine xe_ldn (ins := .iload 6) (len := 2) (by decide +kernel) rfl rfl rfl rfl ?_
  obtain ⟨v110, e111, h⟩ := xbnd h
  refine xs_aald (by decide +kernel) hx6 e111 rfl ?_
  obtain ⟨M112, e113, h⟩ := xbnd h
  refine xs_aast (by decide +kernel) hx6 e113 rfl ?_
  refine xe_alr (ins := .aload_n 2) (len := 1) (i := 2) (by decide +kernel) rfl rfl rfl rfl rfl ?_
  refine xe_dupr (by decide +kernel) rfl ?_
  obtain ⟨v114, e115, h⟩ := xbnd h
  refine xs_gi (i := 40) (c := 2) (k := 5) (by decide +kernel) (by decide) (by decide +kernel) e115 rfl ?_
  refine xe_iconst (n := 1) (by decide +kernel) rfl ?_
  refine xe_iadd (by decide +kernel) rfl ?_
  obtain ⟨M116, e117, h⟩ := xbnd h
  refine xs_p (i := 40) (c := 2) (k := 5) (by decide +kernel) (by decide +kernel) (by decide +kernel) e117 rfl ?_
  refine xW_lv rfl (l := [(0, xR_ (x0)), (1, xR_ (x1)), (2, xR_ (x2)), (3, xR_ (x3)), (4, xI (x4)), (5, xI (x5)), (6, xI (x6))]) (xsb_of ⟨rfl, rfl, rfl, rfl, rfl, rfl, rfl, trivial⟩ (show [0, 1, 2, 3, 4, 5, 6].Nodup by decide)) ?_
  exact k99_89  hr27 hx4 hx5 hx6 h
def f99_172   (f : Nat)  (M : xj_M) : Option (xj_M) := (some M)
theorem k99_172 {d f : Nat}      {M : xj_M} {R : xj_M}  (h : f99_172   f  M = some R) : xW (d + 5) (none, d + 5, none) xr_99 (172, [], [], M) (xQv R) := by
  unfold f99_172 at h
  cases h
  exact xe_ret_v (by decide +kernel) rfl ⟨rfl, rfl⟩
def f99_140   (f : Nat) (x0 : Nat) (x1 : Nat) (x2 : Nat) (x3 : Nat) (x4 : Int) (M : xj_M) : Option (xj_M) := ((xq_na 4 (72) M).bind fun p118 => ((xq_pr 2 3 (x2) (p118.1) p118.2).bind fun M120 => ((xq_gr 2 3 (x2) M120).bind fun v122 => ((xq_pr 7 1 (x0) (v122) M120).bind fun M124 => ((xq_is 7 (x0) M124).bind fun _ => ((f100  f (x0) M124).bind fun M128 => ((xq_is 7 (x0) M128).bind fun _ => ((f102  f (x0) M128).bind fun M132 => ((xq_is 7 (x0) M132).bind fun _ => ((f103  f (x0) (x1) (x3) (x4) M132).bind fun M136 => f99_172   f  M136))))))))))
theorem k99_140 {d f : Nat}     {x0 : Nat} {x1 : Nat} {x2 : Nat} {x3 : Nat} {x4 : Int} {M : xj_M} {R : xj_M} (hx4 : xin x4) (h : f99_140   f x0 x1 x2 x3 x4 M = some R) : xW (d + 5) (none, d + 5, none) xr_99 (140, [(0, xR_ x0), (1, xR_ x1), (2, xR_ x2), (3, xR_ x3), (4, xI x4)], [], M) (xQv R) := by
  unfold f99_140 at h
  refine xe_alr (ins := .aload_n 2) (len := 1) (i := 2) (by decide +kernel) rfl rfl rfl rfl rfl ?_
  refine xe_bipush (n := 72) (by decide +kernel) (by decide) rfl ?_
  obtain ⟨p118, e119, h⟩ := xbnd h
  refine xs_na (kk := 4) (ty := .long) (x := p118.1) (M1 := p118.2) (by decide +kernel) rfl (show xin (72) by decide) e119 rfl ?_
  obtain ⟨M120, e121, h⟩ := xbnd h
  refine xs_p (i := 31) (c := 2) (k := 3) (by decide +kernel) (by decide +kernel) (by decide +kernel) e121 rfl ?_
  refine xe_alr (ins := .aload_n 0) (len := 1) (i := 0) (by decide +kernel) rfl rfl rfl rfl rfl ?_
  refine xe_alr (ins := .aload_n 2) (len := 1) (i := 2) (by decide +kernel) rfl rfl rfl rfl rfl ?_
  obtain ⟨v122, e123, h⟩ := xbnd h
  refine xs_gr (i := 31) (c := 2) (k := 3) (by decide +kernel) (by decide) (by decide +kernel) e123 rfl ?_
  obtain ⟨M124, e125, h⟩ := xbnd h
  refine xs_p (i := 55) (c := 7) (k := 1) (by decide +kernel) (by decide +kernel) (by decide +kernel) e125 rfl ?_
  refine xe_alr (ins := .aload_n 0) (len := 1) (i := 0) (by decide +kernel) rfl rfl rfl rfl rfl ?_
  obtain ⟨_, e127, h⟩ := xbnd h
  obtain ⟨M128, e126, h⟩ := xbnd h
  refine xs_cv (i := 56) (j := 100) (ar := []) (rest := []) (r2 := xr_100) (by decide +kernel) (by decide +kernel) (by decide +kernel) xr_100_e rfl (by decide) (by decide) e127 ?_
  refine xc_v (k100 (d := d + 3)   e126) rfl ?_
  refine xe_alr (ins := .aload_n 0) (len := 1) (i := 0) (by decide +kernel) rfl rfl rfl rfl rfl ?_
  obtain ⟨_, e131, h⟩ := xbnd h
  obtain ⟨M132, e130, h⟩ := xbnd h
  refine xs_cv (i := 59) (j := 102) (ar := []) (rest := []) (r2 := xr_102) (by decide +kernel) (by decide +kernel) (by decide +kernel) xr_102_e rfl (by decide) (by decide) e131 ?_
  refine xc_v (k102 (d := d + 0)   e130) rfl ?_
  refine xe_alr (ins := .aload_n 0) (len := 1) (i := 0) (by decide +kernel) rfl rfl rfl rfl rfl ?_
  refine xe_alr (ins := .aload_n 1) (len := 1) (i := 1) (by decide +kernel) rfl rfl rfl rfl rfl ?_
  refine xe_alr (ins := .aload_n 3) (len := 1) (i := 3) (by decide +kernel) rfl rfl rfl rfl rfl ?_
  refine xe_ldn (ins := .iload 4) (len := 2) (by decide +kernel) rfl rfl rfl rfl ?_
  obtain ⟨_, e135, h⟩ := xbnd h
  obtain ⟨M136, e134, h⟩ := xbnd h
  refine xs_cv (i := 62) (j := 103) (ar := [xI (x4), xR_ (x3), xR_ (x1)]) (rest := []) (r2 := xr_103) (by decide +kernel) (by decide +kernel) (by decide +kernel) xr_103_e rfl (by decide) (by decide) e135 ?_
  refine xc_v (k103 (d := d + 2)  hx4 e134) rfl ?_
  refine xW_lv rfl (l := []) (xsb_of trivial (show [0, 1, 2, 3, 4].Nodup by decide)) ?_
  exact k99_172    h
def f99_27b  (r27 : Nat → Nat → Nat → Nat → Int → Int → Int → xj_M → Option (xj_M)) (f : Nat) (x0 : Nat) (x1 : Nat) (x2 : Nat) (x3 : Nat) (x4 : Int) (x5 : Int) (x6 : Int) (M : xj_M) : Option (xj_M) := (if (72) ≤ (x6) then ((xq_gi 2 5 (x2) M).bind fun v139 => (if 0 < (v139) then f99_140   f (x0) (x1) (x2) (x3) (x4) M else (if (x5) = 0 then f99_172   f  M else (if ¬ (x4) = 0 then f99_140   f (x0) (x1) (x2) (x3) (x4) M else ((xq_gi 2 6 (x2) M).bind fun v144 => (if ¬ (v144) = (1) then f99_172   f  M else f99_140   f (x0) (x1) (x2) (x3) (x4) M)))))) else ((xq_gr 1 12 (x3) M).bind fun v147 => ((xq_ab (v147) (x6) M).bind fun v149 => (if (v149) = 0 then f99_89  r27 f (x0) (x1) (x2) (x3) (x4) (x5) (x6) M else ((xq_gi 2 5 (x2) M).bind fun v152 => (if ¬ (v152) = 0 then f99_65  r27 f (x0) (x1) (x2) (x3) (x4) (x5) (x6) M else ((xq_gr 2 2 (x1) M).bind fun v155 => ((xq_cl 5 (v155) M).bind fun p157 => ((xq_ca 5 (p157.1) p157.2).bind fun _ => ((xq_pr 2 2 (x2) (p157.1) p157.2).bind fun M160 => f99_65  r27 f (x0) (x1) (x2) (x3) (x4) (x5) (x6) M160))))))))))
theorem k99_27b {d f : Nat}  {r27 : Nat → Nat → Nat → Nat → Int → Int → Int → xj_M → Option (xj_M)}  (hr27 : ∀ {x0 : Nat} {x1 : Nat} {x2 : Nat} {x3 : Nat} {x4 : Int} {x5 : Int} {x6 : Int} {M : xj_M} {R : xj_M}, xin x4 → xin x5 → xin x6 → r27 x0 x1 x2 x3 x4 x5 x6 M = some R → xW (d + 5) (none, d + 5, none) xr_99 (27, [(0, xR_ x0), (1, xR_ x1), (2, xR_ x2), (3, xR_ x3), (4, xI x4), (5, xI x5), (6, xI x6)], [], M) (xQv R)) {x0 : Nat} {x1 : Nat} {x2 : Nat} {x3 : Nat} {x4 : Int} {x5 : Int} {x6 : Int} {M : xj_M} {R : xj_M} (hx4 : xin x4) (hx5 : xin x5) (hx6 : xin x6) (h : f99_27b  r27 f x0 x1 x2 x3 x4 x5 x6 M = some R) : xW (d + 5) (none, d + 5, none) xr_99 (27, [(0, xR_ x0), (1, xR_ x1), (2, xR_ x2), (3, xR_ x3), (4, xI x4), (5, xI x5), (6, xI x6)], [], M) (xQv R) := by
  unfold f99_27b at h
  refine xe_ldn (ins := .iload 6) (len := 2) (by decide +kernel) rfl rfl rfl rfl ?_
  refine xe_bipush (n := 72) (by decide +kernel) (by decide) rfl ?_
  refine xe_icmpge (off := 84) (t := 115) (by decide +kernel) (by decide) rfl hx6 (show xin (72) by decide) (fun c138 => ?_) (fun c138 => ?_)
  · rw [if_pos c138] at h
    refine xe_alr (ins := .aload_n 2) (len := 1) (i := 2) (by decide +kernel) rfl rfl rfl rfl rfl ?_
    obtain ⟨v139, e140, h⟩ := xbnd h
    refine xs_gi (i := 40) (c := 2) (k := 5) (by decide +kernel) (by decide) (by decide +kernel) e140 rfl ?_
    refine xe_ifgt (off := 21) (t := 140) (by decide +kernel) (by decide) rfl (xq_gi_in e140) (fun c141 => ?_) (fun c141 => ?_)
    · rw [if_pos c141] at h
      refine xW_lv rfl (l := [(0, xR_ (x0)), (1, xR_ (x1)), (2, xR_ (x2)), (3, xR_ (x3)), (4, xI (x4))]) (xsb_of ⟨rfl, rfl, rfl, rfl, rfl, trivial⟩ (show [0, 1, 2, 3, 4, 5, 6].Nodup by decide)) ?_
      exact k99_140   hx4 h
    · rw [if_neg c141] at h
      refine xe_ldn (ins := .iload 5) (len := 2) (by decide +kernel) rfl rfl rfl rfl ?_
      refine xe_ifeq (off := 48) (t := 172) (by decide +kernel) (by decide) rfl hx5 (fun c142 => ?_) (fun c142 => ?_)
      · rw [if_pos c142] at h
        refine xW_lv rfl (l := []) (xsb_of trivial (show [0, 1, 2, 3, 4, 5, 6].Nodup by decide)) ?_
        exact k99_172    h
      · rw [if_neg c142] at h
        refine xe_ldn (ins := .iload 4) (len := 2) (by decide +kernel) rfl rfl rfl rfl ?_
        refine xe_ifne (off := 11) (t := 140) (by decide +kernel) (by decide) rfl hx4 (fun c143 => ?_) (fun c143 => ?_)
        · rw [if_pos c143] at h
          refine xW_lv rfl (l := [(0, xR_ (x0)), (1, xR_ (x1)), (2, xR_ (x2)), (3, xR_ (x3)), (4, xI (x4))]) (xsb_of ⟨rfl, rfl, rfl, rfl, rfl, trivial⟩ (show [0, 1, 2, 3, 4, 5, 6].Nodup by decide)) ?_
          exact k99_140   hx4 h
        · rw [if_neg c143] at h
          refine xe_alr (ins := .aload_n 2) (len := 1) (i := 2) (by decide +kernel) rfl rfl rfl rfl rfl ?_
          obtain ⟨v144, e145, h⟩ := xbnd h
          refine xs_gi (i := 52) (c := 2) (k := 6) (by decide +kernel) (by decide) (by decide +kernel) e145 rfl ?_
          refine xe_iconst (n := 1) (by decide +kernel) rfl ?_
          refine xe_icmpne (off := 35) (t := 172) (by decide +kernel) (by decide) rfl (xq_gi_in e145) (show xin (1) by decide) (fun c146 => ?_) (fun c146 => ?_)
          · rw [if_pos c146] at h
            refine xW_lv rfl (l := []) (xsb_of trivial (show [0, 1, 2, 3, 4, 5, 6].Nodup by decide)) ?_
            exact k99_172    h
          · rw [if_neg c146] at h
            refine xW_lv rfl (l := [(0, xR_ (x0)), (1, xR_ (x1)), (2, xR_ (x2)), (3, xR_ (x3)), (4, xI (x4))]) (xsb_of ⟨rfl, rfl, rfl, rfl, rfl, trivial⟩ (show [0, 1, 2, 3, 4, 5, 6].Nodup by decide)) ?_
            exact k99_140   hx4 h
  · rw [if_neg c138] at h
    refine xe_alr (ins := .aload_n 3) (len := 1) (i := 3) (by decide +kernel) rfl rfl rfl rfl rfl ?_
    obtain ⟨v147, e148, h⟩ := xbnd h
    refine xs_gr (i := 34) (c := 1) (k := 12) (by decide +kernel) (by decide) (by decide +kernel) e148 rfl ?_
    refine xe_ldn (ins := .iload 6) (len := 2) (by decide +kernel) rfl rfl rfl rfl ?_
    obtain ⟨v149, e150, h⟩ := xbnd h
    refine xs_bald (by decide +kernel) hx6 e150 rfl ?_
    refine xe_ifeq (off := 48) (t := 89) (by decide +kernel) (by decide) rfl (xq_ab_in e150) (fun c151 => ?_) (fun c151 => ?_)
    · rw [if_pos c151] at h
      refine xW_lv rfl (l := [(0, xR_ (x0)), (1, xR_ (x1)), (2, xR_ (x2)), (3, xR_ (x3)), (4, xI (x4)), (5, xI (x5)), (6, xI (x6))]) (xsb_of ⟨rfl, rfl, rfl, rfl, rfl, rfl, rfl, trivial⟩ (show [0, 1, 2, 3, 4, 5, 6].Nodup by decide)) ?_
      exact k99_89  hr27 hx4 hx5 hx6 h
    · rw [if_neg c151] at h
      refine xe_alr (ins := .aload_n 2) (len := 1) (i := 2) (by decide +kernel) rfl rfl rfl rfl rfl ?_
      obtain ⟨v152, e153, h⟩ := xbnd h
      refine xs_gi (i := 40) (c := 2) (k := 5) (by decide +kernel) (by decide) (by decide +kernel) e153 rfl ?_
      refine xe_ifne (off := 17) (t := 65) (by decide +kernel) (by decide) rfl (xq_gi_in e153) (fun c154 => ?_) (fun c154 => ?_)
      · rw [if_pos c154] at h
        refine xW_lv rfl (l := [(0, xR_ (x0)), (1, xR_ (x1)), (2, xR_ (x2)), (3, xR_ (x3)), (4, xI (x4)), (5, xI (x5)), (6, xI (x6))]) (xsb_of ⟨rfl, rfl, rfl, rfl, rfl, rfl, rfl, trivial⟩ (show [0, 1, 2, 3, 4, 5, 6].Nodup by decide)) ?_
        exact k99_65  hr27 hx4 hx5 hx6 h
      · rw [if_neg c154] at h
        refine xe_alr (ins := .aload_n 2) (len := 1) (i := 2) (by decide +kernel) rfl rfl rfl rfl rfl ?_
        refine xe_alr (ins := .aload_n 1) (len := 1) (i := 1) (by decide +kernel) rfl rfl rfl rfl rfl ?_
        obtain ⟨v155, e156, h⟩ := xbnd h
        refine xs_gr (i := 25) (c := 2) (k := 2) (by decide +kernel) (by decide) (by decide +kernel) e156 rfl ?_
        obtain ⟨p157, e158, h⟩ := xbnd h
        refine xs_cl (i := 44) (kk := 5) (by decide +kernel) (by decide +kernel) (by unfold xj_sm; simp only [List.map_cons, List.map_nil, List.sum_cons, List.sum_nil, xR_cat, xI_cat, xZ_cat]; decide) e158 rfl ?_
        obtain ⟨_, e159, h⟩ := xbnd h
        refine xs_ca (i := 45) (kk := 5) (by decide +kernel) (by decide +kernel) e159 rfl ?_
        obtain ⟨M160, e161, h⟩ := xbnd h
        refine xs_p (i := 25) (c := 2) (k := 2) (by decide +kernel) (by decide +kernel) (by decide +kernel) e161 rfl ?_
        refine xW_lv rfl (l := [(0, xR_ (x0)), (1, xR_ (x1)), (2, xR_ (x2)), (3, xR_ (x3)), (4, xI (x4)), (5, xI (x5)), (6, xI (x6))]) (xsb_of ⟨rfl, rfl, rfl, rfl, rfl, rfl, rfl, trivial⟩ (show [0, 1, 2, 3, 4, 5, 6].Nodup by decide)) ?_
        exact k99_65  hr27 hx4 hx5 hx6 h
def f99_27   (f : Nat) : Nat → Nat → Nat → Nat → Nat → Int → Int → Int → xj_M → Option (xj_M)
  | 0, _, _, _, _, _, _, _, _ => none
  | n + 1, x0, x1, x2, x3, x4, x5, x6, M => f99_27b   (f99_27   f n) f x0 x1 x2 x3 x4 x5 x6 M
theorem k99_27 {d f : Nat}     : ∀ {n : Nat} {x0 : Nat} {x1 : Nat} {x2 : Nat} {x3 : Nat} {x4 : Int} {x5 : Int} {x6 : Int} {M : xj_M} {R : xj_M}, xin x4 → xin x5 → xin x6 → f99_27   f n x0 x1 x2 x3 x4 x5 x6 M = some R → xW (d + 5) (none, d + 5, none) xr_99 (27, [(0, xR_ x0), (1, xR_ x1), (2, xR_ x2), (3, xR_ x3), (4, xI x4), (5, xI x5), (6, xI x6)], [], M) (xQv R) := by
  intro n
  induction n with
  | zero => intros; rename_i h; cases h
  | succ n ih => intros; rename_i h; exact k99_27b   ih (by assumption) (by assumption) (by assumption) h
def f99  (f : Nat) (a0 : Nat) (a1 : Nat) (a2 : Nat) (a3 : Nat) (a4 : Int) (M : xj_M) : Option (xj_M) := ((xq_pr 7 0 (a0) (a2) M).bind fun M162 => ((xq_gr 2 2 (a1) M162).bind fun v164 => ((xq_pr 2 2 (a2) (v164) M162).bind fun M166 => ((xq_gr 2 3 (a1) M166).bind fun v168 => ((xq_pr 2 3 (a2) (v168) M166).bind fun M170 => f99_27   f f (a0) (a1) (a2) (a3) (a4) (0) (0) M170)))))
theorem k99 {d f : Nat}   {a0 : Nat} {a1 : Nat} {a2 : Nat} {a3 : Nat} {a4 : Int} {M : xj_M} {R : xj_M} (ha4 : xin a4) (h : f99  f a0 a1 a2 a3 a4 M = some R) : xT (d + 6) 99 [xR_ a0, xR_ a1, xR_ a2, xR_ a3, xI a4] M (xQv R) := by
  refine xT_m xr_99_e (X := (none, d + 5, none)) rfl (xa_1 (xR_cat _) (xa_1 (xR_cat _) (xa_1 (xR_cat _) (xa_1 (xR_cat _) (xa_1 (xI_cat _) xa_n))))) (by decide) ?_
  unfold f99 at h
  refine xe_alr (ins := .aload_n 0) (len := 1) (i := 0) (by decide +kernel) rfl rfl rfl rfl rfl ?_
  refine xe_alr (ins := .aload_n 2) (len := 1) (i := 2) (by decide +kernel) rfl rfl rfl rfl rfl ?_
  obtain ⟨M162, e163, h⟩ := xbnd h
  refine xs_p (i := 21) (c := 7) (k := 0) (by decide +kernel) (by decide +kernel) (by decide +kernel) e163 rfl ?_
  refine xe_alr (ins := .aload_n 2) (len := 1) (i := 2) (by decide +kernel) rfl rfl rfl rfl rfl ?_
  refine xe_alr (ins := .aload_n 1) (len := 1) (i := 1) (by decide +kernel) rfl rfl rfl rfl rfl ?_
  obtain ⟨v164, e165, h⟩ := xbnd h
  refine xs_gr (i := 25) (c := 2) (k := 2) (by decide +kernel) (by decide) (by decide +kernel) e165 rfl ?_
  obtain ⟨M166, e167, h⟩ := xbnd h
  refine xs_p (i := 25) (c := 2) (k := 2) (by decide +kernel) (by decide +kernel) (by decide +kernel) e167 rfl ?_
  refine xe_alr (ins := .aload_n 2) (len := 1) (i := 2) (by decide +kernel) rfl rfl rfl rfl rfl ?_
  refine xe_alr (ins := .aload_n 1) (len := 1) (i := 1) (by decide +kernel) rfl rfl rfl rfl rfl ?_
  obtain ⟨v168, e169, h⟩ := xbnd h
  refine xs_gr (i := 31) (c := 2) (k := 3) (by decide +kernel) (by decide) (by decide +kernel) e169 rfl ?_
  obtain ⟨M170, e171, h⟩ := xbnd h
  refine xs_p (i := 31) (c := 2) (k := 3) (by decide +kernel) (by decide +kernel) (by decide +kernel) e171 rfl ?_
  refine xe_iconst (n := 0) (by decide +kernel) rfl ?_
  refine xe_isr (ins := .istore 5) (len := 2) (i := 5) (by decide +kernel) rfl rfl rfl (by decide) (xk_k (show ¬ (0 : Nat) = 5 by decide) (Or.inl (show ¬ (0 + 1 : Nat) = 5 by decide)) (xk_k (show ¬ (1 : Nat) = 5 by decide) (Or.inl (show ¬ (1 + 1 : Nat) = 5 by decide)) (xk_k (show ¬ (2 : Nat) = 5 by decide) (Or.inl (show ¬ (2 + 1 : Nat) = 5 by decide)) (xk_k (show ¬ (3 : Nat) = 5 by decide) (Or.inl (show ¬ (3 + 1 : Nat) = 5 by decide)) (xk_k (show ¬ (4 : Nat) = 5 by decide) (Or.inr (xI_cat _)) xk_n))))) rfl ?_
  refine xe_iconst (n := 0) (by decide +kernel) rfl ?_
  refine xe_isr (ins := .istore 6) (len := 2) (i := 6) (by decide +kernel) rfl rfl rfl (by decide) (xk_k (show ¬ (5 : Nat) = 6 by decide) (Or.inr (xI_cat _)) (xk_k (show ¬ (0 : Nat) = 6 by decide) (Or.inl (show ¬ (0 + 1 : Nat) = 6 by decide)) (xk_k (show ¬ (1 : Nat) = 6 by decide) (Or.inl (show ¬ (1 + 1 : Nat) = 6 by decide)) (xk_k (show ¬ (2 : Nat) = 6 by decide) (Or.inl (show ¬ (2 + 1 : Nat) = 6 by decide)) (xk_k (show ¬ (3 : Nat) = 6 by decide) (Or.inl (show ¬ (3 + 1 : Nat) = 6 by decide)) (xk_k (show ¬ (4 : Nat) = 6 by decide) (Or.inl (show ¬ (4 + 1 : Nat) = 6 by decide)) xk_n)))))) rfl ?_
  refine xW_lv rfl (l := [(0, xR_ (a0)), (1, xR_ (a1)), (2, xR_ (a2)), (3, xR_ (a3)), (4, xI (a4)), (5, xI (0)), (6, xI (0))]) (xsb_of ⟨rfl, rfl, rfl, rfl, rfl, rfl, rfl, trivial⟩ (show [6, 5, 0, 1, 2, 3, 4].Nodup by decide)) ?_
  exact k99_27   ha4 (show xin (0) by decide) (show xin (0) by decide) h
-- ChangeHouse$Tape.split
def xr_112 : xj_mR := (8, yX8_split, cX8_split, 5, (Option.none : Option Jvm.ClassFile.FieldType), 0, false, (3, 123), (1, 2))
set_option maxRecDepth 20000 in
theorem xr_112_e : xj_row 112 = some xr_112 := rfl
def f112_93  (r13 : Nat → Int → Int → xj_M → Option (xj_M)) (f : Nat) (x0 : Nat) (x2 : Int) (x4 : Int) (M : xj_M) : Option (xj_M) := ((xq_is 8 (x0) M).bind fun _ => ((f113  f (x0) (x4) M).bind fun R103 => r13 (x0) (R103.1) (xwr ((x2) + (1))) R103.2))
theorem k112_93 {d f : Nat}  {r13 : Nat → Int → Int → xj_M → Option (xj_M)}  (hr13 : ∀ {x0 : Nat} {x1 : Int} {x2 : Int} {M : xj_M} {R : xj_M}, xin x1 → xin x2 → r13 x0 x1 x2 M = some R → xW (d + 7) (none, d + 7, none) xr_112 (13, [(0, xR_ x0), (1, xI x1), (2, xI x2)], [], M) (xQv R)) {x0 : Nat} {x2 : Int} {x4 : Int} {M : xj_M} {R : xj_M} (hx2 : xin x2) (hx4 : xin x4) (h : f112_93  r13 f x0 x2 x4 M = some R) : xW (d + 7) (none, d + 7, none) xr_112 (93, [(0, xR_ x0), (2, xI x2), (4, xI x4)], [], M) (xQv R) := by
  unfold f112_93 at h
  refine xe_alr (ins := .aload_n 0) (len := 1) (i := 0) (by decide +kernel) rfl rfl rfl rfl rfl ?_
  refine xe_ldn (ins := .iload 4) (len := 2) (by decide +kernel) rfl rfl rfl rfl ?_
  obtain ⟨_, e102, h⟩ := xbnd h
  obtain ⟨R103, e101, h⟩ := xbnd h
  refine xs_cv (i := 39) (j := 113) (ar := [xI (x4)]) (rest := []) (r2 := xr_113) (by decide +kernel) (by decide +kernel) (by decide +kernel) xr_113_e rfl (by decide) (by decide) e102 ?_
  refine xc_i (k113 (d := d + 6)  hx4 e101) rfl (fun hi104 => ?_)
  refine xe_isr (ins := .istore_n 1) (len := 1) (i := 1) (by decide +kernel) rfl rfl rfl (by decide) (xk_k (show ¬ (0 : Nat) = 1 by decide) (Or.inr (xR_cat _)) (xk_k (show ¬ (2 : Nat) = 1 by decide) (Or.inl (show ¬ (2 + 1 : Nat) = 1 by decide)) (xk_k (show ¬ (4 : Nat) = 1 by decide) (Or.inl (show ¬ (4 + 1 : Nat) = 1 by decide)) xk_n))) rfl ?_
  refine xe_iincr (i := 2) (n := 1) (by decide +kernel) (by decide) rfl (xk_k (show ¬ (1 : Nat) = 2 by decide) (Or.inr (xI_cat _)) (xk_k (show ¬ (0 : Nat) = 2 by decide) (Or.inl (show ¬ (0 + 1 : Nat) = 2 by decide)) (xk_d rfl (xk_k (show ¬ (4 : Nat) = 2 by decide) (Or.inl (show ¬ (4 + 1 : Nat) = 2 by decide)) xk_n)))) rfl ?_
  refine xe_goto (off := -90) (nx := 13) (by decide +kernel) (by decide) ?_
  refine xW_lv rfl (l := [(0, xR_ (x0)), (1, xI (R103.1)), (2, xI (xwr ((x2) + (1))))]) (xsb_of ⟨rfl, rfl, rfl, trivial⟩ (show [2, 1, 0, 4].Nodup by decide)) ?_
  exact hr13 hi104 (xin_wr _) h
def f112_106   (f : Nat) (x0 : Nat) (M : xj_M) : Option (xj_M) := ((xq_gi 8 1 (x0) M).bind fun v105 => ((xq_gi 8 1 (x0) M).bind fun v107 => ((xq_is 8 (x0) M).bind fun _ => ((f120  f (x0) (0) (v105) (v107) (0) M).bind fun M111 => (some M111)))))
theorem k112_106 {d f : Nat}     {x0 : Nat} {M : xj_M} {R : xj_M}  (h : f112_106   f x0 M = some R) : xW (d + 7) (none, d + 7, none) xr_112 (106, [(0, xR_ x0)], [], M) (xQv R) := by
  unfold f112_106 at h
  refine xe_alr (ins := .aload_n 0) (len := 1) (i := 0) (by decide +kernel) rfl rfl rfl rfl rfl ?_
  refine xe_iconst (n := 0) (by decide +kernel) rfl ?_
  refine xe_alr (ins := .aload_n 0) (len := 1) (i := 0) (by decide +kernel) rfl rfl rfl rfl rfl ?_
  obtain ⟨v105, e106, h⟩ := xbnd h
  refine xs_gi (i := 32) (c := 8) (k := 1) (by decide +kernel) (by decide) (by decide +kernel) e106 rfl ?_
  refine xe_alr (ins := .aload_n 0) (len := 1) (i := 0) (by decide +kernel) rfl rfl rfl rfl rfl ?_
  obtain ⟨v107, e108, h⟩ := xbnd h
  refine xs_gi (i := 32) (c := 8) (k := 1) (by decide +kernel) (by decide) (by decide +kernel) e108 rfl ?_
  refine xe_lconst (n := 0) (z := 0) (by decide +kernel) rfl rfl ?_
  obtain ⟨_, e110, h⟩ := xbnd h
  obtain ⟨M111, e109, h⟩ := xbnd h
  refine xs_cv (i := 65) (j := 120) (ar := [xZ (0), xI (v107), xI (v105), xI (0)]) (rest := []) (r2 := xr_120) (by decide +kernel) (by decide +kernel) (by decide +kernel) xr_120_e rfl (by decide) (by decide) e110 ?_
  refine xc_v (k120 (d := d + 6)  (show xin (0) by decide) (xq_gi_in e106) (xq_gi_in e108) (show xiN (0) by decide) e109) rfl ?_
  cases h
  exact xe_ret_v (by decide +kernel) rfl ⟨rfl, rfl⟩
def f112_13b  (r13 : Nat → Int → Int → xj_M → Option (xj_M)) (f : Nat) (x0 : Nat) (x1 : Int) (x2 : Int) (M : xj_M) : Option (xj_M) := (if (3000) ≤ (x2) then f112_106   f (x0) M else ((xq_gi 8 1 (x0) M).bind fun v114 => (if (v114) ≤ (x1) then f112_106   f (x0) M else ((xq_gr 8 0 (x0) M).bind fun v117 => ((xq_ai 2 (v117) (x1) M).bind fun v119 => ((f121  f (v119) M).bind fun R122 => (if (R122.1) = 0 then ((f122  f (v119) R122.2).bind fun R126 => (if (R126.1) = 0 then ((f123  f (v119) R126.2).bind fun R130 => (if (R130.1) = 0 then ((xq_is 8 (x0) R130.2).bind fun _ => ((f119  f (x0) (x1) R130.2).bind fun R135 => f112_93  r13 f (x0) (x2) (R135.1) R135.2)) else ((xq_is 8 (x0) R130.2).bind fun _ => ((f118  f (x0) (x1) R130.2).bind fun R139 => f112_93  r13 f (x0) (x2) (R139.1) R139.2)))) else ((xq_is 8 (x0) R126.2).bind fun _ => ((f117  f (x0) (x1) R126.2).bind fun R143 => f112_93  r13 f (x0) (x2) (R143.1) R143.2)))) else ((xq_is 8 (x0) R122.2).bind fun _ => ((f114  f (x0) (x1) R122.2).bind fun R147 => f112_93  r13 f (x0) (x2) (R147.1) R147.2)))))))))
theorem k112_13b {d f : Nat}  {r13 : Nat → Int → Int → xj_M → Option (xj_M)}  (hr13 : ∀ {x0 : Nat} {x1 : Int} {x2 : Int} {M : xj_M} {R : xj_M}, xin x1 → xin x2 → r13 x0 x1 x2 M = some R → xW (d + 7) (none, d + 7, none) xr_112 (13, [(0, xR_ x0), (1, xI x1), (2, xI x2)], [], M) (xQv R)) {x0 : Nat} {x1 : Int} {x2 : Int} {M : xj_M} {R : xj_M} (hx1 : xin x1) (hx2 : xin x2) (h : f112_13b  r13 f x0 x1 x2 M = some R) : xW (d + 7) (none, d + 7, none) xr_112 (13, [(0, xR_ x0), (1, xI x1), (2, xI x2)], [], M) (xQv R) := by
  unfold f112_13b at h
  refine xe_ldn (ins := .iload_n 2) (len := 1) (by decide +kernel) rfl rfl rfl rfl ?_
  refine xe_sipush (n := 3000) (by decide +kernel) (by decide) rfl ?_
  refine xe_icmpge (off := 89) (t := 106) (by decide +kernel) (by decide) rfl hx2 (show xin (3000) by decide) (fun c113 => ?_) (fun c113 => ?_)
  · rw [if_pos c113] at h
    refine xW_lv rfl (l := [(0, xR_ (x0))]) (xsb_of ⟨rfl, trivial⟩ (show [0, 1, 2].Nodup by decide)) ?_
    exact k112_106    h
  · rw [if_neg c113] at h
    refine xe_ldn (ins := .iload_n 1) (len := 1) (by decide +kernel) rfl rfl rfl rfl ?_
    refine xe_alr (ins := .aload_n 0) (len := 1) (i := 0) (by decide +kernel) rfl rfl rfl rfl rfl ?_
    obtain ⟨v114, e115, h⟩ := xbnd h
    refine xs_gi (i := 32) (c := 8) (k := 1) (by decide +kernel) (by decide) (by decide +kernel) e115 rfl ?_
    refine xe_icmpge (off := 81) (t := 106) (by decide +kernel) (by decide) rfl hx1 (xq_gi_in e115) (fun c116 => ?_) (fun c116 => ?_)
    · rw [if_pos c116] at h
      refine xW_lv rfl (l := [(0, xR_ (x0))]) (xsb_of ⟨rfl, trivial⟩ (show [0, 1, 2].Nodup by decide)) ?_
      exact k112_106    h
    · rw [if_neg c116] at h
      refine xe_alr (ins := .aload_n 0) (len := 1) (i := 0) (by decide +kernel) rfl rfl rfl rfl rfl ?_
      obtain ⟨v117, e118, h⟩ := xbnd h
      refine xs_gr (i := 9) (c := 8) (k := 0) (by decide +kernel) (by decide) (by decide +kernel) e118 rfl ?_
      refine xe_ldn (ins := .iload_n 1) (len := 1) (by decide +kernel) rfl rfl rfl rfl ?_
      obtain ⟨v119, e120, h⟩ := xbnd h
      refine xs_cald (by decide +kernel) hx1 e120 rfl ?_
      refine xe_isr (ins := .istore_n 3) (len := 1) (i := 3) (by decide +kernel) rfl rfl rfl (by decide) (xk_k (show ¬ (0 : Nat) = 3 by decide) (Or.inl (show ¬ (0 + 1 : Nat) = 3 by decide)) (xk_k (show ¬ (1 : Nat) = 3 by decide) (Or.inl (show ¬ (1 + 1 : Nat) = 3 by decide)) (xk_k (show ¬ (2 : Nat) = 3 by decide) (Or.inr (xI_cat _)) xk_n))) rfl ?_
      refine xe_ldn (ins := .iload_n 3) (len := 1) (by decide +kernel) rfl rfl rfl rfl ?_
      obtain ⟨R122, e121, h⟩ := xbnd h
      refine xs_cs (kd := 2) (by decide) (i := 43) (j := 121) (ar := [xI (v119)]) (rest := []) (r2 := xr_121) (by decide +kernel) (by decide +kernel) (by decide +kernel) xr_121_e rfl (by decide) ?_
      refine xc_i (k121 (d := d + 6)  (xq_ai_in e120) e121) rfl (fun hi123 => ?_)
      refine xe_ifeq (off := 13) (t := 52) (by decide +kernel) (by decide) rfl hi123 (fun c124 => ?_) (fun c124 => ?_)
      · rw [if_pos c124] at h
        refine xe_ldn (ins := .iload_n 3) (len := 1) (by decide +kernel) rfl rfl rfl rfl ?_
        obtain ⟨R126, e125, h⟩ := xbnd h
        refine xs_cs (kd := 2) (by decide) (i := 50) (j := 122) (ar := [xI (v119)]) (rest := []) (r2 := xr_122) (by decide +kernel) (by decide +kernel) (by decide +kernel) xr_122_e rfl (by decide) ?_
        refine xc_i (k122 (d := d + 6)  (xq_ai_in e120) e125) rfl (fun hi127 => ?_)
        refine xe_ifeq (off := 13) (t := 69) (by decide +kernel) (by decide) rfl hi127 (fun c128 => ?_) (fun c128 => ?_)
        · rw [if_pos c128] at h
          refine xe_ldn (ins := .iload_n 3) (len := 1) (by decide +kernel) rfl rfl rfl rfl ?_
          obtain ⟨R130, e129, h⟩ := xbnd h
          refine xs_cs (kd := 2) (by decide) (i := 56) (j := 123) (ar := [xI (v119)]) (rest := []) (r2 := xr_123) (by decide +kernel) (by decide +kernel) (by decide +kernel) xr_123_e rfl (by decide) ?_
          refine xc_i (k123 (d := d + 6)  (xq_ai_in e120) e129) rfl (fun hi131 => ?_)
          refine xe_ifeq (off := 13) (t := 86) (by decide +kernel) (by decide) rfl hi131 (fun c132 => ?_) (fun c132 => ?_)
          · rw [if_pos c132] at h
            refine xe_alr (ins := .aload_n 0) (len := 1) (i := 0) (by decide +kernel) rfl rfl rfl rfl rfl ?_
            refine xe_ldn (ins := .iload_n 1) (len := 1) (by decide +kernel) rfl rfl rfl rfl ?_
            obtain ⟨_, e134, h⟩ := xbnd h
            obtain ⟨R135, e133, h⟩ := xbnd h
            refine xs_cv (i := 62) (j := 119) (ar := [xI (x1)]) (rest := []) (r2 := xr_119) (by decide +kernel) (by decide +kernel) (by decide +kernel) xr_119_e rfl (by decide) (by decide) e134 ?_
            refine xc_i (k119 (d := d + 2)  hx1 e133) rfl (fun hi136 => ?_)
            refine xe_isr (ins := .istore 4) (len := 2) (i := 4) (by decide +kernel) rfl rfl rfl (by decide) (xk_k (show ¬ (3 : Nat) = 4 by decide) (Or.inr (xI_cat _)) (xk_k (show ¬ (0 : Nat) = 4 by decide) (Or.inl (show ¬ (0 + 1 : Nat) = 4 by decide)) (xk_k (show ¬ (1 : Nat) = 4 by decide) (Or.inl (show ¬ (1 + 1 : Nat) = 4 by decide)) (xk_k (show ¬ (2 : Nat) = 4 by decide) (Or.inl (show ¬ (2 + 1 : Nat) = 4 by decide)) xk_n)))) rfl ?_
            refine xW_lv rfl (l := [(0, xR_ (x0)), (2, xI (x2)), (4, xI (R135.1))]) (xsb_of ⟨rfl, rfl, rfl, trivial⟩ (show [4, 3, 0, 1, 2].Nodup by decide)) ?_
            exact k112_93  hr13 hx2 hi136 h
          · rw [if_neg c132] at h
            refine xe_alr (ins := .aload_n 0) (len := 1) (i := 0) (by decide +kernel) rfl rfl rfl rfl rfl ?_
            refine xe_ldn (ins := .iload_n 1) (len := 1) (by decide +kernel) rfl rfl rfl rfl ?_
            obtain ⟨_, e138, h⟩ := xbnd h
            obtain ⟨R139, e137, h⟩ := xbnd h
            refine xs_cv (i := 59) (j := 118) (ar := [xI (x1)]) (rest := []) (r2 := xr_118) (by decide +kernel) (by decide +kernel) (by decide +kernel) xr_118_e rfl (by decide) (by decide) e138 ?_
            refine xc_i (k118 (d := d + 5)  hx1 e137) rfl (fun hi140 => ?_)
            refine xe_isr (ins := .istore 4) (len := 2) (i := 4) (by decide +kernel) rfl rfl rfl (by decide) (xk_k (show ¬ (3 : Nat) = 4 by decide) (Or.inr (xI_cat _)) (xk_k (show ¬ (0 : Nat) = 4 by decide) (Or.inl (show ¬ (0 + 1 : Nat) = 4 by decide)) (xk_k (show ¬ (1 : Nat) = 4 by decide) (Or.inl (show ¬ (1 + 1 : Nat) = 4 by decide)) (xk_k (show ¬ (2 : Nat) = 4 by decide) (Or.inl (show ¬ (2 + 1 : Nat) = 4 by decide)) xk_n)))) rfl ?_
            refine xe_goto (off := 10) (nx := 93) (by decide +kernel) (by decide) ?_
            refine xW_lv rfl (l := [(0, xR_ (x0)), (2, xI (x2)), (4, xI (R139.1))]) (xsb_of ⟨rfl, rfl, rfl, trivial⟩ (show [4, 3, 0, 1, 2].Nodup by decide)) ?_
            exact k112_93  hr13 hx2 hi140 h
        · rw [if_neg c128] at h
          refine xe_alr (ins := .aload_n 0) (len := 1) (i := 0) (by decide +kernel) rfl rfl rfl rfl rfl ?_
          refine xe_ldn (ins := .iload_n 1) (len := 1) (by decide +kernel) rfl rfl rfl rfl ?_
          obtain ⟨_, e142, h⟩ := xbnd h
          obtain ⟨R143, e141, h⟩ := xbnd h
          refine xs_cv (i := 53) (j := 117) (ar := [xI (x1)]) (rest := []) (r2 := xr_117) (by decide +kernel) (by decide +kernel) (by decide +kernel) xr_117_e rfl (by decide) (by decide) e142 ?_
          refine xc_i (k117 (d := d + 4)  hx1 e141) rfl (fun hi144 => ?_)
          refine xe_isr (ins := .istore 4) (len := 2) (i := 4) (by decide +kernel) rfl rfl rfl (by decide) (xk_k (show ¬ (3 : Nat) = 4 by decide) (Or.inr (xI_cat _)) (xk_k (show ¬ (0 : Nat) = 4 by decide) (Or.inl (show ¬ (0 + 1 : Nat) = 4 by decide)) (xk_k (show ¬ (1 : Nat) = 4 by decide) (Or.inl (show ¬ (1 + 1 : Nat) = 4 by decide)) (xk_k (show ¬ (2 : Nat) = 4 by decide) (Or.inl (show ¬ (2 + 1 : Nat) = 4 by decide)) xk_n)))) rfl ?_
          refine xe_goto (off := 27) (nx := 93) (by decide +kernel) (by decide) ?_
          refine xW_lv rfl (l := [(0, xR_ (x0)), (2, xI (x2)), (4, xI (R143.1))]) (xsb_of ⟨rfl, rfl, rfl, trivial⟩ (show [4, 3, 0, 1, 2].Nodup by decide)) ?_
          exact k112_93  hr13 hx2 hi144 h
      · rw [if_neg c124] at h
        refine xe_alr (ins := .aload_n 0) (len := 1) (i := 0) (by decide +kernel) rfl rfl rfl rfl rfl ?_
        refine xe_ldn (ins := .iload_n 1) (len := 1) (by decide +kernel) rfl rfl rfl rfl ?_
        obtain ⟨_, e146, h⟩ := xbnd h
        obtain ⟨R147, e145, h⟩ := xbnd h
        refine xs_cv (i := 47) (j := 114) (ar := [xI (x1)]) (rest := []) (r2 := xr_114) (by decide +kernel) (by decide +kernel) (by decide +kernel) xr_114_e rfl (by decide) (by decide) e146 ?_
        refine xc_i (k114 (d := d + 0)  hx1 e145) rfl (fun hi148 => ?_)
        refine xe_isr (ins := .istore 4) (len := 2) (i := 4) (by decide +kernel) rfl rfl rfl (by decide) (xk_k (show ¬ (3 : Nat) = 4 by decide) (Or.inr (xI_cat _)) (xk_k (show ¬ (0 : Nat) = 4 by decide) (Or.inl (show ¬ (0 + 1 : Nat) = 4 by decide)) (xk_k (show ¬ (1 : Nat) = 4 by decide) (Or.inl (show ¬ (1 + 1 : Nat) = 4 by decide)) (xk_k (show ¬ (2 : Nat) = 4 by decide) (Or.inl (show ¬ (2 + 1 : Nat) = 4 by decide)) xk_n)))) rfl ?_
        refine xe_goto (off := 44) (nx := 93) (by decide +kernel) (by decide) ?_
        refine xW_lv rfl (l := [(0, xR_ (x0)), (2, xI (x2)), (4, xI (R147.1))]) (xsb_of ⟨rfl, rfl, rfl, trivial⟩ (show [4, 3, 0, 1, 2].Nodup by decide)) ?_
        exact k112_93  hr13 hx2 hi148 h
def f112_13   (f : Nat) : Nat → Nat → Int → Int → xj_M → Option (xj_M)
  | 0, _, _, _, _ => none
  | n + 1, x0, x1, x2, M => f112_13b   (f112_13   f n) f x0 x1 x2 M
theorem k112_13 {d f : Nat}     : ∀ {n : Nat} {x0 : Nat} {x1 : Int} {x2 : Int} {M : xj_M} {R : xj_M}, xin x1 → xin x2 → f112_13   f n x0 x1 x2 M = some R → xW (d + 7) (none, d + 7, none) xr_112 (13, [(0, xR_ x0), (1, xI x1), (2, xI x2)], [], M) (xQv R) := by
  intro n
  induction n with
  | zero => intros; rename_i h; cases h
  | succ n ih => intros; rename_i h; exact k112_13b   ih (by assumption) (by assumption) h
def f112  (f : Nat) (a0 : Nat) (M : xj_M) : Option (xj_M) := ((xq_pi 8 2 (a0) (0) M).bind fun M149 => ((xq_is 8 (a0) M149).bind fun _ => ((f113  f (a0) (0) M149).bind fun R153 => f112_13   f f (a0) (R153.1) (0) R153.2)))
theorem k112 {d f : Nat}   {a0 : Nat} {M : xj_M} {R : xj_M}  (h : f112  f a0 M = some R) : xT (d + 8) 112 [xR_ a0] M (xQv R) := by
  refine xT_m xr_112_e (X := (none, d + 7, none)) rfl (xa_1 (xR_cat _) xa_n) (by decide) ?_
  unfold f112 at h
  refine xe_alr (ins := .aload_n 0) (len := 1) (i := 0) (by decide +kernel) rfl rfl rfl rfl rfl ?_
  refine xe_iconst (n := 0) (by decide +kernel) rfl ?_
  obtain ⟨M149, e150, h⟩ := xbnd h
  refine xs_p (i := 36) (c := 8) (k := 2) (by decide +kernel) (by decide +kernel) (by decide +kernel) e150 rfl ?_
  refine xe_alr (ins := .aload_n 0) (len := 1) (i := 0) (by decide +kernel) rfl rfl rfl rfl rfl ?_
  refine xe_iconst (n := 0) (by decide +kernel) rfl ?_
  obtain ⟨_, e152, h⟩ := xbnd h
  obtain ⟨R153, e151, h⟩ := xbnd h
  refine xs_cv (i := 39) (j := 113) (ar := [xI (0)]) (rest := []) (r2 := xr_113) (by decide +kernel) (by decide +kernel) (by decide +kernel) xr_113_e rfl (by decide) (by decide) e152 ?_
  refine xc_i (k113 (d := d + 6)  (show xin (0) by decide) e151) rfl (fun hi154 => ?_)
  refine xe_isr (ins := .istore_n 1) (len := 1) (i := 1) (by decide +kernel) rfl rfl rfl (by decide) (xk_k (show ¬ (0 : Nat) = 1 by decide) (Or.inr (xR_cat _)) xk_n) rfl ?_
  refine xe_iconst (n := 0) (by decide +kernel) rfl ?_
  refine xe_isr (ins := .istore_n 2) (len := 1) (i := 2) (by decide +kernel) rfl rfl rfl (by decide) (xk_k (show ¬ (1 : Nat) = 2 by decide) (Or.inr (xI_cat _)) (xk_k (show ¬ (0 : Nat) = 2 by decide) (Or.inl (show ¬ (0 + 1 : Nat) = 2 by decide)) xk_n)) rfl ?_
  refine xW_lv rfl (l := [(0, xR_ (a0)), (1, xI (R153.1)), (2, xI (0))]) (xsb_of ⟨rfl, rfl, rfl, trivial⟩ (show [2, 1, 0].Nodup by decide)) ?_
  exact k112_13   hi154 (show xin (0) by decide) h
-- ChangeHouse.round
def xr_173 : xj_mR := (11, yX11_round, cX11_round, 7, (Option.some Jvm.ClassFile.FieldType.int), 0, false, (6, 73), (1, 1))
set_option maxRecDepth 20000 in
theorem xr_173_e : xj_row 173 = some xr_173 := rfl
def f173_127   (f : Nat) (x0 : Nat) (x1 : Nat) (x2 : Nat) (x3 : Int) (x5 : Int) (M : xj_M) : Option (Int × xj_M) := (if ¬ (x5) = 0 then ((xq_gr 11 3 (x0) M).bind fun v102 => ((xq_is 10 (v102) M).bind fun _ => ((f162  f (v102) (x2) (x3) M).bind fun R106 => ((xq_gr 11 4 (x0) R106.2).bind fun v108 => ((xq_gr 11 3 (x0) R106.2).bind fun v110 => ((xq_gi 10 13 (v110) R106.2).bind fun v112 => ((xq_is 7 (v108) R106.2).bind fun _ => ((f99  f (v108) (x2) (R106.1) (x1) (v112) R106.2).bind fun M116 => ((xq_gr 11 3 (x0) M116).bind fun v118 => ((xq_gi 10 14 (v118) M116).bind fun v120 => ((xq_is 1 (x1) M116).bind fun _ => ((f10  f (x1) (v120) (x3) M116).bind fun M124 => ((xq_is 1 (x1) M124).bind fun _ => ((f11  f (x1) (R106.1) M124).bind fun M128 => ((xq_is 1 (x1) M128).bind fun _ => ((f7  f (x1) M128).bind fun M132 => ((xq_pr 11 12 (x0) (x2) M132).bind fun M134 => ((xq_pr 11 13 (x0) (R106.1) M134).bind fun M136 => ((xq_gi 2 4 (R106.1) M136).bind fun v138 => (some (v138, M136))))))))))))))))))))) else ((xq_gi 11 8 (x0) M).bind fun v140 => ((xq_pi 11 8 (x0) (xwr ((v140) + (1))) M).bind fun M142 => ((xq_is 1 (x1) M142).bind fun _ => ((f7  f (x1) M142).bind fun M146 => (some (-1, M146)))))))
theorem k173_127 {d f : Nat}     {x0 : Nat} {x1 : Nat} {x2 : Nat} {x3 : Int} {x5 : Int} {M : xj_M} {R : Int × xj_M} (hx3 : xin x3) (hx5 : xin x5) (h : f173_127   f x0 x1 x2 x3 x5 M = some R) : xW (d + 7) (none, d + 7, none) xr_173 (127, [(0, xR_ x0), (1, xR_ x1), (2, xR_ x2), (3, xI x3), (5, xI x5)], [], M) (xQi R) := by
  unfold f173_127 at h
  refine xe_ldn (ins := .iload 5) (len := 2) (by decide +kernel) rfl rfl rfl rfl ?_
  refine xe_ifne (off := 19) (t := 148) (by decide +kernel) (by decide) rfl hx5 (fun c101 => ?_) (fun c101 => ?_)
  · rw [if_pos c101] at h
    refine xe_alr (ins := .aload_n 0) (len := 1) (i := 0) (by decide +kernel) rfl rfl rfl rfl rfl ?_
    obtain ⟨v102, e103, h⟩ := xbnd h
    refine xs_gr (i := 37) (c := 11) (k := 3) (by decide +kernel) (by decide) (by decide +kernel) e103 rfl ?_
    refine xe_alr (ins := .aload_n 2) (len := 1) (i := 2) (by decide +kernel) rfl rfl rfl rfl rfl ?_
    refine xe_ldn (ins := .iload_n 3) (len := 1) (by decide +kernel) rfl rfl rfl rfl ?_
    obtain ⟨_, e105, h⟩ := xbnd h
    obtain ⟨R106, e104, h⟩ := xbnd h
    refine xs_cv (i := 219) (j := 162) (ar := [xI (x3), xR_ (x2)]) (rest := []) (r2 := xr_162) (by decide +kernel) (by decide +kernel) (by decide +kernel) xr_162_e rfl (by decide) (by decide) e105 ?_
    refine xc_r (k162 (d := d + 3)  hx3 e104) rfl ?_
    refine xe_asr (ins := .astore 6) (len := 2) (i := 6) (by decide +kernel) rfl rfl rfl (by decide) (xk_k (show ¬ (0 : Nat) = 6 by decide) (Or.inl (show ¬ (0 + 1 : Nat) = 6 by decide)) (xk_k (show ¬ (1 : Nat) = 6 by decide) (Or.inl (show ¬ (1 + 1 : Nat) = 6 by decide)) (xk_k (show ¬ (2 : Nat) = 6 by decide) (Or.inl (show ¬ (2 + 1 : Nat) = 6 by decide)) (xk_k (show ¬ (3 : Nat) = 6 by decide) (Or.inl (show ¬ (3 + 1 : Nat) = 6 by decide)) (xk_k (show ¬ (5 : Nat) = 6 by decide) (Or.inr (xI_cat _)) xk_n))))) rfl ?_
    refine xe_alr (ins := .aload_n 0) (len := 1) (i := 0) (by decide +kernel) rfl rfl rfl rfl rfl ?_
    obtain ⟨v108, e109, h⟩ := xbnd h
    refine xs_gr (i := 44) (c := 11) (k := 4) (by decide +kernel) (by decide) (by decide +kernel) e109 rfl ?_
    refine xe_alr (ins := .aload_n 2) (len := 1) (i := 2) (by decide +kernel) rfl rfl rfl rfl rfl ?_
    refine xe_alr (ins := .aload 6) (len := 2) (i := 6) (by decide +kernel) rfl rfl rfl rfl rfl ?_
    refine xe_alr (ins := .aload_n 1) (len := 1) (i := 1) (by decide +kernel) rfl rfl rfl rfl rfl ?_
    refine xe_alr (ins := .aload_n 0) (len := 1) (i := 0) (by decide +kernel) rfl rfl rfl rfl rfl ?_
    obtain ⟨v110, e111, h⟩ := xbnd h
    refine xs_gr (i := 37) (c := 11) (k := 3) (by decide +kernel) (by decide) (by decide +kernel) e111 rfl ?_
    obtain ⟨v112, e113, h⟩ := xbnd h
    refine xs_gi (i := 223) (c := 10) (k := 13) (by decide +kernel) (by decide) (by decide +kernel) e113 rfl ?_
    obtain ⟨_, e115, h⟩ := xbnd h
    obtain ⟨M116, e114, h⟩ := xbnd h
    refine xs_cv (i := 226) (j := 99) (ar := [xI (v112), xR_ (x1), xR_ (R106.1), xR_ (x2)]) (rest := []) (r2 := xr_99) (by decide +kernel) (by decide +kernel) (by decide +kernel) xr_99_e rfl (by decide) (by decide) e115 ?_
    refine xc_v (k99 (d := d + 1)  (xq_gi_in e113) e114) rfl ?_
    refine xe_alr (ins := .aload_n 1) (len := 1) (i := 1) (by decide +kernel) rfl rfl rfl rfl rfl ?_
    refine xe_alr (ins := .aload_n 0) (len := 1) (i := 0) (by decide +kernel) rfl rfl rfl rfl rfl ?_
    obtain ⟨v118, e119, h⟩ := xbnd h
    refine xs_gr (i := 37) (c := 11) (k := 3) (by decide +kernel) (by decide) (by decide +kernel) e119 rfl ?_
    obtain ⟨v120, e121, h⟩ := xbnd h
    refine xs_gi (i := 230) (c := 10) (k := 14) (by decide +kernel) (by decide) (by decide +kernel) e121 rfl ?_
    refine xe_ldn (ins := .iload_n 3) (len := 1) (by decide +kernel) rfl rfl rfl rfl ?_
    obtain ⟨_, e123, h⟩ := xbnd h
    obtain ⟨M124, e122, h⟩ := xbnd h
    refine xs_cv (i := 233) (j := 10) (ar := [xI (x3), xI (v120)]) (rest := []) (r2 := xr_10) (by decide +kernel) (by decide +kernel) (by decide +kernel) xr_10_e rfl (by decide) (by decide) e123 ?_
    refine xc_v (k10 (d := d + 6)  (xq_gi_in e121) hx3 e122) rfl ?_
    refine xe_alr (ins := .aload_n 1) (len := 1) (i := 1) (by decide +kernel) rfl rfl rfl rfl rfl ?_
    refine xe_alr (ins := .aload 6) (len := 2) (i := 6) (by decide +kernel) rfl rfl rfl rfl rfl ?_
    obtain ⟨_, e127, h⟩ := xbnd h
    obtain ⟨M128, e126, h⟩ := xbnd h
    refine xs_cv (i := 237) (j := 11) (ar := [xR_ (R106.1)]) (rest := []) (r2 := xr_11) (by decide +kernel) (by decide +kernel) (by decide +kernel) xr_11_e rfl (by decide) (by decide) e127 ?_
    refine xc_v (k11 (d := d + 6)   e126) rfl ?_
    refine xe_alr (ins := .aload_n 1) (len := 1) (i := 1) (by decide +kernel) rfl rfl rfl rfl rfl ?_
    obtain ⟨_, e131, h⟩ := xbnd h
    obtain ⟨M132, e130, h⟩ := xbnd h
    refine xs_cv (i := 192) (j := 7) (ar := []) (rest := []) (r2 := xr_7) (by decide +kernel) (by decide +kernel) (by decide +kernel) xr_7_e rfl (by decide) (by decide) e131 ?_
    refine xc_v (k7 (d := d + 6)   e130) rfl ?_
    refine xe_alr (ins := .aload_n 0) (len := 1) (i := 0) (by decide +kernel) rfl rfl rfl rfl rfl ?_
    refine xe_alr (ins := .aload_n 2) (len := 1) (i := 2) (by decide +kernel) rfl rfl rfl rfl rfl ?_
    obtain ⟨M134, e135, h⟩ := xbnd h
    refine xs_p (i := 240) (c := 11) (k := 12) (by decide +kernel) (by decide +kernel) (by decide +kernel) e135 rfl ?_
    refine xe_alr (ins := .aload_n 0) (len := 1) (i := 0) (by decide +kernel) rfl rfl rfl rfl rfl ?_
    refine xe_alr (ins := .aload 6) (len := 2) (i := 6) (by decide +kernel) rfl rfl rfl rfl rfl ?_
    obtain ⟨M136, e137, h⟩ := xbnd h
    refine xs_p (i := 244) (c := 11) (k := 13) (by decide +kernel) (by decide +kernel) (by decide +kernel) e137 rfl ?_
    refine xe_alr (ins := .aload 6) (len := 2) (i := 6) (by decide +kernel) rfl rfl rfl rfl rfl ?_
    obtain ⟨v138, e139, h⟩ := xbnd h
    refine xs_gi (i := 247) (c := 2) (k := 4) (by decide +kernel) (by decide) (by decide +kernel) e139 rfl ?_
    cases h
    exact xe_ret_i (ty := .int) (by decide +kernel) rfl rfl ⟨rfl, rfl, (xq_gi_in e139)⟩
  · rw [if_neg c101] at h
    refine xe_alr (ins := .aload_n 0) (len := 1) (i := 0) (by decide +kernel) rfl rfl rfl rfl rfl ?_
    refine xe_dupr (by decide +kernel) rfl ?_
    obtain ⟨v140, e141, h⟩ := xbnd h
    refine xs_gi (i := 216) (c := 11) (k := 8) (by decide +kernel) (by decide) (by decide +kernel) e141 rfl ?_
    refine xe_iconst (n := 1) (by decide +kernel) rfl ?_
    refine xe_iadd (by decide +kernel) rfl ?_
    obtain ⟨M142, e143, h⟩ := xbnd h
    refine xs_p (i := 216) (c := 11) (k := 8) (by decide +kernel) (by decide +kernel) (by decide +kernel) e143 rfl ?_
    refine xe_alr (ins := .aload_n 1) (len := 1) (i := 1) (by decide +kernel) rfl rfl rfl rfl rfl ?_
    obtain ⟨_, e145, h⟩ := xbnd h
    obtain ⟨M146, e144, h⟩ := xbnd h
    refine xs_cv (i := 192) (j := 7) (ar := []) (rest := []) (r2 := xr_7) (by decide +kernel) (by decide +kernel) (by decide +kernel) xr_7_e rfl (by decide) (by decide) e145 ?_
    refine xc_v (k7 (d := d + 6)   e144) rfl ?_
    refine xe_iconst (n := -1) (by decide +kernel) rfl ?_
    cases h
    exact xe_ret_i (ty := .int) (by decide +kernel) rfl rfl ⟨rfl, rfl, (show xin (-1) by decide)⟩
def f173_88b  (r88 : Nat → Nat → Nat → Int → Nat → Int → Int → xj_M → Option (Int × xj_M)) (f : Nat) (x0 : Nat) (x1 : Nat) (x2 : Nat) (x3 : Int) (x4 : Nat) (x5 : Int) (x6 : Int) (M : xj_M) : Option (Int × xj_M) := (if (x5) = 0 then f173_127   f (x0) (x1) (x2) (x3) (x5) M else ((xq_gi 3 12 (x4) M).bind fun v149 => (if (v149) ≤ (x6) then f173_127   f (x0) (x1) (x2) (x3) (x5) M else ((xq_gr 11 3 (x0) M).bind fun v152 => ((xq_gr 3 11 (x4) M).bind fun v154 => ((xq_ai 3 (v154) (x6) M).bind fun v156 => ((xq_is 10 (v152) M).bind fun _ => ((f149  f (v152) (v156) (x3) M).bind fun R160 => r88 (x0) (x1) (x2) (x3) (x4) (R160.1) (xwr ((x6) + (1))) R160.2))))))))
theorem k173_88b {d f : Nat}  {r88 : Nat → Nat → Nat → Int → Nat → Int → Int → xj_M → Option (Int × xj_M)}  (hr88 : ∀ {x0 : Nat} {x1 : Nat} {x2 : Nat} {x3 : Int} {x4 : Nat} {x5 : Int} {x6 : Int} {M : xj_M} {R : Int × xj_M}, xin x3 → xin x5 → xin x6 → r88 x0 x1 x2 x3 x4 x5 x6 M = some R → xW (d + 7) (none, d + 7, none) xr_173 (88, [(0, xR_ x0), (1, xR_ x1), (2, xR_ x2), (3, xI x3), (4, xR_ x4), (5, xI x5), (6, xI x6)], [], M) (xQi R)) {x0 : Nat} {x1 : Nat} {x2 : Nat} {x3 : Int} {x4 : Nat} {x5 : Int} {x6 : Int} {M : xj_M} {R : Int × xj_M} (hx3 : xin x3) (hx5 : xin x5) (hx6 : xin x6) (h : f173_88b  r88 f x0 x1 x2 x3 x4 x5 x6 M = some R) : xW (d + 7) (none, d + 7, none) xr_173 (88, [(0, xR_ x0), (1, xR_ x1), (2, xR_ x2), (3, xI x3), (4, xR_ x4), (5, xI x5), (6, xI x6)], [], M) (xQi R) := by
  unfold f173_88b at h
  refine xe_ldn (ins := .iload 5) (len := 2) (by decide +kernel) rfl rfl rfl rfl ?_
  refine xe_ifeq (off := 37) (t := 127) (by decide +kernel) (by decide) rfl hx5 (fun c148 => ?_) (fun c148 => ?_)
  · rw [if_pos c148] at h
    refine xW_lv rfl (l := [(0, xR_ (x0)), (1, xR_ (x1)), (2, xR_ (x2)), (3, xI (x3)), (5, xI (x5))]) (xsb_of ⟨rfl, rfl, rfl, rfl, rfl, trivial⟩ (show [0, 1, 2, 3, 4, 5, 6].Nodup by decide)) ?_
    exact k173_127   hx3 hx5 h
  · rw [if_neg c148] at h
    refine xe_ldn (ins := .iload 6) (len := 2) (by decide +kernel) rfl rfl rfl rfl ?_
    refine xe_alr (ins := .aload 4) (len := 2) (i := 4) (by decide +kernel) rfl rfl rfl rfl rfl ?_
    obtain ⟨v149, e150, h⟩ := xbnd h
    refine xs_gi (i := 206) (c := 3) (k := 12) (by decide +kernel) (by decide) (by decide +kernel) e150 rfl ?_
    refine xe_icmpge (off := 27) (t := 127) (by decide +kernel) (by decide) rfl hx6 (xq_gi_in e150) (fun c151 => ?_) (fun c151 => ?_)
    · rw [if_pos c151] at h
      refine xW_lv rfl (l := [(0, xR_ (x0)), (1, xR_ (x1)), (2, xR_ (x2)), (3, xI (x3)), (5, xI (x5))]) (xsb_of ⟨rfl, rfl, rfl, rfl, rfl, trivial⟩ (show [0, 1, 2, 3, 4, 5, 6].Nodup by decide)) ?_
      exact k173_127   hx3 hx5 h
    · rw [if_neg c151] at h
      refine xe_alr (ins := .aload_n 0) (len := 1) (i := 0) (by decide +kernel) rfl rfl rfl rfl rfl ?_
      obtain ⟨v152, e153, h⟩ := xbnd h
      refine xs_gr (i := 37) (c := 11) (k := 3) (by decide +kernel) (by decide) (by decide +kernel) e153 rfl ?_
      refine xe_alr (ins := .aload 4) (len := 2) (i := 4) (by decide +kernel) rfl rfl rfl rfl rfl ?_
      obtain ⟨v154, e155, h⟩ := xbnd h
      refine xs_gr (i := 209) (c := 3) (k := 11) (by decide +kernel) (by decide) (by decide +kernel) e155 rfl ?_
      refine xe_ldn (ins := .iload 6) (len := 2) (by decide +kernel) rfl rfl rfl rfl ?_
      obtain ⟨v156, e157, h⟩ := xbnd h
      refine xs_iald rfl (by decide +kernel) hx6 e157 rfl ?_
      refine xe_ldn (ins := .iload_n 3) (len := 1) (by decide +kernel) rfl rfl rfl rfl ?_
      obtain ⟨_, e159, h⟩ := xbnd h
      obtain ⟨R160, e158, h⟩ := xbnd h
      refine xs_cv (i := 212) (j := 149) (ar := [xI (x3), xI (v156)]) (rest := []) (r2 := xr_149) (by decide +kernel) (by decide +kernel) (by decide +kernel) xr_149_e rfl (by decide) (by decide) e159 ?_
      refine xc_i (k149 (d := d + 0)  (xq_ai_in e157) hx3 e158) rfl (fun hi161 => ?_)
      refine xe_isr (ins := .istore 5) (len := 2) (i := 5) (by decide +kernel) rfl rfl rfl (by decide) (xk_k (show ¬ (0 : Nat) = 5 by decide) (Or.inl (show ¬ (0 + 1 : Nat) = 5 by decide)) (xk_k (show ¬ (1 : Nat) = 5 by decide) (Or.inl (show ¬ (1 + 1 : Nat) = 5 by decide)) (xk_k (show ¬ (2 : Nat) = 5 by decide) (Or.inl (show ¬ (2 + 1 : Nat) = 5 by decide)) (xk_k (show ¬ (3 : Nat) = 5 by decide) (Or.inl (show ¬ (3 + 1 : Nat) = 5 by decide)) (xk_k (show ¬ (4 : Nat) = 5 by decide) (Or.inr (xR_cat _)) (xk_d rfl (xk_k (show ¬ (6 : Nat) = 5 by decide) (Or.inl (show ¬ (6 + 1 : Nat) = 5 by decide)) xk_n))))))) rfl ?_
      refine xe_iincr (i := 6) (n := 1) (by decide +kernel) (by decide) rfl (xk_k (show ¬ (5 : Nat) = 6 by decide) (Or.inr (xI_cat _)) (xk_k (show ¬ (0 : Nat) = 6 by decide) (Or.inl (show ¬ (0 + 1 : Nat) = 6 by decide)) (xk_k (show ¬ (1 : Nat) = 6 by decide) (Or.inl (show ¬ (1 + 1 : Nat) = 6 by decide)) (xk_k (show ¬ (2 : Nat) = 6 by decide) (Or.inl (show ¬ (2 + 1 : Nat) = 6 by decide)) (xk_k (show ¬ (3 : Nat) = 6 by decide) (Or.inl (show ¬ (3 + 1 : Nat) = 6 by decide)) (xk_k (show ¬ (4 : Nat) = 6 by decide) (Or.inl (show ¬ (4 + 1 : Nat) = 6 by decide)) (xk_d rfl xk_n))))))) rfl ?_
      refine xe_goto (off := -36) (nx := 88) (by decide +kernel) (by decide) ?_
      refine xW_lv rfl (l := [(0, xR_ (x0)), (1, xR_ (x1)), (2, xR_ (x2)), (3, xI (x3)), (4, xR_ (x4)), (5, xI (R160.1)), (6, xI (xwr ((x6) + (1))))]) (xsb_of ⟨rfl, rfl, rfl, rfl, rfl, rfl, rfl, trivial⟩ (show [6, 5, 0, 1, 2, 3, 4].Nodup by decide)) ?_
      exact hr88 hx3 hi161 (xin_wr _) h
def f173_88   (f : Nat) : Nat → Nat → Nat → Nat → Int → Nat → Int → Int → xj_M → Option (Int × xj_M)
  | 0, _, _, _, _, _, _, _, _ => none
  | n + 1, x0, x1, x2, x3, x4, x5, x6, M => f173_88b   (f173_88   f n) f x0 x1 x2 x3 x4 x5 x6 M
theorem k173_88 {d f : Nat}     : ∀ {n : Nat} {x0 : Nat} {x1 : Nat} {x2 : Nat} {x3 : Int} {x4 : Nat} {x5 : Int} {x6 : Int} {M : xj_M} {R : Int × xj_M}, xin x3 → xin x5 → xin x6 → f173_88   f n x0 x1 x2 x3 x4 x5 x6 M = some R → xW (d + 7) (none, d + 7, none) xr_173 (88, [(0, xR_ x0), (1, xR_ x1), (2, xR_ x2), (3, xI x3), (4, xR_ x4), (5, xI x5), (6, xI x6)], [], M) (xQi R) := by
  intro n
  induction n with
  | zero => intros; rename_i h; cases h
  | succ n ih => intros; rename_i h; exact k173_88b   ih (by assumption) (by assumption) (by assumption) h
def f173_83   (f : Nat) (x0 : Nat) (x1 : Nat) (x2 : Nat) (x3 : Int) (x4 : Nat) (y0 : Int) (M : xj_M) : Option (Int × xj_M) := f173_88   f f (x0) (x1) (x2) (x3) (x4) (y0) (0) M
theorem k173_83 {d f : Nat}     {x0 : Nat} {x1 : Nat} {x2 : Nat} {x3 : Int} {x4 : Nat} {y0 : Int} {M : xj_M} {R : Int × xj_M} (hx3 : xin x3) (hy0 : xin y0) (h : f173_83   f x0 x1 x2 x3 x4 y0 M = some R) : xW (d + 7) (none, d + 7, none) xr_173 (83, [(0, xR_ x0), (1, xR_ x1), (2, xR_ x2), (3, xI x3), (4, xR_ x4)], [xI y0], M) (xQi R) := by
  unfold f173_83 at h
  refine xe_isr (ins := .istore 5) (len := 2) (i := 5) (by decide +kernel) rfl rfl rfl (by decide) (xk_k (show ¬ (0 : Nat) = 5 by decide) (Or.inl (show ¬ (0 + 1 : Nat) = 5 by decide)) (xk_k (show ¬ (1 : Nat) = 5 by decide) (Or.inl (show ¬ (1 + 1 : Nat) = 5 by decide)) (xk_k (show ¬ (2 : Nat) = 5 by decide) (Or.inl (show ¬ (2 + 1 : Nat) = 5 by decide)) (xk_k (show ¬ (3 : Nat) = 5 by decide) (Or.inl (show ¬ (3 + 1 : Nat) = 5 by decide)) (xk_k (show ¬ (4 : Nat) = 5 by decide) (Or.inr (xR_cat _)) xk_n))))) rfl ?_
  refine xe_iconst (n := 0) (by decide +kernel) rfl ?_
  refine xe_isr (ins := .istore 6) (len := 2) (i := 6) (by decide +kernel) rfl rfl rfl (by decide) (xk_k (show ¬ (5 : Nat) = 6 by decide) (Or.inr (xI_cat _)) (xk_k (show ¬ (0 : Nat) = 6 by decide) (Or.inl (show ¬ (0 + 1 : Nat) = 6 by decide)) (xk_k (show ¬ (1 : Nat) = 6 by decide) (Or.inl (show ¬ (1 + 1 : Nat) = 6 by decide)) (xk_k (show ¬ (2 : Nat) = 6 by decide) (Or.inl (show ¬ (2 + 1 : Nat) = 6 by decide)) (xk_k (show ¬ (3 : Nat) = 6 by decide) (Or.inl (show ¬ (3 + 1 : Nat) = 6 by decide)) (xk_k (show ¬ (4 : Nat) = 6 by decide) (Or.inl (show ¬ (4 + 1 : Nat) = 6 by decide)) xk_n)))))) rfl ?_
  refine xW_lv rfl (l := [(0, xR_ (x0)), (1, xR_ (x1)), (2, xR_ (x2)), (3, xI (x3)), (4, xR_ (x4)), (5, xI (y0)), (6, xI (0))]) (xsb_of ⟨rfl, rfl, rfl, rfl, rfl, rfl, rfl, trivial⟩ (show [6, 5, 0, 1, 2, 3, 4].Nodup by decide)) ?_
  exact k173_88   hx3 hy0 (show xin (0) by decide) h
def f173_82   (f : Nat) (x0 : Nat) (x1 : Nat) (x2 : Nat) (x3 : Int) (x4 : Nat) (M : xj_M) : Option (Int × xj_M) := f173_83   f (x0) (x1) (x2) (x3) (x4) (0) M
theorem k173_82 {d f : Nat}     {x0 : Nat} {x1 : Nat} {x2 : Nat} {x3 : Int} {x4 : Nat} {M : xj_M} {R : Int × xj_M} (hx3 : xin x3) (h : f173_82   f x0 x1 x2 x3 x4 M = some R) : xW (d + 7) (none, d + 7, none) xr_173 (82, [(0, xR_ x0), (1, xR_ x1), (2, xR_ x2), (3, xI x3), (4, xR_ x4)], [], M) (xQi R) := by
  unfold f173_82 at h
  refine xe_iconst (n := 0) (by decide +kernel) rfl ?_
  refine xW_lv rfl (l := [(0, xR_ (x0)), (1, xR_ (x1)), (2, xR_ (x2)), (3, xI (x3)), (4, xR_ (x4))]) (xsb_of ⟨rfl, rfl, rfl, rfl, rfl, trivial⟩ (show [0, 1, 2, 3, 4].Nodup by decide)) ?_
  exact k173_83   hx3 (show xin (0) by decide) h
def f173_43   (f : Nat) (x0 : Nat) (x1 : Nat) (x2 : Nat) (x3 : Int) (y0 : Nat) (M : xj_M) : Option (Int × xj_M) := ((xq_gr 11 3 (x0) M).bind fun v162 => ((xq_is 10 (v162) M).bind fun _ => ((f145  f (v162) (x2) (y0) M).bind fun M166 => ((xq_gi 1 1 (x1) M166).bind fun v168 => (if (520) ≤ (xwr ((v168) + (1))) then f173_82   f (x0) (x1) (x2) (x3) (y0) M166 else ((xq_gr 11 3 (x0) M166).bind fun v171 => ((xq_is 10 (v171) M166).bind fun _ => ((f146  f (v171) (x1) M166).bind fun R175 => (if (R175.1) = 0 then f173_82   f (x0) (x1) (x2) (x3) (y0) R175.2 else f173_83   f (x0) (x1) (x2) (x3) (y0) (1) R175.2)))))))))
theorem k173_43 {d f : Nat}     {x0 : Nat} {x1 : Nat} {x2 : Nat} {x3 : Int} {y0 : Nat} {M : xj_M} {R : Int × xj_M} (hx3 : xin x3) (h : f173_43   f x0 x1 x2 x3 y0 M = some R) : xW (d + 7) (none, d + 7, none) xr_173 (43, [(0, xR_ x0), (1, xR_ x1), (2, xR_ x2), (3, xI x3)], [xR_ y0], M) (xQi R) := by
  unfold f173_43 at h
  refine xe_asr (ins := .astore 4) (len := 2) (i := 4) (by decide +kernel) rfl rfl rfl (by decide) (xk_k (show ¬ (0 : Nat) = 4 by decide) (Or.inl (show ¬ (0 + 1 : Nat) = 4 by decide)) (xk_k (show ¬ (1 : Nat) = 4 by decide) (Or.inl (show ¬ (1 + 1 : Nat) = 4 by decide)) (xk_k (show ¬ (2 : Nat) = 4 by decide) (Or.inl (show ¬ (2 + 1 : Nat) = 4 by decide)) (xk_k (show ¬ (3 : Nat) = 4 by decide) (Or.inr (xI_cat _)) xk_n)))) rfl ?_
  refine xe_alr (ins := .aload_n 0) (len := 1) (i := 0) (by decide +kernel) rfl rfl rfl rfl rfl ?_
  obtain ⟨v162, e163, h⟩ := xbnd h
  refine xs_gr (i := 37) (c := 11) (k := 3) (by decide +kernel) (by decide) (by decide +kernel) e163 rfl ?_
  refine xe_alr (ins := .aload_n 2) (len := 1) (i := 2) (by decide +kernel) rfl rfl rfl rfl rfl ?_
  refine xe_alr (ins := .aload 4) (len := 2) (i := 4) (by decide +kernel) rfl rfl rfl rfl rfl ?_
  obtain ⟨_, e165, h⟩ := xbnd h
  obtain ⟨M166, e164, h⟩ := xbnd h
  refine xs_cv (i := 195) (j := 145) (ar := [xR_ (y0), xR_ (x2)]) (rest := []) (r2 := xr_145) (by decide +kernel) (by decide +kernel) (by decide +kernel) xr_145_e rfl (by decide) (by decide) e165 ?_
  refine xc_v (k145 (d := d + 4)   e164) rfl ?_
  refine xe_alr (ins := .aload_n 1) (len := 1) (i := 1) (by decide +kernel) rfl rfl rfl rfl rfl ?_
  obtain ⟨v168, e169, h⟩ := xbnd h
  refine xs_gi (i := 199) (c := 1) (k := 1) (by decide +kernel) (by decide) (by decide +kernel) e169 rfl ?_
  refine xe_iconst (n := 1) (by decide +kernel) rfl ?_
  refine xe_iadd (by decide +kernel) rfl ?_
  refine xe_sipush (n := 520) (by decide +kernel) (by decide) rfl ?_
  refine xe_icmpge (off := 18) (t := 82) (by decide +kernel) (by decide) rfl (xin_wr _) (show xin (520) by decide) (fun c170 => ?_) (fun c170 => ?_)
  · rw [if_pos c170] at h
    refine xW_lv rfl (l := [(0, xR_ (x0)), (1, xR_ (x1)), (2, xR_ (x2)), (3, xI (x3)), (4, xR_ (y0))]) (xsb_of ⟨rfl, rfl, rfl, rfl, rfl, trivial⟩ (show [4, 0, 1, 2, 3].Nodup by decide)) ?_
    exact k173_82   hx3 h
  · rw [if_neg c170] at h
    refine xe_alr (ins := .aload_n 0) (len := 1) (i := 0) (by decide +kernel) rfl rfl rfl rfl rfl ?_
    obtain ⟨v171, e172, h⟩ := xbnd h
    refine xs_gr (i := 37) (c := 11) (k := 3) (by decide +kernel) (by decide) (by decide +kernel) e172 rfl ?_
    refine xe_alr (ins := .aload_n 1) (len := 1) (i := 1) (by decide +kernel) rfl rfl rfl rfl rfl ?_
    obtain ⟨_, e174, h⟩ := xbnd h
    obtain ⟨R175, e173, h⟩ := xbnd h
    refine xs_cv (i := 202) (j := 146) (ar := [xR_ (x1)]) (rest := []) (r2 := xr_146) (by decide +kernel) (by decide +kernel) (by decide +kernel) xr_146_e rfl (by decide) (by decide) e174 ?_
    refine xc_i (k146 (d := d + 2)   e173) rfl (fun hi176 => ?_)
    refine xe_ifeq (off := 7) (t := 82) (by decide +kernel) (by decide) rfl hi176 (fun c177 => ?_) (fun c177 => ?_)
    · rw [if_pos c177] at h
      refine xW_lv rfl (l := [(0, xR_ (x0)), (1, xR_ (x1)), (2, xR_ (x2)), (3, xI (x3)), (4, xR_ (y0))]) (xsb_of ⟨rfl, rfl, rfl, rfl, rfl, trivial⟩ (show [4, 0, 1, 2, 3].Nodup by decide)) ?_
      exact k173_82   hx3 h
    · rw [if_neg c177] at h
      refine xe_iconst (n := 1) (by decide +kernel) rfl ?_
      refine xe_goto (off := 4) (nx := 83) (by decide +kernel) (by decide) ?_
      refine xW_lv rfl (l := [(0, xR_ (x0)), (1, xR_ (x1)), (2, xR_ (x2)), (3, xI (x3)), (4, xR_ (y0))]) (xsb_of ⟨rfl, rfl, rfl, rfl, rfl, trivial⟩ (show [4, 0, 1, 2, 3].Nodup by decide)) ?_
      exact k173_83   hx3 (show xin (1) by decide) h
def f173_27   (f : Nat) (x0 : Nat) (x1 : Nat) (x2 : Nat) (y0 : Int) (M : xj_M) : Option (Int × xj_M) := (if (y0) = 0 then ((xq_gr 2 0 (x2) M).bind fun v179 => f173_43   f (x0) (x1) (x2) (y0) (v179) M) else ((xq_gr 1 7 (x1) M).bind fun v181 => f173_43   f (x0) (x1) (x2) (y0) (v181) M))
theorem k173_27 {d f : Nat}     {x0 : Nat} {x1 : Nat} {x2 : Nat} {y0 : Int} {M : xj_M} {R : Int × xj_M} (hy0 : xin y0) (h : f173_27   f x0 x1 x2 y0 M = some R) : xW (d + 7) (none, d + 7, none) xr_173 (27, [(0, xR_ x0), (1, xR_ x1), (2, xR_ x2)], [xI y0], M) (xQi R) := by
  unfold f173_27 at h
  refine xe_isr (ins := .istore_n 3) (len := 1) (i := 3) (by decide +kernel) rfl rfl rfl (by decide) (xk_k (show ¬ (0 : Nat) = 3 by decide) (Or.inl (show ¬ (0 + 1 : Nat) = 3 by decide)) (xk_k (show ¬ (1 : Nat) = 3 by decide) (Or.inl (show ¬ (1 + 1 : Nat) = 3 by decide)) (xk_k (show ¬ (2 : Nat) = 3 by decide) (Or.inr (xR_cat _)) xk_n))) rfl ?_
  refine xe_ldn (ins := .iload_n 3) (len := 1) (by decide +kernel) rfl rfl rfl rfl ?_
  refine xe_ifeq (off := 10) (t := 39) (by decide +kernel) (by decide) rfl hy0 (fun c178 => ?_) (fun c178 => ?_)
  · rw [if_pos c178] at h
    refine xe_alr (ins := .aload_n 2) (len := 1) (i := 2) (by decide +kernel) rfl rfl rfl rfl rfl ?_
    obtain ⟨v179, e180, h⟩ := xbnd h
    refine xs_gr (i := 149) (c := 2) (k := 0) (by decide +kernel) (by decide) (by decide +kernel) e180 rfl ?_
    refine xW_lv rfl (l := [(0, xR_ (x0)), (1, xR_ (x1)), (2, xR_ (x2)), (3, xI (y0))]) (xsb_of ⟨rfl, rfl, rfl, rfl, trivial⟩ (show [3, 0, 1, 2].Nodup by decide)) ?_
    exact k173_43   hy0 h
  · rw [if_neg c178] at h
    refine xe_alr (ins := .aload_n 1) (len := 1) (i := 1) (by decide +kernel) rfl rfl rfl rfl rfl ?_
    obtain ⟨v181, e182, h⟩ := xbnd h
    refine xs_gr (i := 135) (c := 1) (k := 7) (by decide +kernel) (by decide) (by decide +kernel) e182 rfl ?_
    refine xe_goto (off := 7) (nx := 43) (by decide +kernel) (by decide) ?_
    refine xW_lv rfl (l := [(0, xR_ (x0)), (1, xR_ (x1)), (2, xR_ (x2)), (3, xI (y0))]) (xsb_of ⟨rfl, rfl, rfl, rfl, trivial⟩ (show [3, 0, 1, 2].Nodup by decide)) ?_
    exact k173_43   hy0 h
def f173  (f : Nat) (a0 : Nat) (M : xj_M) : Option (Int × xj_M) := ((xq_gr 11 5 (a0) M).bind fun v183 => ((xq_gi 11 6 (a0) M).bind fun v185 => ((xq_ar (v183) (v185) M).bind fun v187 => ((xq_is 1 (v187) M).bind fun _ => ((f5  f (v187) M).bind fun R191 => ((xq_gr 1 7 (v187) R191.2).bind fun v193 => (if (v193) = 0 then f173_27   f (a0) (v187) (R191.1) (0) R191.2 else f173_27   f (a0) (v187) (R191.1) (1) R191.2)))))))
theorem k173 {d f : Nat}   {a0 : Nat} {M : xj_M} {R : Int × xj_M}  (h : f173  f a0 M = some R) : xT (d + 8) 173 [xR_ a0] M (xQi R) := by
  refine xT_m xr_173_e (X := (none, d + 7, none)) rfl (xa_1 (xR_cat _) xa_n) (by decide) ?_
  unfold f173 at h
  refine xe_alr (ins := .aload_n 0) (len := 1) (i := 0) (by decide +kernel) rfl rfl rfl rfl rfl ?_
  obtain ⟨v183, e184, h⟩ := xbnd h
  refine xs_gr (i := 50) (c := 11) (k := 5) (by decide +kernel) (by decide) (by decide +kernel) e184 rfl ?_
  refine xe_alr (ins := .aload_n 0) (len := 1) (i := 0) (by decide +kernel) rfl rfl rfl rfl rfl ?_
  obtain ⟨v185, e186, h⟩ := xbnd h
  refine xs_gi (i := 132) (c := 11) (k := 6) (by decide +kernel) (by decide) (by decide +kernel) e186 rfl ?_
  obtain ⟨v187, e188, h⟩ := xbnd h
  refine xs_aald (by decide +kernel) (xq_gi_in e186) e188 rfl ?_
  refine xe_asr (ins := .astore_n 1) (len := 1) (i := 1) (by decide +kernel) rfl rfl rfl (by decide) (xk_k (show ¬ (0 : Nat) = 1 by decide) (Or.inr (xR_cat _)) xk_n) rfl ?_
  refine xe_alr (ins := .aload_n 1) (len := 1) (i := 1) (by decide +kernel) rfl rfl rfl rfl rfl ?_
  obtain ⟨_, e190, h⟩ := xbnd h
  obtain ⟨R191, e189, h⟩ := xbnd h
  refine xs_cv (i := 145) (j := 5) (ar := []) (rest := []) (r2 := xr_5) (by decide +kernel) (by decide +kernel) (by decide +kernel) xr_5_e rfl (by decide) (by decide) e190 ?_
  refine xc_r (k5 (d := d + 6)   e189) rfl ?_
  refine xe_asr (ins := .astore_n 2) (len := 1) (i := 2) (by decide +kernel) rfl rfl rfl (by decide) (xk_k (show ¬ (1 : Nat) = 2 by decide) (Or.inr (xR_cat _)) (xk_k (show ¬ (0 : Nat) = 2 by decide) (Or.inl (show ¬ (0 + 1 : Nat) = 2 by decide)) xk_n)) rfl ?_
  refine xe_alr (ins := .aload_n 1) (len := 1) (i := 1) (by decide +kernel) rfl rfl rfl rfl rfl ?_
  obtain ⟨v193, e194, h⟩ := xbnd h
  refine xs_gr (i := 135) (c := 1) (k := 7) (by decide +kernel) (by decide) (by decide +kernel) e194 rfl ?_
  refine xe_ifnull (off := 7) (t := 26) (by decide +kernel) (by decide) rfl (fun c195 => ?_) (fun c195 => ?_)
  · rw [if_pos c195] at h
    refine xe_iconst (n := 0) (by decide +kernel) rfl ?_
    refine xW_lv rfl (l := [(0, xR_ (a0)), (1, xR_ (v187)), (2, xR_ (R191.1))]) (xsb_of ⟨rfl, rfl, rfl, trivial⟩ (show [2, 1, 0].Nodup by decide)) ?_
    exact k173_27   (show xin (0) by decide) h
  · rw [if_neg c195] at h
    refine xe_iconst (n := 1) (by decide +kernel) rfl ?_
    refine xe_goto (off := 4) (nx := 27) (by decide +kernel) (by decide) ?_
    refine xW_lv rfl (l := [(0, xR_ (a0)), (1, xR_ (v187)), (2, xR_ (R191.1))]) (xsb_of ⟨rfl, rfl, rfl, trivial⟩ (show [2, 1, 0].Nodup by decide)) ?_
    exact k173_27   (show xin (1) by decide) h
-- ChangeHouse.change
def xr_1001 : xj_mR := (11, yX11_change, cX11_change, 6, (Option.some Jvm.ClassFile.FieldType.int), 0, false, (5, 239), (1, 1))
set_option maxRecDepth 20000 in
theorem xr_1001_e : xj_row 1001 = some xr_1001 := rfl
def f1001_183  (r140 : Nat → Nat → Int → xj_M → Option (Int × xj_M)) (f : Nat) (x0 : Nat) (x1 : Nat) (x5 : Int) (y0 : Int) (y1 : Int) (y2 : Nat) (M : xj_M) : Option (Int × xj_M) := ((xq_gr 11 1 (x0) M).bind fun v101 => ((xq_gr 4 19 (v101) M).bind fun v103 => ((xq_gr 11 1 (x0) M).bind fun v105 => ((xq_gr 4 18 (v105) M).bind fun v107 => ((xq_ai 3 (v107) (x5) M).bind fun v109 => ((xq_is 1 (y2) M).bind fun _ => ((f8  f (y2) (y1) (y0) (v103) (xwr ((4) * (x5))) (v109) M).bind fun M113 => r140 (x0) (x1) (xwr ((x5) + (1))) M113)))))))
theorem k1001_183 {d f : Nat}  {r140 : Nat → Nat → Int → xj_M → Option (Int × xj_M)}  (hr140 : ∀ {x0 : Nat} {x1 : Nat} {x5 : Int} {M : xj_M} {R : Int × xj_M}, xin x5 → r140 x0 x1 x5 M = some R → xW (d + 8) (some (46, 54, 57, 123, 0), d + 8, none) xr_1001 (140, [(0, xR_ x0), (1, xR_ x1), (5, xI x5)], [], M) (xQi R)) {x0 : Nat} {x1 : Nat} {x5 : Int} {y0 : Int} {y1 : Int} {y2 : Nat} {M : xj_M} {R : Int × xj_M} (hx5 : xin x5) (hy0 : xin y0) (hy1 : xin y1) (h : f1001_183  r140 f x0 x1 x5 y0 y1 y2 M = some R) : xW (d + 8) (some (46, 54, 57, 123, 0), d + 8, none) xr_1001 (183, [(0, xR_ x0), (1, xR_ x1), (5, xI x5)], [xI y0, xI y1, xR_ y2], M) (xQi R) := by
  unfold f1001_183 at h
  refine xe_alr (ins := .aload_n 0) (len := 1) (i := 0) (by decide +kernel) rfl rfl rfl rfl rfl ?_
  obtain ⟨v101, e102, h⟩ := xbnd h
  refine xs_gr (i := 21) (c := 11) (k := 1) (by decide +kernel) (by decide) (by decide +kernel) e102 rfl ?_
  obtain ⟨v103, e104, h⟩ := xbnd h
  refine xs_gr (i := 168) (c := 4) (k := 19) (by decide +kernel) (by decide) (by decide +kernel) e104 rfl ?_
  refine xe_iconst (n := 4) (by decide +kernel) rfl ?_
  refine xe_ldn (ins := .iload 5) (len := 2) (by decide +kernel) rfl rfl rfl rfl ?_
  refine xe_imul (by decide +kernel) rfl ?_
  refine xe_alr (ins := .aload_n 0) (len := 1) (i := 0) (by decide +kernel) rfl rfl rfl rfl rfl ?_
  obtain ⟨v105, e106, h⟩ := xbnd h
  refine xs_gr (i := 21) (c := 11) (k := 1) (by decide +kernel) (by decide) (by decide +kernel) e106 rfl ?_
  obtain ⟨v107, e108, h⟩ := xbnd h
  refine xs_gr (i := 171) (c := 4) (k := 18) (by decide +kernel) (by decide) (by decide +kernel) e108 rfl ?_
  refine xe_ldn (ins := .iload 5) (len := 2) (by decide +kernel) rfl rfl rfl rfl ?_
  obtain ⟨v109, e110, h⟩ := xbnd h
  refine xs_iald rfl (by decide +kernel) hx5 e110 rfl ?_
  obtain ⟨_, e112, h⟩ := xbnd h
  obtain ⟨M113, e111, h⟩ := xbnd h
  refine xs_cv (i := 174) (j := 8) (ar := [xI (v109), xI (xwr ((4) * (x5))), xR_ (v103), xI (y0), xI (y1)]) (rest := []) (r2 := xr_8) (by decide +kernel) (by decide +kernel) (by decide +kernel) xr_8_e rfl (by decide) (by decide) e112 ?_
  refine xc_v (k8 (d := d + 7)  hy1 hy0 (xin_wr _) (xq_ai_in e110) e111) rfl ?_
  refine xe_iincr (i := 5) (n := 1) (by decide +kernel) (by decide) rfl (xk_k (show ¬ (0 : Nat) = 5 by decide) (Or.inl (show ¬ (0 + 1 : Nat) = 5 by decide)) (xk_k (show ¬ (1 : Nat) = 5 by decide) (Or.inl (show ¬ (1 + 1 : Nat) = 5 by decide)) (xk_d rfl xk_n))) rfl ?_
  refine xe_goto (off := -70) (nx := 140) (by decide +kernel) (by decide) ?_
  refine xW_lv2 (l := [(0, xR_ (x0)), (1, xR_ (x1)), (5, xI (xwr ((x5) + (1))))]) (xsb_of ⟨rfl, rfl, rfl, trivial⟩ (show [5, 0, 1].Nodup by decide)) ?_
  exact hr140 (xin_wr _) h
def f1001_140b  (r140 : Nat → Nat → Int → xj_M → Option (Int × xj_M)) (f : Nat) (x0 : Nat) (x1 : Nat) (x5 : Int) (M : xj_M) : Option (Int × xj_M) := ((xq_gr 11 1 (x0) M).bind fun v115 => ((xq_gi 4 14 (v115) M).bind fun v117 => (if (v117) ≤ (x5) then ((xq_gr 11 1 (x0) M).bind fun v120 => ((xq_gi 4 14 (v120) M).bind fun v122 => (some (v122, M)))) else ((xq_gr 11 1 (x0) M).bind fun v124 => ((xq_gr 4 15 (v124) M).bind fun v126 => ((xq_ai 3 (v126) (x5) M).bind fun v128 => ((xq_gr 11 1 (x0) M).bind fun v130 => ((xq_gr 4 16 (v130) M).bind fun v132 => ((xq_ai 3 (v132) (x5) M).bind fun v134 => (if ¬ (v134) = (43) then f1001_183  r140 f (x0) (x1) (x5) (0) (v128) (x1) M else f1001_183  r140 f (x0) (x1) (x5) (1) (v128) (x1) M))))))))))
theorem k1001_140b {d f : Nat}  {r140 : Nat → Nat → Int → xj_M → Option (Int × xj_M)}  (hr140 : ∀ {x0 : Nat} {x1 : Nat} {x5 : Int} {M : xj_M} {R : Int × xj_M}, xin x5 → r140 x0 x1 x5 M = some R → xW (d + 8) (some (46, 54, 57, 123, 0), d + 8, none) xr_1001 (140, [(0, xR_ x0), (1, xR_ x1), (5, xI x5)], [], M) (xQi R)) {x0 : Nat} {x1 : Nat} {x5 : Int} {M : xj_M} {R : Int × xj_M} (hx5 : xin x5) (h : f1001_140b  r140 f x0 x1 x5 M = some R) : xW (d + 8) (some (46, 54, 57, 123, 0), d + 8, none) xr_1001 (140, [(0, xR_ x0), (1, xR_ x1), (5, xI x5)], [], M) (xQi R) := by
  unfold f1001_140b at h
  refine xe_ldn (ins := .iload 5) (len := 2) (by decide +kernel) rfl rfl rfl rfl ?_
  refine xe_alr (ins := .aload_n 0) (len := 1) (i := 0) (by decide +kernel) rfl rfl rfl rfl rfl ?_
  obtain ⟨v115, e116, h⟩ := xbnd h
  refine xs_gr (i := 21) (c := 11) (k := 1) (by decide +kernel) (by decide) (by decide +kernel) e116 rfl ?_
  obtain ⟨v117, e118, h⟩ := xbnd h
  refine xs_gi (i := 158) (c := 4) (k := 14) (by decide +kernel) (by decide) (by decide +kernel) e118 rfl ?_
  refine xe_icmpge (off := 64) (t := 213) (by decide +kernel) (by decide) rfl hx5 (xq_gi_in e118) (fun c119 => ?_) (fun c119 => ?_)
  · rw [if_pos c119] at h
    refine xe_alr (ins := .aload_n 0) (len := 1) (i := 0) (by decide +kernel) rfl rfl rfl rfl rfl ?_
    obtain ⟨v120, e121, h⟩ := xbnd h
    refine xs_gr (i := 21) (c := 11) (k := 1) (by decide +kernel) (by decide) (by decide +kernel) e121 rfl ?_
    obtain ⟨v122, e123, h⟩ := xbnd h
    refine xs_gi (i := 158) (c := 4) (k := 14) (by decide +kernel) (by decide) (by decide +kernel) e123 rfl ?_
    cases h
    exact xe_ret_i (ty := .int) (by decide +kernel) rfl rfl ⟨rfl, rfl, (xq_gi_in e123)⟩
  · rw [if_neg c119] at h
    refine xe_alr (ins := .aload_n 1) (len := 1) (i := 1) (by decide +kernel) rfl rfl rfl rfl rfl ?_
    refine xe_alr (ins := .aload_n 0) (len := 1) (i := 0) (by decide +kernel) rfl rfl rfl rfl rfl ?_
    obtain ⟨v124, e125, h⟩ := xbnd h
    refine xs_gr (i := 21) (c := 11) (k := 1) (by decide +kernel) (by decide) (by decide +kernel) e125 rfl ?_
    obtain ⟨v126, e127, h⟩ := xbnd h
    refine xs_gr (i := 161) (c := 4) (k := 15) (by decide +kernel) (by decide) (by decide +kernel) e127 rfl ?_
    refine xe_ldn (ins := .iload 5) (len := 2) (by decide +kernel) rfl rfl rfl rfl ?_
    obtain ⟨v128, e129, h⟩ := xbnd h
    refine xs_iald rfl (by decide +kernel) hx5 e129 rfl ?_
    refine xe_alr (ins := .aload_n 0) (len := 1) (i := 0) (by decide +kernel) rfl rfl rfl rfl rfl ?_
    obtain ⟨v130, e131, h⟩ := xbnd h
    refine xs_gr (i := 21) (c := 11) (k := 1) (by decide +kernel) (by decide) (by decide +kernel) e131 rfl ?_
    obtain ⟨v132, e133, h⟩ := xbnd h
    refine xs_gr (i := 165) (c := 4) (k := 16) (by decide +kernel) (by decide) (by decide +kernel) e133 rfl ?_
    refine xe_ldn (ins := .iload 5) (len := 2) (by decide +kernel) rfl rfl rfl rfl ?_
    obtain ⟨v134, e135, h⟩ := xbnd h
    refine xs_iald rfl (by decide +kernel) hx5 e135 rfl ?_
    refine xe_bipush (n := 43) (by decide +kernel) (by decide) rfl ?_
    refine xe_icmpne (off := 7) (t := 182) (by decide +kernel) (by decide) rfl (xq_ai_in e135) (show xin (43) by decide) (fun c136 => ?_) (fun c136 => ?_)
    · rw [if_pos c136] at h
      refine xe_iconst (n := 0) (by decide +kernel) rfl ?_
      refine xW_lv2 (l := [(0, xR_ (x0)), (1, xR_ (x1)), (5, xI (x5))]) (xsb_of ⟨rfl, rfl, rfl, trivial⟩ (show [0, 1, 5].Nodup by decide)) ?_
      exact k1001_183  hr140 hx5 (show xin (0) by decide) (xq_ai_in e129) h
    · rw [if_neg c136] at h
      refine xe_iconst (n := 1) (by decide +kernel) rfl ?_
      refine xe_goto (off := 4) (nx := 183) (by decide +kernel) (by decide) ?_
      refine xW_lv2 (l := [(0, xR_ (x0)), (1, xR_ (x1)), (5, xI (x5))]) (xsb_of ⟨rfl, rfl, rfl, trivial⟩ (show [0, 1, 5].Nodup by decide)) ?_
      exact k1001_183  hr140 hx5 (show xin (1) by decide) (xq_ai_in e129) h
def f1001_140   (f : Nat) : Nat → Nat → Nat → Int → xj_M → Option (Int × xj_M)
  | 0, _, _, _, _ => none
  | n + 1, x0, x1, x5, M => f1001_140b   (f1001_140   f n) f x0 x1 x5 M
theorem k1001_140 {d f : Nat}     : ∀ {n : Nat} {x0 : Nat} {x1 : Nat} {x5 : Int} {M : xj_M} {R : Int × xj_M}, xin x5 → f1001_140   f n x0 x1 x5 M = some R → xW (d + 8) (some (46, 54, 57, 123, 0), d + 8, none) xr_1001 (140, [(0, xR_ x0), (1, xR_ x1), (5, xI x5)], [], M) (xQi R) := by
  intro n
  induction n with
  | zero => intros; rename_i h; cases h
  | succ n ih => intros; rename_i h; exact k1001_140b   ih (by assumption) h
def f1001_61   (f : Nat) (x0 : Nat) (x1 : Nat) (x3 : Int) (M : xj_M) : Option (Int × xj_M) := ((xq_gr 11 0 (x0) M).bind fun v137 => ((xq_pi 8 1 (v137) (0) M).bind fun M139 => (if ¬ (x3) = 0 then ((xq_gr 11 1 (x0) M139).bind fun v142 => ((xq_is 4 (v142) M139).bind fun _ => ((f64  f (v142) M139).bind fun R146 => (if (R146.1) = 0 then ((xq_gi 1 8 (x1) R146.2).bind fun v149 => ((xq_gr 11 1 (x0) R146.2).bind fun v151 => ((xq_gi 4 14 (v151) R146.2).bind fun v153 => (if (xwr ((v149) + (v153))) ≤ (400) then f1001_140   f f (x0) (x1) (0) R146.2 else (some (-6000, R146.2)))))) else ((xq_gr 11 1 (x0) R146.2).bind fun v156 => ((xq_gi 4 2 (v156) R146.2).bind fun v158 => ((xq_pi 11 9 (x0) (v158) R146.2).bind fun M160 => (some (xwr ((-5000) - (R146.1)), M160))))))))) else ((xq_gr 11 1 (x0) M139).bind fun v162 => ((xq_gi 4 2 (v162) M139).bind fun v164 => (some (xwr ((-1) - (v164)), M139)))))))
theorem k1001_61 {d f : Nat}     {x0 : Nat} {x1 : Nat} {x3 : Int} {M : xj_M} {R : Int × xj_M} (hx3 : xin x3) (h : f1001_61   f x0 x1 x3 M = some R) : xW (d + 8) (some (46, 54, 57, 123, 0), d + 8, none) xr_1001 (61, [(0, xR_ x0), (1, xR_ x1), (3, xI x3)], [], M) (xQi R) := by
  unfold f1001_61 at h
  refine xe_alr (ins := .aload_n 0) (len := 1) (i := 0) (by decide +kernel) rfl rfl rfl rfl rfl ?_
  obtain ⟨v137, e138, h⟩ := xbnd h
  refine xs_gr (i := 10) (c := 11) (k := 0) (by decide +kernel) (by decide) (by decide +kernel) e138 rfl ?_
  refine xe_iconst (n := 0) (by decide +kernel) rfl ?_
  obtain ⟨M139, e140, h⟩ := xbnd h
  refine xs_p (i := 107) (c := 8) (k := 1) (by decide +kernel) (by decide +kernel) (by decide +kernel) e140 rfl ?_
  refine xe_ldn (ins := .iload_n 3) (len := 1) (by decide +kernel) rfl rfl rfl rfl ?_
  refine xe_ifne (off := 13) (t := 83) (by decide +kernel) (by decide) rfl hx3 (fun c141 => ?_) (fun c141 => ?_)
  · rw [if_pos c141] at h
    refine xe_alr (ins := .aload_n 0) (len := 1) (i := 0) (by decide +kernel) rfl rfl rfl rfl rfl ?_
    obtain ⟨v142, e143, h⟩ := xbnd h
    refine xs_gr (i := 21) (c := 11) (k := 1) (by decide +kernel) (by decide) (by decide +kernel) e143 rfl ?_
    obtain ⟨_, e145, h⟩ := xbnd h
    obtain ⟨R146, e144, h⟩ := xbnd h
    refine xs_cv (i := 155) (j := 64) (ar := []) (rest := []) (r2 := xr_64) (by decide +kernel) (by decide +kernel) (by decide +kernel) xr_64_e rfl (by decide) (by decide) e145 ?_
    refine xc_i (k64 (d := d + 7)   e144) rfl (fun hi147 => ?_)
    refine xe_isr (ins := .istore 4) (len := 2) (i := 4) (by decide +kernel) rfl rfl rfl (by decide) (xk_k (show ¬ (0 : Nat) = 4 by decide) (Or.inl (show ¬ (0 + 1 : Nat) = 4 by decide)) (xk_k (show ¬ (1 : Nat) = 4 by decide) (Or.inl (show ¬ (1 + 1 : Nat) = 4 by decide)) (xk_k (show ¬ (3 : Nat) = 4 by decide) (Or.inr (xI_cat _)) xk_n))) rfl ?_
    refine xe_ldn (ins := .iload 4) (len := 2) (by decide +kernel) rfl rfl rfl rfl ?_
    refine xe_ifeq (off := 21) (t := 115) (by decide +kernel) (by decide) rfl hi147 (fun c148 => ?_) (fun c148 => ?_)
    · rw [if_pos c148] at h
      refine xe_alr (ins := .aload_n 1) (len := 1) (i := 1) (by decide +kernel) rfl rfl rfl rfl rfl ?_
      obtain ⟨v149, e150, h⟩ := xbnd h
      refine xs_gi (i := 139) (c := 1) (k := 8) (by decide +kernel) (by decide) (by decide +kernel) e150 rfl ?_
      refine xe_alr (ins := .aload_n 0) (len := 1) (i := 0) (by decide +kernel) rfl rfl rfl rfl rfl ?_
      obtain ⟨v151, e152, h⟩ := xbnd h
      refine xs_gr (i := 21) (c := 11) (k := 1) (by decide +kernel) (by decide) (by decide +kernel) e152 rfl ?_
      obtain ⟨v153, e154, h⟩ := xbnd h
      refine xs_gi (i := 158) (c := 4) (k := 14) (by decide +kernel) (by decide) (by decide +kernel) e154 rfl ?_
      refine xe_iadd (by decide +kernel) rfl ?_
      refine xe_sipush (n := 400) (by decide +kernel) (by decide) rfl ?_
      refine xe_icmple (off := 7) (t := 137) (by decide +kernel) (by decide) rfl (xin_wr _) (show xin (400) by decide) (fun c155 => ?_) (fun c155 => ?_)
      · rw [if_pos c155] at h
        refine xe_iconst (n := 0) (by decide +kernel) rfl ?_
        refine xe_isr (ins := .istore 5) (len := 2) (i := 5) (by decide +kernel) rfl rfl rfl (by decide) (xk_k (show ¬ (4 : Nat) = 5 by decide) (Or.inr (xI_cat _)) (xk_k (show ¬ (0 : Nat) = 5 by decide) (Or.inl (show ¬ (0 + 1 : Nat) = 5 by decide)) (xk_k (show ¬ (1 : Nat) = 5 by decide) (Or.inl (show ¬ (1 + 1 : Nat) = 5 by decide)) (xk_k (show ¬ (3 : Nat) = 5 by decide) (Or.inl (show ¬ (3 + 1 : Nat) = 5 by decide)) xk_n)))) rfl ?_
        refine xW_lv2 (l := [(0, xR_ (x0)), (1, xR_ (x1)), (5, xI (0))]) (xsb_of ⟨rfl, rfl, rfl, trivial⟩ (show [5, 4, 0, 1, 3].Nodup by decide)) ?_
        exact k1001_140   (show xin (0) by decide) h
      · rw [if_neg c155] at h
        refine xe_sipush (n := -6000) (by decide +kernel) (by decide) rfl ?_
        cases h
        exact xe_ret_i (ty := .int) (by decide +kernel) rfl rfl ⟨rfl, rfl, (show xin (-6000) by decide)⟩
    · rw [if_neg c148] at h
      refine xe_alr (ins := .aload_n 0) (len := 1) (i := 0) (by decide +kernel) rfl rfl rfl rfl rfl ?_
      refine xe_alr (ins := .aload_n 0) (len := 1) (i := 0) (by decide +kernel) rfl rfl rfl rfl rfl ?_
      obtain ⟨v156, e157, h⟩ := xbnd h
      refine xs_gr (i := 21) (c := 11) (k := 1) (by decide +kernel) (by decide) (by decide +kernel) e157 rfl ?_
      obtain ⟨v158, e159, h⟩ := xbnd h
      refine xs_gi (i := 125) (c := 4) (k := 2) (by decide +kernel) (by decide) (by decide +kernel) e159 rfl ?_
      obtain ⟨M160, e161, h⟩ := xbnd h
      refine xs_p (i := 54) (c := 11) (k := 9) (by decide +kernel) (by decide +kernel) (by decide +kernel) e161 rfl ?_
      refine xe_sipush (n := -5000) (by decide +kernel) (by decide) rfl ?_
      refine xe_ldn (ins := .iload 4) (len := 2) (by decide +kernel) rfl rfl rfl rfl ?_
      refine xe_isub (by decide +kernel) rfl ?_
      cases h
      exact xe_ret_i (ty := .int) (by decide +kernel) rfl rfl ⟨rfl, rfl, (xin_wr _)⟩
  · rw [if_neg c141] at h
    refine xe_iconst (n := -1) (by decide +kernel) rfl ?_
    refine xe_alr (ins := .aload_n 0) (len := 1) (i := 0) (by decide +kernel) rfl rfl rfl rfl rfl ?_
    obtain ⟨v162, e163, h⟩ := xbnd h
    refine xs_gr (i := 21) (c := 11) (k := 1) (by decide +kernel) (by decide) (by decide +kernel) e163 rfl ?_
    obtain ⟨v164, e165, h⟩ := xbnd h
    refine xs_gi (i := 125) (c := 4) (k := 2) (by decide +kernel) (by decide) (by decide +kernel) e165 rfl ?_
    refine xe_isub (by decide +kernel) rfl ?_
    cases h
    exact xe_ret_i (ty := .int) (by decide +kernel) rfl rfl ⟨rfl, rfl, (xin_wr _)⟩
def f1001_36   (f : Nat) (x0 : Nat) (x1 : Nat) (y0 : Nat) (M : xj_M) : Option (Int × xj_M) := ((xq_gr 11 0 (x0) M).bind fun v166 => ((xq_is 8 (v166) M).bind fun _ => ((f112  f (v166) M).bind fun M170 => ((xq_gr 11 1 (x0) M170).bind fun v172 => ((xq_is 4 (v172) M170).bind fun _ => ((f32 f (v172) (y0) M170).bind fun R176 => xhd R176 0 (f1001_61   f (x0) (x1) (0) R176.2) (fun _ => f1001_61   f (x0) (x1) (1) R176.2)))))))
theorem k1001_36 {d f : Nat}     {x0 : Nat} {x1 : Nat} {y0 : Nat} {M : xj_M} {R : Int × xj_M}  (h : f1001_36   f x0 x1 y0 M = some R) : xW (d + 8) (some (46, 54, 57, 123, 0), d + 8, none) xr_1001 (36, [(0, xR_ x0), (1, xR_ x1)], [xR_ y0], M) (xQi R) := by
  unfold f1001_36 at h
  refine xe_asr (ins := .astore_n 2) (len := 1) (i := 2) (by decide +kernel) rfl rfl rfl (by decide) (xk_k (show ¬ (0 : Nat) = 2 by decide) (Or.inl (show ¬ (0 + 1 : Nat) = 2 by decide)) (xk_k (show ¬ (1 : Nat) = 2 by decide) (Or.inr (xR_cat _)) xk_n)) rfl ?_
  refine xe_iconst (n := 1) (by decide +kernel) rfl ?_
  refine xe_isr (ins := .istore_n 3) (len := 1) (i := 3) (by decide +kernel) rfl rfl rfl (by decide) (xk_k (show ¬ (2 : Nat) = 3 by decide) (Or.inr (xR_cat _)) (xk_k (show ¬ (0 : Nat) = 3 by decide) (Or.inl (show ¬ (0 + 1 : Nat) = 3 by decide)) (xk_k (show ¬ (1 : Nat) = 3 by decide) (Or.inl (show ¬ (1 + 1 : Nat) = 3 by decide)) xk_n))) rfl ?_
  refine xe_alr (ins := .aload_n 0) (len := 1) (i := 0) (by decide +kernel) rfl rfl rfl rfl rfl ?_
  obtain ⟨v166, e167, h⟩ := xbnd h
  refine xs_gr (i := 10) (c := 11) (k := 0) (by decide +kernel) (by decide) (by decide +kernel) e167 rfl ?_
  obtain ⟨_, e169, h⟩ := xbnd h
  obtain ⟨M170, e168, h⟩ := xbnd h
  refine xs_cv (i := 116) (j := 112) (ar := []) (rest := []) (r2 := xr_112) (by decide +kernel) (by decide +kernel) (by decide +kernel) xr_112_e rfl (by decide) (by decide) e169 ?_
  refine xc_v (k112 (d := d + 0)   e168) rfl ?_
  refine xe_alr (ins := .aload_n 0) (len := 1) (i := 0) (by decide +kernel) rfl rfl rfl rfl rfl ?_
  obtain ⟨v172, e173, h⟩ := xbnd h
  refine xs_gr (i := 21) (c := 11) (k := 1) (by decide +kernel) (by decide) (by decide +kernel) e173 rfl ?_
  refine xe_alr (ins := .aload_n 2) (len := 1) (i := 2) (by decide +kernel) rfl rfl rfl rfl rfl ?_
  obtain ⟨_, e175, h⟩ := xbnd h
  obtain ⟨R176, e174, h⟩ := xbnd h
  refine xs2_cv (kd := 0) (jj := 32) (by decide) (i := 152) (j := 32) (ar := [xR_ (y0)]) (rest := []) (r2 := xr_32) (by decide +kernel) (by decide +kernel) (by decide +kernel) xr_32_e rfl (by decide) (by decide) e175 ?_
  refine xct_v (k32 (d := d + 0)  e174) rfl (fun e1 g178 => ?_) (fun g178 => ?_)
  · obtain ⟨e2, h⟩ := xhd_l g178 h
    refine xK_han2 (t := (46, 54, 57, 123, 0)) (i := 4) rfl ⟨by decide, by decide, e2⟩ (by decide +kernel) (by decide) (xk_k (show ¬ (3 : Nat) = 4 by decide) (Or.inr (xI_cat _)) (xk_k (show ¬ (2 : Nat) = 4 by decide) (Or.inl (show ¬ (2 + 1 : Nat) = 4 by decide)) (xk_k (show ¬ (0 : Nat) = 4 by decide) (Or.inl (show ¬ (0 + 1 : Nat) = 4 by decide)) (xk_k (show ¬ (1 : Nat) = 4 by decide) (Or.inl (show ¬ (1 + 1 : Nat) = 4 by decide)) xk_n)))) ?_
    refine xe_iconst (n := 0) (by decide +kernel) rfl ?_
    refine xe_isr (ins := .istore_n 3) (len := 1) (i := 3) (by decide +kernel) rfl rfl rfl (by decide) (xk_d rfl (xk_k (show ¬ (2 : Nat) = 3 by decide) (Or.inr (xR_cat _)) (xk_k (show ¬ (0 : Nat) = 3 by decide) (Or.inl (show ¬ (0 + 1 : Nat) = 3 by decide)) (xk_k (show ¬ (1 : Nat) = 3 by decide) (Or.inl (show ¬ (1 + 1 : Nat) = 3 by decide)) xk_n)))) rfl ?_
    refine xW_lv2 (l := [(0, xR_ (x0)), (1, xR_ (x1)), (3, xI (0))]) (xsb_of ⟨rfl, rfl, rfl, trivial⟩ (show [3, 2, 0, 1].Nodup by decide)) ?_
    exact k1001_61   (show xin (0) by decide) h
  · rw [xhd_r g178] at h
    refine xe_goto (off := 7) (nx := 61) (by decide +kernel) (by decide) ?_
    refine xW_lv2 (l := [(0, xR_ (x0)), (1, xR_ (x1)), (3, xI (1))]) (xsb_of ⟨rfl, rfl, rfl, trivial⟩ (show [3, 2, 0, 1].Nodup by decide)) ?_
    exact k1001_61   (show xin (1) by decide) h
def f1001  (f : Nat) (a0 : Nat) (M : xj_M) : Option (Int × xj_M) := ((xq_pi 11 9 (a0) (-1) M).bind fun M180 => ((xq_gr 11 5 (a0) M180).bind fun v182 => ((xq_gi 11 6 (a0) M180).bind fun v184 => ((xq_ar (v182) (v184) M180).bind fun v186 => ((xq_gr 1 7 (v186) M180).bind fun v188 => (if (v188) = 0 then ((xq_is 1 (v186) M180).bind fun _ => ((f5  f (v186) M180).bind fun R193 => ((xq_gr 2 0 (R193.1) R193.2).bind fun v195 => f1001_36   f (a0) (v186) (v195) R193.2))) else ((xq_gr 1 7 (v186) M180).bind fun v197 => f1001_36   f (a0) (v186) (v197) M180)))))))
theorem k1001 {d f : Nat}   {a0 : Nat} {M : xj_M} {R : Int × xj_M}  (h : f1001  f a0 M = some R) : xT (d + 9) 1001 [xR_ a0] M (xQi R) := by
  refine xT_m xr_1001_e (X := (some (46, 54, 57, 123, 0), d + 8, none)) rfl (xa_1 (xR_cat _) xa_n) (by decide) ?_
  unfold f1001 at h
  refine xe_alr (ins := .aload_n 0) (len := 1) (i := 0) (by decide +kernel) rfl rfl rfl rfl rfl ?_
  refine xe_iconst (n := -1) (by decide +kernel) rfl ?_
  obtain ⟨M180, e181, h⟩ := xbnd h
  refine xs_p (i := 54) (c := 11) (k := 9) (by decide +kernel) (by decide +kernel) (by decide +kernel) e181 rfl ?_
  refine xe_alr (ins := .aload_n 0) (len := 1) (i := 0) (by decide +kernel) rfl rfl rfl rfl rfl ?_
  obtain ⟨v182, e183, h⟩ := xbnd h
  refine xs_gr (i := 50) (c := 11) (k := 5) (by decide +kernel) (by decide) (by decide +kernel) e183 rfl ?_
  refine xe_alr (ins := .aload_n 0) (len := 1) (i := 0) (by decide +kernel) rfl rfl rfl rfl rfl ?_
  obtain ⟨v184, e185, h⟩ := xbnd h
  refine xs_gi (i := 132) (c := 11) (k := 6) (by decide +kernel) (by decide) (by decide +kernel) e185 rfl ?_
  obtain ⟨v186, e187, h⟩ := xbnd h
  refine xs_aald (by decide +kernel) (xq_gi_in e185) e187 rfl ?_
  refine xe_asr (ins := .astore_n 1) (len := 1) (i := 1) (by decide +kernel) rfl rfl rfl (by decide) (xk_k (show ¬ (0 : Nat) = 1 by decide) (Or.inr (xR_cat _)) xk_n) rfl ?_
  refine xe_alr (ins := .aload_n 1) (len := 1) (i := 1) (by decide +kernel) rfl rfl rfl rfl rfl ?_
  obtain ⟨v188, e189, h⟩ := xbnd h
  refine xs_gr (i := 135) (c := 1) (k := 7) (by decide +kernel) (by decide) (by decide +kernel) e189 rfl ?_
  refine xe_ifnull (off := 10) (t := 29) (by decide +kernel) (by decide) rfl (fun c190 => ?_) (fun c190 => ?_)
  · rw [if_pos c190] at h
    refine xe_alr (ins := .aload_n 1) (len := 1) (i := 1) (by decide +kernel) rfl rfl rfl rfl rfl ?_
    obtain ⟨_, e192, h⟩ := xbnd h
    obtain ⟨R193, e191, h⟩ := xbnd h
    refine xs_cv (i := 145) (j := 5) (ar := []) (rest := []) (r2 := xr_5) (by decide +kernel) (by decide +kernel) (by decide +kernel) xr_5_e rfl (by decide) (by decide) e192 ?_
    refine xc_r (k5 (d := d + 7)   e191) rfl ?_
    obtain ⟨v195, e196, h⟩ := xbnd h
    refine xs_gr (i := 149) (c := 2) (k := 0) (by decide +kernel) (by decide) (by decide +kernel) e196 rfl ?_
    refine xW_lv2 (l := [(0, xR_ (a0)), (1, xR_ (v186))]) (xsb_of ⟨rfl, rfl, trivial⟩ (show [1, 0].Nodup by decide)) ?_
    exact k1001_36    h
  · rw [if_neg c190] at h
    refine xe_alr (ins := .aload_n 1) (len := 1) (i := 1) (by decide +kernel) rfl rfl rfl rfl rfl ?_
    obtain ⟨v197, e198, h⟩ := xbnd h
    refine xs_gr (i := 135) (c := 1) (k := 7) (by decide +kernel) (by decide) (by decide +kernel) e198 rfl ?_
    refine xe_goto (off := 10) (nx := 36) (by decide +kernel) (by decide) ?_
    refine xW_lv2 (l := [(0, xR_ (a0)), (1, xR_ (v186))]) (xsb_of ⟨rfl, rfl, trivial⟩ (show [1, 0].Nodup by decide)) ?_
    exact k1001_36    h
