/-! Mirrors (written by mk_mir.py) -/
-- ChangeHouseModel.change
def xr_301 : xj_mR := (15, yX15_change, cX15_change, 6, (Option.none : Option Jvm.ClassFile.FieldType), 2, false, (9, 143), (1, 12))
set_option maxRecDepth 20000 in
theorem xr_301_e : xj_row 301 = some xr_301 := rfl
def f301_49   (f : Nat)  (M : xj_M) : Option (xj_M) := (some M)
theorem k301_49 {d f : Nat}      {M : xj_M} {R : xj_M}  (h : f301_49   f  M = some R) : xW (d + 3) (none, d + 3, none) xr_301 (49, [], [], M) (xQv R) := by
  unfold f301_49 at h
  cases h
  exact xe_ret_v (by decide +kernel) rfl ⟨rfl, rfl⟩
def f301_86   (f : Nat)  (M : xj_M) : Option (xj_M) := (some M)
theorem k301_86 {d f : Nat}      {M : xj_M} {R : xj_M}  (h : f301_86   f  M = some R) : xW (d + 3) (none, d + 3, none) xr_301 (86, [], [], M) (xQv R) := by
  unfold f301_86 at h
  cases h
  exact xe_ret_v (by decide +kernel) rfl ⟨rfl, rfl⟩
def f301_161  (r104 : Nat → Nat → Int → Int → Int → xj_M → Option (xj_M)) (f : Nat) (x0 : Nat) (x1 : Nat) (x2 : Int) (x3 : Int) (x5 : Int) (M : xj_M) : Option (xj_M) := r104 (x0) (x1) (x2) (x3) (xwr ((x5) + (-1))) M
theorem k301_161 {d f : Nat}  {r104 : Nat → Nat → Int → Int → Int → xj_M → Option (xj_M)}  (hr104 : ∀ {x0 : Nat} {x1 : Nat} {x2 : Int} {x3 : Int} {x5 : Int} {M : xj_M} {R : xj_M}, xin x2 → xin x3 → xin x5 → r104 x0 x1 x2 x3 x5 M = some R → xW (d + 3) (none, d + 3, none) xr_301 (104, [(0, xR_ x0), (1, xR_ x1), (2, xI x2), (3, xI x3), (5, xI x5)], [], M) (xQv R)) {x0 : Nat} {x1 : Nat} {x2 : Int} {x3 : Int} {x5 : Int} {M : xj_M} {R : xj_M} (hx2 : xin x2) (hx3 : xin x3) (hx5 : xin x5) (h : f301_161  r104 f x0 x1 x2 x3 x5 M = some R) : xW (d + 3) (none, d + 3, none) xr_301 (161, [(0, xR_ x0), (1, xR_ x1), (2, xI x2), (3, xI x3), (5, xI x5)], [], M) (xQv R) := by
  unfold f301_161 at h
  refine xe_iincr (i := 5) (n := -1) (by decide +kernel) (by decide) rfl (xk_k (show ¬ (0 : Nat) = 5 by decide) (Or.inl (show ¬ (0 + 1 : Nat) = 5 by decide)) (xk_k (show ¬ (1 : Nat) = 5 by decide) (Or.inl (show ¬ (1 + 1 : Nat) = 5 by decide)) (xk_k (show ¬ (2 : Nat) = 5 by decide) (Or.inl (show ¬ (2 + 1 : Nat) = 5 by decide)) (xk_k (show ¬ (3 : Nat) = 5 by decide) (Or.inl (show ¬ (3 + 1 : Nat) = 5 by decide)) (xk_d rfl xk_n))))) rfl ?_
  refine xe_goto (off := -60) (nx := 104) (by decide +kernel) (by decide) ?_
  refine xW_lv rfl (l := [(0, xR_ (x0)), (1, xR_ (x1)), (2, xI (x2)), (3, xI (x3)), (5, xI (xwr ((x5) + (-1))))]) (xsb_of ⟨rfl, rfl, rfl, rfl, rfl, trivial⟩ (show [5, 0, 1, 2, 3].Nodup by decide)) ?_
  exact hr104 hx2 hx3 (xin_wr _) h
def f301_167   (f : Nat) (x0 : Nat) (x1 : Nat) (x2 : Int) (x3 : Int) (M : xj_M) : Option (xj_M) := ((xq_gr 13 32 (x1) M).bind fun v101 => ((xq_is 15 (x0) M).bind fun _ => ((f264  f (x0) (x3) (v101) (xwr ((4) * (x2))) (0) M).bind fun M105 => (some M105))))
theorem k301_167 {d f : Nat}     {x0 : Nat} {x1 : Nat} {x2 : Int} {x3 : Int} {M : xj_M} {R : xj_M} (hx2 : xin x2) (hx3 : xin x3) (h : f301_167   f x0 x1 x2 x3 M = some R) : xW (d + 3) (none, d + 3, none) xr_301 (167, [(0, xR_ x0), (1, xR_ x1), (2, xI x2), (3, xI x3)], [], M) (xQv R) := by
  unfold f301_167 at h
  refine xe_alr (ins := .aload_n 0) (len := 1) (i := 0) (by decide +kernel) rfl rfl rfl rfl rfl ?_
  refine xe_ldn (ins := .iload_n 3) (len := 1) (by decide +kernel) rfl rfl rfl rfl ?_
  refine xe_alr (ins := .aload_n 1) (len := 1) (i := 1) (by decide +kernel) rfl rfl rfl rfl rfl ?_
  obtain ⟨v101, e102, h⟩ := xbnd h
  refine xs_gr (i := 779) (c := 13) (k := 32) (by decide +kernel) (by decide) (by decide +kernel) e102 rfl ?_
  refine xe_iconst (n := 4) (by decide +kernel) rfl ?_
  refine xe_ldn (ins := .iload_n 2) (len := 1) (by decide +kernel) rfl rfl rfl rfl ?_
  refine xe_imul (by decide +kernel) rfl ?_
  refine xe_iconst (n := 0) (by decide +kernel) rfl ?_
  obtain ⟨_, e104, h⟩ := xbnd h
  obtain ⟨M105, e103, h⟩ := xbnd h
  refine xs_cv (i := 626) (j := 264) (ar := [xI (0), xI (xwr ((4) * (x2))), xR_ (v101), xI (x3)]) (rest := []) (r2 := xr_264) (by decide +kernel) (by decide +kernel) (by decide +kernel) xr_264_e rfl (by decide) (by decide) e104 ?_
  refine xc_v (k264 (d := d + 0)  hx3 (xin_wr _) (show xin (0) by decide) e103) rfl ?_
  cases h
  exact xe_ret_v (by decide +kernel) rfl ⟨rfl, rfl⟩
def f301_104b  (r104 : Nat → Nat → Int → Int → Int → xj_M → Option (xj_M)) (f : Nat) (x0 : Nat) (x1 : Nat) (x2 : Int) (x3 : Int) (x5 : Int) (M : xj_M) : Option (xj_M) := (if (x5) < 0 then f301_167   f (x0) (x1) (x2) (x3) M else ((xq_gr 15 29 (x0) M).bind fun v108 => ((xq_gr 14 2 (v108) M).bind fun v110 => ((xq_ai 3 (v110) (x3) M).bind fun v112 => (if (v112) ≤ 0 then f301_167   f (x0) (x1) (x2) (x3) M else ((xq_gr 15 32 (x0) M).bind fun v115 => ((xq_is 15 (x0) M).bind fun _ => ((f261  f (x0) (x3) (x5) M).bind fun R119 => ((xq_gr 13 32 (x1) R119.2).bind fun v121 => ((xq_gr 15 29 (x0) R119.2).bind fun v123 => ((xq_gr 14 2 (v123) R119.2).bind fun v125 => ((xq_ai 3 (v125) (x3) R119.2).bind fun v127 => ((f262  f (v115) (R119.1) (v121) (xwr ((4) * (x2))) (v127) R119.2).bind fun R130 => (if ¬ (R130.1) = 0 then f301_161  r104 f (x0) (x1) (x2) (x3) (x5) R130.2 else ((xq_is 15 (x0) R130.2).bind fun _ => ((f265  f (x0) (x3) (x5) R130.2).bind fun M135 => f301_161  r104 f (x0) (x1) (x2) (x3) (x5) M135))))))))))))))))
theorem k301_104b {d f : Nat}  {r104 : Nat → Nat → Int → Int → Int → xj_M → Option (xj_M)}  (hr104 : ∀ {x0 : Nat} {x1 : Nat} {x2 : Int} {x3 : Int} {x5 : Int} {M : xj_M} {R : xj_M}, xin x2 → xin x3 → xin x5 → r104 x0 x1 x2 x3 x5 M = some R → xW (d + 3) (none, d + 3, none) xr_301 (104, [(0, xR_ x0), (1, xR_ x1), (2, xI x2), (3, xI x3), (5, xI x5)], [], M) (xQv R)) {x0 : Nat} {x1 : Nat} {x2 : Int} {x3 : Int} {x5 : Int} {M : xj_M} {R : xj_M} (hx2 : xin x2) (hx3 : xin x3) (hx5 : xin x5) (h : f301_104b  r104 f x0 x1 x2 x3 x5 M = some R) : xW (d + 3) (none, d + 3, none) xr_301 (104, [(0, xR_ x0), (1, xR_ x1), (2, xI x2), (3, xI x3), (5, xI x5)], [], M) (xQv R) := by
  unfold f301_104b at h
  refine xe_ldn (ins := .iload 5) (len := 2) (by decide +kernel) rfl rfl rfl rfl ?_
  refine xe_iflt (off := 61) (t := 167) (by decide +kernel) (by decide) rfl hx5 (fun c107 => ?_) (fun c107 => ?_)
  · rw [if_pos c107] at h
    refine xW_lv rfl (l := [(0, xR_ (x0)), (1, xR_ (x1)), (2, xI (x2)), (3, xI (x3))]) (xsb_of ⟨rfl, rfl, rfl, rfl, trivial⟩ (show [0, 1, 2, 3, 5].Nodup by decide)) ?_
    exact k301_167   hx2 hx3 h
  · rw [if_neg c107] at h
    refine xe_alr (ins := .aload_n 0) (len := 1) (i := 0) (by decide +kernel) rfl rfl rfl rfl rfl ?_
    obtain ⟨v108, e109, h⟩ := xbnd h
    refine xs_gr (i := 439) (c := 15) (k := 29) (by decide +kernel) (by decide) (by decide +kernel) e109 rfl ?_
    obtain ⟨v110, e111, h⟩ := xbnd h
    refine xs_gr (i := 184) (c := 14) (k := 2) (by decide +kernel) (by decide) (by decide +kernel) e111 rfl ?_
    refine xe_ldn (ins := .iload_n 3) (len := 1) (by decide +kernel) rfl rfl rfl rfl ?_
    obtain ⟨v112, e113, h⟩ := xbnd h
    refine xs_iald rfl (by decide +kernel) hx3 e113 rfl ?_
    refine xe_ifle (off := 49) (t := 167) (by decide +kernel) (by decide) rfl (xq_ai_in e113) (fun c114 => ?_) (fun c114 => ?_)
    · rw [if_pos c114] at h
      refine xW_lv rfl (l := [(0, xR_ (x0)), (1, xR_ (x1)), (2, xI (x2)), (3, xI (x3))]) (xsb_of ⟨rfl, rfl, rfl, rfl, trivial⟩ (show [0, 1, 2, 3, 5].Nodup by decide)) ?_
      exact k301_167   hx2 hx3 h
    · rw [if_neg c114] at h
      refine xe_alr (ins := .aload_n 0) (len := 1) (i := 0) (by decide +kernel) rfl rfl rfl rfl rfl ?_
      obtain ⟨v115, e116, h⟩ := xbnd h
      refine xs_gr (i := 433) (c := 15) (k := 32) (by decide +kernel) (by decide) (by decide +kernel) e116 rfl ?_
      refine xe_alr (ins := .aload_n 0) (len := 1) (i := 0) (by decide +kernel) rfl rfl rfl rfl rfl ?_
      refine xe_ldn (ins := .iload_n 3) (len := 1) (by decide +kernel) rfl rfl rfl rfl ?_
      refine xe_ldn (ins := .iload 5) (len := 2) (by decide +kernel) rfl rfl rfl rfl ?_
      obtain ⟨_, e118, h⟩ := xbnd h
      obtain ⟨R119, e117, h⟩ := xbnd h
      refine xs_cv (i := 436) (j := 261) (ar := [xI (x5), xI (x3)]) (rest := [xR_ (v115)]) (r2 := xr_261) (by decide +kernel) (by decide +kernel) (by decide +kernel) xr_261_e rfl (by decide) (by simp only [List.map_cons, List.map_nil, List.sum_cons, List.sum_nil, xR_cat, xI_cat, xZ_cat]; decide) e118 ?_
      refine xc_i (k261 (d := d + 2)  hx3 hx5 e117) rfl (fun hi120 => ?_)
      refine xe_alr (ins := .aload_n 1) (len := 1) (i := 1) (by decide +kernel) rfl rfl rfl rfl rfl ?_
      obtain ⟨v121, e122, h⟩ := xbnd h
      refine xs_gr (i := 779) (c := 13) (k := 32) (by decide +kernel) (by decide) (by decide +kernel) e122 rfl ?_
      refine xe_iconst (n := 4) (by decide +kernel) rfl ?_
      refine xe_ldn (ins := .iload_n 2) (len := 1) (by decide +kernel) rfl rfl rfl rfl ?_
      refine xe_imul (by decide +kernel) rfl ?_
      refine xe_alr (ins := .aload_n 0) (len := 1) (i := 0) (by decide +kernel) rfl rfl rfl rfl rfl ?_
      obtain ⟨v123, e124, h⟩ := xbnd h
      refine xs_gr (i := 439) (c := 15) (k := 29) (by decide +kernel) (by decide) (by decide +kernel) e124 rfl ?_
      obtain ⟨v125, e126, h⟩ := xbnd h
      refine xs_gr (i := 184) (c := 14) (k := 2) (by decide +kernel) (by decide) (by decide +kernel) e126 rfl ?_
      refine xe_ldn (ins := .iload_n 3) (len := 1) (by decide +kernel) rfl rfl rfl rfl ?_
      obtain ⟨v127, e128, h⟩ := xbnd h
      refine xs_iald rfl (by decide +kernel) hx3 e128 rfl ?_
      obtain ⟨R130, e129, h⟩ := xbnd h
      refine xs_cs (kd := 2) (by decide) (i := 442) (j := 262) (ar := [xI (v127), xI (xwr ((4) * (x2))), xR_ (v121), xI (R119.1), xR_ (v115)]) (rest := []) (r2 := xr_262) (by decide +kernel) (by decide +kernel) (by decide +kernel) xr_262_e rfl (by decide) ?_
      refine xc_i (k262 (d := d + 2)  hi120 (xin_wr _) (xq_ai_in e128) e129) rfl (fun hi131 => ?_)
      refine xe_ifne (off := 10) (t := 161) (by decide +kernel) (by decide) rfl hi131 (fun c132 => ?_) (fun c132 => ?_)
      · rw [if_pos c132] at h
        refine xW_lv rfl (l := [(0, xR_ (x0)), (1, xR_ (x1)), (2, xI (x2)), (3, xI (x3)), (5, xI (x5))]) (xsb_of ⟨rfl, rfl, rfl, rfl, rfl, trivial⟩ (show [0, 1, 2, 3, 5].Nodup by decide)) ?_
        exact k301_161  hr104 hx2 hx3 hx5 h
      · rw [if_neg c132] at h
        refine xe_alr (ins := .aload_n 0) (len := 1) (i := 0) (by decide +kernel) rfl rfl rfl rfl rfl ?_
        refine xe_ldn (ins := .iload_n 3) (len := 1) (by decide +kernel) rfl rfl rfl rfl ?_
        refine xe_ldn (ins := .iload 5) (len := 2) (by decide +kernel) rfl rfl rfl rfl ?_
        obtain ⟨_, e134, h⟩ := xbnd h
        obtain ⟨M135, e133, h⟩ := xbnd h
        refine xs_cv (i := 782) (j := 265) (ar := [xI (x5), xI (x3)]) (rest := []) (r2 := xr_265) (by decide +kernel) (by decide +kernel) (by decide +kernel) xr_265_e rfl (by decide) (by decide) e134 ?_
        refine xc_v (k265 (d := d + 1)  hx3 hx5 e133) rfl ?_
        refine xW_lv rfl (l := [(0, xR_ (x0)), (1, xR_ (x1)), (2, xI (x2)), (3, xI (x3)), (5, xI (x5))]) (xsb_of ⟨rfl, rfl, rfl, rfl, rfl, trivial⟩ (show [0, 1, 2, 3, 5].Nodup by decide)) ?_
        exact k301_161  hr104 hx2 hx3 hx5 h
def f301_104   (f : Nat) : Nat → Nat → Nat → Int → Int → Int → xj_M → Option (xj_M)
  | 0, _, _, _, _, _, _ => none
  | n + 1, x0, x1, x2, x3, x5, M => f301_104b   (f301_104   f n) f x0 x1 x2 x3 x5 M
theorem k301_104 {d f : Nat}     : ∀ {n : Nat} {x0 : Nat} {x1 : Nat} {x2 : Int} {x3 : Int} {x5 : Int} {M : xj_M} {R : xj_M}, xin x2 → xin x3 → xin x5 → f301_104   f n x0 x1 x2 x3 x5 M = some R → xW (d + 3) (none, d + 3, none) xr_301 (104, [(0, xR_ x0), (1, xR_ x1), (2, xI x2), (3, xI x3), (5, xI x5)], [], M) (xQv R) := by
  intro n
  induction n with
  | zero => intros; rename_i h; cases h
  | succ n ih => intros; rename_i h; exact k301_104b   ih (by assumption) (by assumption) (by assumption) h
def f301  (f : Nat) (a0 : Nat) (a1 : Nat) (a2 : Int) (M : xj_M) : Option (xj_M) := ((xq_gr 15 29 (a0) M).bind fun v137 => ((xq_gr 13 31 (a1) M).bind fun v139 => ((xq_al (v139) (a2) M).bind fun v141 => ((xq_is 14 (v137) M).bind fun _ => ((f205  f (v137) (v141) M).bind fun R145 => (if (R145.1) = (-1) then f301_49   f  R145.2 else ((xq_gr 15 29 (a0) R145.2).bind fun v148 => ((xq_gr 14 5 (v148) R145.2).bind fun v150 => ((xq_ab (v150) (R145.1) R145.2).bind fun v152 => (if (v152) = 0 then f301_49   f  R145.2 else ((xq_gr 15 29 (a0) R145.2).bind fun v155 => ((xq_gr 14 1 (v155) R145.2).bind fun v157 => ((xq_ai 3 (v157) (R145.1) R145.2).bind fun v159 => ((xq_gr 13 29 (a1) R145.2).bind fun v161 => ((xq_ai 3 (v161) (a2) R145.2).bind fun v163 => (if (v159) = (v163) then ((xq_gr 13 32 (a1) R145.2).bind fun v166 => ((xq_is 15 (a0) R145.2).bind fun _ => ((f263  f (a0) (R145.1) (v166) (xwr ((4) * (a2))) R145.2).bind fun R170 => ((xq_gr 13 28 (a1) R170.2).bind fun v172 => ((xq_ai 3 (v172) (a2) R170.2).bind fun v174 => (if 0 ≤ (v174) then (if (R170.1) = (-1) then ((xq_gr 15 33 (a0) R170.2).bind fun v178 => ((xq_ai 3 (v178) (R145.1) R170.2).bind fun v180 => f301_104   f f (a0) (a1) (a2) (R145.1) (xwr ((v180) - (1))) R170.2)) else (some R170.2)) else (if (R170.1) = (-1) then f301_86   f  R170.2 else ((xq_is 15 (a0) R170.2).bind fun _ => ((f265  f (a0) (R145.1) (R170.1) R170.2).bind fun M185 => f301_86   f  M185))))))))) else f301_49   f  R145.2))))))))))))))))
theorem k301 {d f : Nat}   {a0 : Nat} {a1 : Nat} {a2 : Int} {M : xj_M} {R : xj_M} (ha2 : xin a2) (h : f301  f a0 a1 a2 M = some R) : xT (d + 4) 301 [xR_ a0, xR_ a1, xI a2] M (xQv R) := by
  refine xT_m xr_301_e (X := (none, d + 3, none)) rfl (xa_1 (xR_cat _) (xa_1 (xR_cat _) (xa_1 (xI_cat _) xa_n))) (by decide) ?_
  unfold f301 at h
  refine xe_alr (ins := .aload_n 0) (len := 1) (i := 0) (by decide +kernel) rfl rfl rfl rfl rfl ?_
  obtain ⟨v137, e138, h⟩ := xbnd h
  refine xs_gr (i := 439) (c := 15) (k := 29) (by decide +kernel) (by decide) (by decide +kernel) e138 rfl ?_
  refine xe_alr (ins := .aload_n 1) (len := 1) (i := 1) (by decide +kernel) rfl rfl rfl rfl rfl ?_
  obtain ⟨v139, e140, h⟩ := xbnd h
  refine xs_gr (i := 777) (c := 13) (k := 31) (by decide +kernel) (by decide) (by decide +kernel) e140 rfl ?_
  refine xe_ldn (ins := .iload_n 2) (len := 1) (by decide +kernel) rfl rfl rfl rfl ?_
  obtain ⟨v141, e142, h⟩ := xbnd h
  refine xs_lald (by decide +kernel) ha2 e142 rfl ?_
  obtain ⟨_, e144, h⟩ := xbnd h
  obtain ⟨R145, e143, h⟩ := xbnd h
  refine xs_cv (i := 213) (j := 205) (ar := [xZ (v141)]) (rest := []) (r2 := xr_205) (by decide +kernel) (by decide +kernel) (by decide +kernel) xr_205_e rfl (by decide) (by decide) e144 ?_
  refine xc_i (k205 (d := d + 2)  (xq_al_in e142) e143) rfl (fun hi146 => ?_)
  refine xe_isr (ins := .istore_n 3) (len := 1) (i := 3) (by decide +kernel) rfl rfl rfl (by decide) (xk_k (show ¬ (0 : Nat) = 3 by decide) (Or.inl (show ¬ (0 + 1 : Nat) = 3 by decide)) (xk_k (show ¬ (1 : Nat) = 3 by decide) (Or.inl (show ¬ (1 + 1 : Nat) = 3 by decide)) (xk_k (show ¬ (2 : Nat) = 3 by decide) (Or.inr (xI_cat _)) xk_n))) rfl ?_
  refine xe_ldn (ins := .iload_n 3) (len := 1) (by decide +kernel) rfl rfl rfl rfl ?_
  refine xe_iconst (n := -1) (by decide +kernel) rfl ?_
  refine xe_icmpeq (off := 33) (t := 49) (by decide +kernel) (by decide) rfl hi146 (show xin (-1) by decide) (fun c147 => ?_) (fun c147 => ?_)
  · rw [if_pos c147] at h
    refine xW_lv rfl (l := []) (xsb_of trivial (show [3, 0, 1, 2].Nodup by decide)) ?_
    exact k301_49    h
  · rw [if_neg c147] at h
    refine xe_alr (ins := .aload_n 0) (len := 1) (i := 0) (by decide +kernel) rfl rfl rfl rfl rfl ?_
    obtain ⟨v148, e149, h⟩ := xbnd h
    refine xs_gr (i := 439) (c := 15) (k := 29) (by decide +kernel) (by decide) (by decide +kernel) e149 rfl ?_
    obtain ⟨v150, e151, h⟩ := xbnd h
    refine xs_gr (i := 187) (c := 14) (k := 5) (by decide +kernel) (by decide) (by decide +kernel) e151 rfl ?_
    refine xe_ldn (ins := .iload_n 3) (len := 1) (by decide +kernel) rfl rfl rfl rfl ?_
    obtain ⟨v152, e153, h⟩ := xbnd h
    refine xs_bald (by decide +kernel) hi146 e153 rfl ?_
    refine xe_ifeq (off := 21) (t := 49) (by decide +kernel) (by decide) rfl (xq_ab_in e153) (fun c154 => ?_) (fun c154 => ?_)
    · rw [if_pos c154] at h
      refine xW_lv rfl (l := []) (xsb_of trivial (show [3, 0, 1, 2].Nodup by decide)) ?_
      exact k301_49    h
    · rw [if_neg c154] at h
      refine xe_alr (ins := .aload_n 0) (len := 1) (i := 0) (by decide +kernel) rfl rfl rfl rfl rfl ?_
      obtain ⟨v155, e156, h⟩ := xbnd h
      refine xs_gr (i := 439) (c := 15) (k := 29) (by decide +kernel) (by decide) (by decide +kernel) e156 rfl ?_
      obtain ⟨v157, e158, h⟩ := xbnd h
      refine xs_gr (i := 180) (c := 14) (k := 1) (by decide +kernel) (by decide) (by decide +kernel) e158 rfl ?_
      refine xe_ldn (ins := .iload_n 3) (len := 1) (by decide +kernel) rfl rfl rfl rfl ?_
      obtain ⟨v159, e160, h⟩ := xbnd h
      refine xs_iald rfl (by decide +kernel) hi146 e160 rfl ?_
      refine xe_alr (ins := .aload_n 1) (len := 1) (i := 1) (by decide +kernel) rfl rfl rfl rfl rfl ?_
      obtain ⟨v161, e162, h⟩ := xbnd h
      refine xs_gr (i := 778) (c := 13) (k := 29) (by decide +kernel) (by decide) (by decide +kernel) e162 rfl ?_
      refine xe_ldn (ins := .iload_n 2) (len := 1) (by decide +kernel) rfl rfl rfl rfl ?_
      obtain ⟨v163, e164, h⟩ := xbnd h
      refine xs_iald rfl (by decide +kernel) ha2 e164 rfl ?_
      refine xe_icmpeq (off := 4) (t := 50) (by decide +kernel) (by decide) rfl (xq_ai_in e160) (xq_ai_in e164) (fun c165 => ?_) (fun c165 => ?_)
      · rw [if_pos c165] at h
        refine xe_alr (ins := .aload_n 0) (len := 1) (i := 0) (by decide +kernel) rfl rfl rfl rfl rfl ?_
        refine xe_ldn (ins := .iload_n 3) (len := 1) (by decide +kernel) rfl rfl rfl rfl ?_
        refine xe_alr (ins := .aload_n 1) (len := 1) (i := 1) (by decide +kernel) rfl rfl rfl rfl rfl ?_
        obtain ⟨v166, e167, h⟩ := xbnd h
        refine xs_gr (i := 779) (c := 13) (k := 32) (by decide +kernel) (by decide) (by decide +kernel) e167 rfl ?_
        refine xe_iconst (n := 4) (by decide +kernel) rfl ?_
        refine xe_ldn (ins := .iload_n 2) (len := 1) (by decide +kernel) rfl rfl rfl rfl ?_
        refine xe_imul (by decide +kernel) rfl ?_
        obtain ⟨_, e169, h⟩ := xbnd h
        obtain ⟨R170, e168, h⟩ := xbnd h
        refine xs_cv (i := 446) (j := 263) (ar := [xI (xwr ((4) * (a2))), xR_ (v166), xI (R145.1)]) (rest := []) (r2 := xr_263) (by decide +kernel) (by decide +kernel) (by decide +kernel) xr_263_e rfl (by decide) (by decide) e169 ?_
        refine xc_i (k263 (d := d + 1)  hi146 (xin_wr _) e168) rfl (fun hi171 => ?_)
        refine xe_isr (ins := .istore 4) (len := 2) (i := 4) (by decide +kernel) rfl rfl rfl (by decide) (xk_k (show ¬ (3 : Nat) = 4 by decide) (Or.inr (xI_cat _)) (xk_k (show ¬ (0 : Nat) = 4 by decide) (Or.inl (show ¬ (0 + 1 : Nat) = 4 by decide)) (xk_k (show ¬ (1 : Nat) = 4 by decide) (Or.inl (show ¬ (1 + 1 : Nat) = 4 by decide)) (xk_k (show ¬ (2 : Nat) = 4 by decide) (Or.inl (show ¬ (2 + 1 : Nat) = 4 by decide)) xk_n)))) rfl ?_
        refine xe_alr (ins := .aload_n 1) (len := 1) (i := 1) (by decide +kernel) rfl rfl rfl rfl rfl ?_
        obtain ⟨v172, e173, h⟩ := xbnd h
        refine xs_gr (i := 780) (c := 13) (k := 28) (by decide +kernel) (by decide) (by decide +kernel) e173 rfl ?_
        refine xe_ldn (ins := .iload_n 2) (len := 1) (by decide +kernel) rfl rfl rfl rfl ?_
        obtain ⟨v174, e175, h⟩ := xbnd h
        refine xs_iald rfl (by decide +kernel) ha2 e175 rfl ?_
        refine xe_ifge (off := 17) (t := 87) (by decide +kernel) (by decide) rfl (xq_ai_in e175) (fun c176 => ?_) (fun c176 => ?_)
        · rw [if_pos c176] at h
          refine xe_ldn (ins := .iload 4) (len := 2) (by decide +kernel) rfl rfl rfl rfl ?_
          refine xe_iconst (n := -1) (by decide +kernel) rfl ?_
          refine xe_icmpeq (off := 4) (t := 94) (by decide +kernel) (by decide) rfl hi171 (show xin (-1) by decide) (fun c177 => ?_) (fun c177 => ?_)
          · rw [if_pos c177] at h
            refine xe_alr (ins := .aload_n 0) (len := 1) (i := 0) (by decide +kernel) rfl rfl rfl rfl rfl ?_
            obtain ⟨v178, e179, h⟩ := xbnd h
            refine xs_gr (i := 430) (c := 15) (k := 33) (by decide +kernel) (by decide) (by decide +kernel) e179 rfl ?_
            refine xe_ldn (ins := .iload_n 3) (len := 1) (by decide +kernel) rfl rfl rfl rfl ?_
            obtain ⟨v180, e181, h⟩ := xbnd h
            refine xs_iald rfl (by decide +kernel) hi146 e181 rfl ?_
            refine xe_iconst (n := 1) (by decide +kernel) rfl ?_
            refine xe_isub (by decide +kernel) rfl ?_
            refine xe_isr (ins := .istore 5) (len := 2) (i := 5) (by decide +kernel) rfl rfl rfl (by decide) (xk_k (show ¬ (4 : Nat) = 5 by decide) (Or.inr (xI_cat _)) (xk_k (show ¬ (3 : Nat) = 5 by decide) (Or.inl (show ¬ (3 + 1 : Nat) = 5 by decide)) (xk_k (show ¬ (0 : Nat) = 5 by decide) (Or.inl (show ¬ (0 + 1 : Nat) = 5 by decide)) (xk_k (show ¬ (1 : Nat) = 5 by decide) (Or.inl (show ¬ (1 + 1 : Nat) = 5 by decide)) (xk_k (show ¬ (2 : Nat) = 5 by decide) (Or.inl (show ¬ (2 + 1 : Nat) = 5 by decide)) xk_n))))) rfl ?_
            refine xW_lv rfl (l := [(0, xR_ (a0)), (1, xR_ (a1)), (2, xI (a2)), (3, xI (R145.1)), (5, xI (xwr ((v180) - (1))))]) (xsb_of ⟨rfl, rfl, rfl, rfl, rfl, trivial⟩ (show [5, 4, 3, 0, 1, 2].Nodup by decide)) ?_
            exact k301_104   ha2 hi146 (xin_wr _) h
          · rw [if_neg c177] at h
            cases h
            exact xe_ret_v (by decide +kernel) rfl ⟨rfl, rfl⟩
        · rw [if_neg c176] at h
          refine xe_ldn (ins := .iload 4) (len := 2) (by decide +kernel) rfl rfl rfl rfl ?_
          refine xe_iconst (n := -1) (by decide +kernel) rfl ?_
          refine xe_icmpeq (off := 10) (t := 86) (by decide +kernel) (by decide) rfl hi171 (show xin (-1) by decide) (fun c182 => ?_) (fun c182 => ?_)
          · rw [if_pos c182] at h
            refine xW_lv rfl (l := []) (xsb_of trivial (show [4, 3, 0, 1, 2].Nodup by decide)) ?_
            exact k301_86    h
          · rw [if_neg c182] at h
            refine xe_alr (ins := .aload_n 0) (len := 1) (i := 0) (by decide +kernel) rfl rfl rfl rfl rfl ?_
            refine xe_ldn (ins := .iload_n 3) (len := 1) (by decide +kernel) rfl rfl rfl rfl ?_
            refine xe_ldn (ins := .iload 4) (len := 2) (by decide +kernel) rfl rfl rfl rfl ?_
            obtain ⟨_, e184, h⟩ := xbnd h
            obtain ⟨M185, e183, h⟩ := xbnd h
            refine xs_cv (i := 782) (j := 265) (ar := [xI (R170.1), xI (R145.1)]) (rest := []) (r2 := xr_265) (by decide +kernel) (by decide +kernel) (by decide +kernel) xr_265_e rfl (by decide) (by decide) e184 ?_
            refine xc_v (k265 (d := d + 1)  hi146 hi171 e183) rfl ?_
            refine xW_lv rfl (l := []) (xsb_of trivial (show [4, 3, 0, 1, 2].Nodup by decide)) ?_
            exact k301_86    h
      · rw [if_neg c165] at h
        refine xW_lv rfl (l := []) (xsb_of trivial (show [3, 0, 1, 2].Nodup by decide)) ?_
        exact k301_49    h
-- ChangeHouseModel.log
def xr_303 : xj_mR := (15, yX15_log, cX15_log, 6, (Option.none : Option Jvm.ClassFile.FieldType), 4, false, (10, 60), (1, 12))
set_option maxRecDepth 20000 in
theorem xr_303_e : xj_row 303 = some xr_303 := rfl
def f303_156   (f : Nat)  (M : xj_M) : Option (xj_M) := (some M)
theorem k303_156 {d f : Nat}      {M : xj_M} {R : xj_M}  (h : f303_156   f  M = some R) : xW (d + 1) (none, d + 1, none) xr_303 (156, [], [], M) (xQv R) := by
  unfold f303_156 at h
  cases h
  exact xe_ret_v (by decide +kernel) rfl ⟨rfl, rfl⟩
def f303_58b  (r58 : Nat → Nat → Nat → Int → Int → xj_M → Option (xj_M)) (f : Nat) (x0 : Nat) (x1 : Nat) (x3 : Nat) (x4 : Int) (x5 : Int) (M : xj_M) : Option (xj_M) := (if (4) ≤ (x5) then ((xq_gi 13 10 (x1) M).bind fun v102 => ((xq_pi 13 10 (x1) (xwr ((v102) + (1))) M).bind fun M104 => ((xq_gr 15 29 (x0) M104).bind fun v106 => ((xq_gr 12 0 (x3) M104).bind fun v108 => ((xq_al (v108) (x4) M104).bind fun v110 => ((xq_is 14 (v106) M104).bind fun _ => ((f205  f (v106) (v110) M104).bind fun R114 => (if (R114.1) = (-1) then f303_156   f  R114.2 else ((xq_gr 15 29 (x0) R114.2).bind fun v117 => ((xq_gr 14 1 (v117) R114.2).bind fun v119 => ((xq_ai 3 (v119) (R114.1) R114.2).bind fun v121 => ((xq_gr 12 2 (x3) R114.2).bind fun v123 => ((xq_ai 3 (v123) (x4) R114.2).bind fun v125 => (if ¬ (v121) = (v125) then f303_156   f  R114.2 else ((xq_gr 13 22 (x1) R114.2).bind fun v128 => ((xq_si (v128) (R114.1) (1) R114.2).bind fun M130 => f303_156   f  M130)))))))))))))))) else ((xq_gr 13 9 (x1) M).bind fun v132 => ((xq_gi 13 10 (x1) M).bind fun v134 => ((xq_gr 12 1 (x3) M).bind fun v136 => ((xq_al (v136) (xwr ((xwr ((4) * (x4))) + (x5))) M).bind fun v138 => ((xq_sl (v132) (xwr ((xwr ((4) * (v134))) + (x5))) (v138) M).bind fun M140 => r58 (x0) (x1) (x3) (x4) (xwr ((x5) + (1))) M140))))))
theorem k303_58b {d f : Nat}  {r58 : Nat → Nat → Nat → Int → Int → xj_M → Option (xj_M)}  (hr58 : ∀ {x0 : Nat} {x1 : Nat} {x3 : Nat} {x4 : Int} {x5 : Int} {M : xj_M} {R : xj_M}, xin x4 → xin x5 → r58 x0 x1 x3 x4 x5 M = some R → xW (d + 1) (none, d + 1, none) xr_303 (58, [(0, xR_ x0), (1, xR_ x1), (3, xR_ x3), (4, xI x4), (5, xI x5)], [], M) (xQv R)) {x0 : Nat} {x1 : Nat} {x3 : Nat} {x4 : Int} {x5 : Int} {M : xj_M} {R : xj_M} (hx4 : xin x4) (hx5 : xin x5) (h : f303_58b  r58 f x0 x1 x3 x4 x5 M = some R) : xW (d + 1) (none, d + 1, none) xr_303 (58, [(0, xR_ x0), (1, xR_ x1), (3, xR_ x3), (4, xI x4), (5, xI x5)], [], M) (xQv R) := by
  unfold f303_58b at h
  refine xe_ldn (ins := .iload 5) (len := 2) (by decide +kernel) rfl rfl rfl rfl ?_
  refine xe_iconst (n := 4) (by decide +kernel) rfl ?_
  refine xe_icmpge (off := 35) (t := 96) (by decide +kernel) (by decide) rfl hx5 (show xin (4) by decide) (fun c101 => ?_) (fun c101 => ?_)
  · rw [if_pos c101] at h
    refine xe_alr (ins := .aload_n 1) (len := 1) (i := 1) (by decide +kernel) rfl rfl rfl rfl rfl ?_
    refine xe_dupr (by decide +kernel) rfl ?_
    obtain ⟨v102, e103, h⟩ := xbnd h
    refine xs_gi (i := 791) (c := 13) (k := 10) (by decide +kernel) (by decide) (by decide +kernel) e103 rfl ?_
    refine xe_iconst (n := 1) (by decide +kernel) rfl ?_
    refine xe_iadd (by decide +kernel) rfl ?_
    obtain ⟨M104, e105, h⟩ := xbnd h
    refine xs_p (i := 791) (c := 13) (k := 10) (by decide +kernel) (by decide +kernel) (by decide +kernel) e105 rfl ?_
    refine xe_alr (ins := .aload_n 0) (len := 1) (i := 0) (by decide +kernel) rfl rfl rfl rfl rfl ?_
    obtain ⟨v106, e107, h⟩ := xbnd h
    refine xs_gr (i := 439) (c := 15) (k := 29) (by decide +kernel) (by decide) (by decide +kernel) e107 rfl ?_
    refine xe_alr (ins := .aload_n 3) (len := 1) (i := 3) (by decide +kernel) rfl rfl rfl rfl rfl ?_
    obtain ⟨v108, e109, h⟩ := xbnd h
    refine xs_gr (i := 694) (c := 12) (k := 0) (by decide +kernel) (by decide) (by decide +kernel) e109 rfl ?_
    refine xe_ldn (ins := .iload 4) (len := 2) (by decide +kernel) rfl rfl rfl rfl ?_
    obtain ⟨v110, e111, h⟩ := xbnd h
    refine xs_lald (by decide +kernel) hx4 e111 rfl ?_
    obtain ⟨_, e113, h⟩ := xbnd h
    obtain ⟨R114, e112, h⟩ := xbnd h
    refine xs_cv (i := 213) (j := 205) (ar := [xZ (v110)]) (rest := []) (r2 := xr_205) (by decide +kernel) (by decide +kernel) (by decide +kernel) xr_205_e rfl (by decide) (by decide) e113 ?_
    refine xc_i (k205 (d := d + 0)  (xq_al_in e111) e112) rfl (fun hi115 => ?_)
    refine xe_isr (ins := .istore 5) (len := 2) (i := 5) (by decide +kernel) rfl rfl rfl (by decide) (xk_k (show ¬ (0 : Nat) = 5 by decide) (Or.inl (show ¬ (0 + 1 : Nat) = 5 by decide)) (xk_k (show ¬ (1 : Nat) = 5 by decide) (Or.inl (show ¬ (1 + 1 : Nat) = 5 by decide)) (xk_k (show ¬ (3 : Nat) = 5 by decide) (Or.inl (show ¬ (3 + 1 : Nat) = 5 by decide)) (xk_k (show ¬ (4 : Nat) = 5 by decide) (Or.inr (xI_cat _)) (xk_d rfl xk_n))))) rfl ?_
    refine xe_ldn (ins := .iload 5) (len := 2) (by decide +kernel) rfl rfl rfl rfl ?_
    refine xe_iconst (n := -1) (by decide +kernel) rfl ?_
    refine xe_icmpeq (off := 31) (t := 156) (by decide +kernel) (by decide) rfl hi115 (show xin (-1) by decide) (fun c116 => ?_) (fun c116 => ?_)
    · rw [if_pos c116] at h
      refine xW_lv rfl (l := []) (xsb_of trivial (show [5, 0, 1, 3, 4].Nodup by decide)) ?_
      exact k303_156    h
    · rw [if_neg c116] at h
      refine xe_alr (ins := .aload_n 0) (len := 1) (i := 0) (by decide +kernel) rfl rfl rfl rfl rfl ?_
      obtain ⟨v117, e118, h⟩ := xbnd h
      refine xs_gr (i := 439) (c := 15) (k := 29) (by decide +kernel) (by decide) (by decide +kernel) e118 rfl ?_
      obtain ⟨v119, e120, h⟩ := xbnd h
      refine xs_gr (i := 180) (c := 14) (k := 1) (by decide +kernel) (by decide) (by decide +kernel) e120 rfl ?_
      refine xe_ldn (ins := .iload 5) (len := 2) (by decide +kernel) rfl rfl rfl rfl ?_
      obtain ⟨v121, e122, h⟩ := xbnd h
      refine xs_iald rfl (by decide +kernel) hi115 e122 rfl ?_
      refine xe_alr (ins := .aload_n 3) (len := 1) (i := 3) (by decide +kernel) rfl rfl rfl rfl rfl ?_
      obtain ⟨v123, e124, h⟩ := xbnd h
      refine xs_gr (i := 695) (c := 12) (k := 2) (by decide +kernel) (by decide) (by decide +kernel) e124 rfl ?_
      refine xe_ldn (ins := .iload 4) (len := 2) (by decide +kernel) rfl rfl rfl rfl ?_
      obtain ⟨v125, e126, h⟩ := xbnd h
      refine xs_iald rfl (by decide +kernel) hx4 e126 rfl ?_
      refine xe_icmpne (off := 11) (t := 156) (by decide +kernel) (by decide) rfl (xq_ai_in e122) (xq_ai_in e126) (fun c127 => ?_) (fun c127 => ?_)
      · rw [if_pos c127] at h
        refine xW_lv rfl (l := []) (xsb_of trivial (show [5, 0, 1, 3, 4].Nodup by decide)) ?_
        exact k303_156    h
      · rw [if_neg c127] at h
        refine xe_alr (ins := .aload_n 1) (len := 1) (i := 1) (by decide +kernel) rfl rfl rfl rfl rfl ?_
        obtain ⟨v128, e129, h⟩ := xbnd h
        refine xs_gr (i := 806) (c := 13) (k := 22) (by decide +kernel) (by decide) (by decide +kernel) e129 rfl ?_
        refine xe_ldn (ins := .iload 5) (len := 2) (by decide +kernel) rfl rfl rfl rfl ?_
        refine xe_iconst (n := 1) (by decide +kernel) rfl ?_
        obtain ⟨M130, e131, h⟩ := xbnd h
        refine xs_iast (by decide +kernel) hi115 e131 rfl ?_
        refine xW_lv rfl (l := []) (xsb_of trivial (show [5, 0, 1, 3, 4].Nodup by decide)) ?_
        exact k303_156    h
  · rw [if_neg c101] at h
    refine xe_alr (ins := .aload_n 1) (len := 1) (i := 1) (by decide +kernel) rfl rfl rfl rfl rfl ?_
    obtain ⟨v132, e133, h⟩ := xbnd h
    refine xs_gr (i := 803) (c := 13) (k := 9) (by decide +kernel) (by decide) (by decide +kernel) e133 rfl ?_
    refine xe_iconst (n := 4) (by decide +kernel) rfl ?_
    refine xe_alr (ins := .aload_n 1) (len := 1) (i := 1) (by decide +kernel) rfl rfl rfl rfl rfl ?_
    obtain ⟨v134, e135, h⟩ := xbnd h
    refine xs_gi (i := 791) (c := 13) (k := 10) (by decide +kernel) (by decide) (by decide +kernel) e135 rfl ?_
    refine xe_imul (by decide +kernel) rfl ?_
    refine xe_ldn (ins := .iload 5) (len := 2) (by decide +kernel) rfl rfl rfl rfl ?_
    refine xe_iadd (by decide +kernel) rfl ?_
    refine xe_alr (ins := .aload_n 3) (len := 1) (i := 3) (by decide +kernel) rfl rfl rfl rfl rfl ?_
    obtain ⟨v136, e137, h⟩ := xbnd h
    refine xs_gr (i := 696) (c := 12) (k := 1) (by decide +kernel) (by decide) (by decide +kernel) e137 rfl ?_
    refine xe_iconst (n := 4) (by decide +kernel) rfl ?_
    refine xe_ldn (ins := .iload 4) (len := 2) (by decide +kernel) rfl rfl rfl rfl ?_
    refine xe_imul (by decide +kernel) rfl ?_
    refine xe_ldn (ins := .iload 5) (len := 2) (by decide +kernel) rfl rfl rfl rfl ?_
    refine xe_iadd (by decide +kernel) rfl ?_
    obtain ⟨v138, e139, h⟩ := xbnd h
    refine xs_lald (by decide +kernel) (xin_wr _) e139 rfl ?_
    obtain ⟨M140, e141, h⟩ := xbnd h
    refine xs_last (by decide +kernel) (xin_wr _) e141 rfl ?_
    refine xe_iincr (i := 5) (n := 1) (by decide +kernel) (by decide) rfl (xk_k (show ¬ (0 : Nat) = 5 by decide) (Or.inl (show ¬ (0 + 1 : Nat) = 5 by decide)) (xk_k (show ¬ (1 : Nat) = 5 by decide) (Or.inl (show ¬ (1 + 1 : Nat) = 5 by decide)) (xk_k (show ¬ (3 : Nat) = 5 by decide) (Or.inl (show ¬ (3 + 1 : Nat) = 5 by decide)) (xk_k (show ¬ (4 : Nat) = 5 by decide) (Or.inr (xI_cat _)) (xk_d rfl xk_n))))) rfl ?_
    refine xe_goto (off := -35) (nx := 58) (by decide +kernel) (by decide) ?_
    refine xW_lv rfl (l := [(0, xR_ (x0)), (1, xR_ (x1)), (3, xR_ (x3)), (4, xI (x4)), (5, xI (xwr ((x5) + (1))))]) (xsb_of ⟨rfl, rfl, rfl, rfl, rfl, trivial⟩ (show [5, 0, 1, 3, 4].Nodup by decide)) ?_
    exact hr58 hx4 (xin_wr _) h
def f303_58   (f : Nat) : Nat → Nat → Nat → Nat → Int → Int → xj_M → Option (xj_M)
  | 0, _, _, _, _, _, _ => none
  | n + 1, x0, x1, x3, x4, x5, M => f303_58b   (f303_58   f n) f x0 x1 x3 x4 x5 M
theorem k303_58 {d f : Nat}     : ∀ {n : Nat} {x0 : Nat} {x1 : Nat} {x3 : Nat} {x4 : Int} {x5 : Int} {M : xj_M} {R : xj_M}, xin x4 → xin x5 → f303_58   f n x0 x1 x3 x4 x5 M = some R → xW (d + 1) (none, d + 1, none) xr_303 (58, [(0, xR_ x0), (1, xR_ x1), (3, xR_ x3), (4, xI x4), (5, xI x5)], [], M) (xQv R) := by
  intro n
  induction n with
  | zero => intros; rename_i h; cases h
  | succ n ih => intros; rename_i h; exact k303_58b   ih (by assumption) (by assumption) h
def f303  (f : Nat) (a0 : Nat) (a1 : Nat) (a2 : Int) (a3 : Nat) (a4 : Int) (M : xj_M) : Option (xj_M) := ((xq_gr 13 5 (a1) M).bind fun v142 => ((xq_gi 13 10 (a1) M).bind fun v144 => ((xq_gi 13 2 (a1) M).bind fun v146 => ((xq_si (v142) (v144) (v146) M).bind fun M148 => ((xq_gr 13 6 (a1) M148).bind fun v150 => ((xq_gi 13 10 (a1) M148).bind fun v152 => ((xq_si (v150) (v152) (a2) M148).bind fun M154 => ((xq_gr 13 8 (a1) M154).bind fun v156 => ((xq_gi 13 10 (a1) M154).bind fun v158 => ((xq_gr 12 0 (a3) M154).bind fun v160 => ((xq_al (v160) (a4) M154).bind fun v162 => ((xq_sl (v156) (v158) (v162) M154).bind fun M164 => ((xq_gr 13 7 (a1) M164).bind fun v166 => ((xq_gi 13 10 (a1) M164).bind fun v168 => ((xq_gr 12 2 (a3) M164).bind fun v170 => ((xq_ai 3 (v170) (a4) M164).bind fun v172 => ((xq_si (v166) (v168) (v172) M164).bind fun M174 => f303_58   f f (a0) (a1) (a3) (a4) (0) M174)))))))))))))))))
theorem k303 {d f : Nat}   {a0 : Nat} {a1 : Nat} {a2 : Int} {a3 : Nat} {a4 : Int} {M : xj_M} {R : xj_M} (ha2 : xin a2) (ha4 : xin a4) (h : f303  f a0 a1 a2 a3 a4 M = some R) : xT (d + 2) 303 [xR_ a0, xR_ a1, xI a2, xR_ a3, xI a4] M (xQv R) := by
  refine xT_m xr_303_e (X := (none, d + 1, none)) rfl (xa_1 (xR_cat _) (xa_1 (xR_cat _) (xa_1 (xI_cat _) (xa_1 (xR_cat _) (xa_1 (xI_cat _) xa_n))))) (by decide) ?_
  unfold f303 at h
  refine xe_alr (ins := .aload_n 1) (len := 1) (i := 1) (by decide +kernel) rfl rfl rfl rfl rfl ?_
  obtain ⟨v142, e143, h⟩ := xbnd h
  refine xs_gr (i := 788) (c := 13) (k := 5) (by decide +kernel) (by decide) (by decide +kernel) e143 rfl ?_
  refine xe_alr (ins := .aload_n 1) (len := 1) (i := 1) (by decide +kernel) rfl rfl rfl rfl rfl ?_
  obtain ⟨v144, e145, h⟩ := xbnd h
  refine xs_gi (i := 791) (c := 13) (k := 10) (by decide +kernel) (by decide) (by decide +kernel) e145 rfl ?_
  refine xe_alr (ins := .aload_n 1) (len := 1) (i := 1) (by decide +kernel) rfl rfl rfl rfl rfl ?_
  obtain ⟨v146, e147, h⟩ := xbnd h
  refine xs_gi (i := 740) (c := 13) (k := 2) (by decide +kernel) (by decide) (by decide +kernel) e147 rfl ?_
  obtain ⟨M148, e149, h⟩ := xbnd h
  refine xs_iast (by decide +kernel) (xq_gi_in e145) e149 rfl ?_
  refine xe_alr (ins := .aload_n 1) (len := 1) (i := 1) (by decide +kernel) rfl rfl rfl rfl rfl ?_
  obtain ⟨v150, e151, h⟩ := xbnd h
  refine xs_gr (i := 794) (c := 13) (k := 6) (by decide +kernel) (by decide) (by decide +kernel) e151 rfl ?_
  refine xe_alr (ins := .aload_n 1) (len := 1) (i := 1) (by decide +kernel) rfl rfl rfl rfl rfl ?_
  obtain ⟨v152, e153, h⟩ := xbnd h
  refine xs_gi (i := 791) (c := 13) (k := 10) (by decide +kernel) (by decide) (by decide +kernel) e153 rfl ?_
  refine xe_ldn (ins := .iload_n 2) (len := 1) (by decide +kernel) rfl rfl rfl rfl ?_
  obtain ⟨M154, e155, h⟩ := xbnd h
  refine xs_iast (by decide +kernel) (xq_gi_in e153) e155 rfl ?_
  refine xe_alr (ins := .aload_n 1) (len := 1) (i := 1) (by decide +kernel) rfl rfl rfl rfl rfl ?_
  obtain ⟨v156, e157, h⟩ := xbnd h
  refine xs_gr (i := 797) (c := 13) (k := 8) (by decide +kernel) (by decide) (by decide +kernel) e157 rfl ?_
  refine xe_alr (ins := .aload_n 1) (len := 1) (i := 1) (by decide +kernel) rfl rfl rfl rfl rfl ?_
  obtain ⟨v158, e159, h⟩ := xbnd h
  refine xs_gi (i := 791) (c := 13) (k := 10) (by decide +kernel) (by decide) (by decide +kernel) e159 rfl ?_
  refine xe_alr (ins := .aload_n 3) (len := 1) (i := 3) (by decide +kernel) rfl rfl rfl rfl rfl ?_
  obtain ⟨v160, e161, h⟩ := xbnd h
  refine xs_gr (i := 694) (c := 12) (k := 0) (by decide +kernel) (by decide) (by decide +kernel) e161 rfl ?_
  refine xe_ldn (ins := .iload 4) (len := 2) (by decide +kernel) rfl rfl rfl rfl ?_
  obtain ⟨v162, e163, h⟩ := xbnd h
  refine xs_lald (by decide +kernel) ha4 e163 rfl ?_
  obtain ⟨M164, e165, h⟩ := xbnd h
  refine xs_last (by decide +kernel) (xq_gi_in e159) e165 rfl ?_
  refine xe_alr (ins := .aload_n 1) (len := 1) (i := 1) (by decide +kernel) rfl rfl rfl rfl rfl ?_
  obtain ⟨v166, e167, h⟩ := xbnd h
  refine xs_gr (i := 800) (c := 13) (k := 7) (by decide +kernel) (by decide) (by decide +kernel) e167 rfl ?_
  refine xe_alr (ins := .aload_n 1) (len := 1) (i := 1) (by decide +kernel) rfl rfl rfl rfl rfl ?_
  obtain ⟨v168, e169, h⟩ := xbnd h
  refine xs_gi (i := 791) (c := 13) (k := 10) (by decide +kernel) (by decide) (by decide +kernel) e169 rfl ?_
  refine xe_alr (ins := .aload_n 3) (len := 1) (i := 3) (by decide +kernel) rfl rfl rfl rfl rfl ?_
  obtain ⟨v170, e171, h⟩ := xbnd h
  refine xs_gr (i := 695) (c := 12) (k := 2) (by decide +kernel) (by decide) (by decide +kernel) e171 rfl ?_
  refine xe_ldn (ins := .iload 4) (len := 2) (by decide +kernel) rfl rfl rfl rfl ?_
  obtain ⟨v172, e173, h⟩ := xbnd h
  refine xs_iald rfl (by decide +kernel) ha4 e173 rfl ?_
  obtain ⟨M174, e175, h⟩ := xbnd h
  refine xs_iast (by decide +kernel) (xq_gi_in e169) e175 rfl ?_
  refine xe_iconst (n := 0) (by decide +kernel) rfl ?_
  refine xe_isr (ins := .istore 5) (len := 2) (i := 5) (by decide +kernel) rfl rfl rfl (by decide) (xk_k (show ¬ (0 : Nat) = 5 by decide) (Or.inl (show ¬ (0 + 1 : Nat) = 5 by decide)) (xk_k (show ¬ (1 : Nat) = 5 by decide) (Or.inl (show ¬ (1 + 1 : Nat) = 5 by decide)) (xk_k (show ¬ (2 : Nat) = 5 by decide) (Or.inl (show ¬ (2 + 1 : Nat) = 5 by decide)) (xk_k (show ¬ (3 : Nat) = 5 by decide) (Or.inl (show ¬ (3 + 1 : Nat) = 5 by decide)) (xk_k (show ¬ (4 : Nat) = 5 by decide) (Or.inr (xI_cat _)) xk_n))))) rfl ?_
  refine xW_lv rfl (l := [(0, xR_ (a0)), (1, xR_ (a1)), (3, xR_ (a3)), (4, xI (a4)), (5, xI (0))]) (xsb_of ⟨rfl, rfl, rfl, rfl, rfl, trivial⟩ (show [5, 0, 1, 2, 3, 4].Nodup by decide)) ?_
  exact k303_58   ha4 (show xin (0) by decide) h
-- ChangeHouseModel.logChanges
def xr_304 : xj_mR := (15, yX15_logChanges, cX15_logChanges, 4, (Option.some Jvm.ClassFile.FieldType.int), 1, false, (10, 52), (1, 12))
set_option maxRecDepth 20000 in
theorem xr_304_e : xj_row 304 = some xr_304 := rfl
def f304_67  (r7 : Nat → Nat → Int → Int → xj_M → Option (Int × xj_M)) (f : Nat) (x0 : Nat) (x1 : Nat) (x2 : Int) (x3 : Int) (M : xj_M) : Option (Int × xj_M) := r7 (x0) (x1) (x2) (xwr ((x3) + (1))) M
theorem k304_67 {d f : Nat}  {r7 : Nat → Nat → Int → Int → xj_M → Option (Int × xj_M)}  (hr7 : ∀ {x0 : Nat} {x1 : Nat} {x2 : Int} {x3 : Int} {M : xj_M} {R : Int × xj_M}, xin x2 → xin x3 → r7 x0 x1 x2 x3 M = some R → xW (d + 3) (none, d + 3, none) xr_304 (7, [(0, xR_ x0), (1, xR_ x1), (2, xI x2), (3, xI x3)], [], M) (xQi R)) {x0 : Nat} {x1 : Nat} {x2 : Int} {x3 : Int} {M : xj_M} {R : Int × xj_M} (hx2 : xin x2) (hx3 : xin x3) (h : f304_67  r7 f x0 x1 x2 x3 M = some R) : xW (d + 3) (none, d + 3, none) xr_304 (67, [(0, xR_ x0), (1, xR_ x1), (2, xI x2), (3, xI x3)], [], M) (xQi R) := by
  unfold f304_67 at h
  refine xe_iincr (i := 3) (n := 1) (by decide +kernel) (by decide) rfl (xk_k (show ¬ (0 : Nat) = 3 by decide) (Or.inl (show ¬ (0 + 1 : Nat) = 3 by decide)) (xk_k (show ¬ (1 : Nat) = 3 by decide) (Or.inl (show ¬ (1 + 1 : Nat) = 3 by decide)) (xk_k (show ¬ (2 : Nat) = 3 by decide) (Or.inr (xI_cat _)) (xk_d rfl xk_n)))) rfl ?_
  refine xe_goto (off := -63) (nx := 7) (by decide +kernel) (by decide) ?_
  refine xW_lv rfl (l := [(0, xR_ (x0)), (1, xR_ (x1)), (2, xI (x2)), (3, xI (xwr ((x3) + (1))))]) (xsb_of ⟨rfl, rfl, rfl, rfl, trivial⟩ (show [3, 0, 1, 2].Nodup by decide)) ?_
  exact hr7 hx2 (xin_wr _) h
def f304_135  (r75 : Nat → Nat → Int → Int → xj_M → Option (Int × xj_M)) (f : Nat) (x0 : Nat) (x1 : Nat) (x2 : Int) (x3 : Int) (M : xj_M) : Option (Int × xj_M) := r75 (x0) (x1) (x2) (xwr ((x3) + (1))) M
theorem k304_135 {d f : Nat}  {r75 : Nat → Nat → Int → Int → xj_M → Option (Int × xj_M)}  (hr75 : ∀ {x0 : Nat} {x1 : Nat} {x2 : Int} {x3 : Int} {M : xj_M} {R : Int × xj_M}, xin x2 → xin x3 → r75 x0 x1 x2 x3 M = some R → xW (d + 3) (none, d + 3, none) xr_304 (75, [(0, xR_ x0), (1, xR_ x1), (2, xI x2), (3, xI x3)], [], M) (xQi R)) {x0 : Nat} {x1 : Nat} {x2 : Int} {x3 : Int} {M : xj_M} {R : Int × xj_M} (hx2 : xin x2) (hx3 : xin x3) (h : f304_135  r75 f x0 x1 x2 x3 M = some R) : xW (d + 3) (none, d + 3, none) xr_304 (135, [(0, xR_ x0), (1, xR_ x1), (2, xI x2), (3, xI x3)], [], M) (xQi R) := by
  unfold f304_135 at h
  refine xe_iincr (i := 3) (n := 1) (by decide +kernel) (by decide) rfl (xk_k (show ¬ (0 : Nat) = 3 by decide) (Or.inl (show ¬ (0 + 1 : Nat) = 3 by decide)) (xk_k (show ¬ (1 : Nat) = 3 by decide) (Or.inl (show ¬ (1 + 1 : Nat) = 3 by decide)) (xk_k (show ¬ (2 : Nat) = 3 by decide) (Or.inr (xI_cat _)) (xk_d rfl xk_n)))) rfl ?_
  refine xe_goto (off := -63) (nx := 75) (by decide +kernel) (by decide) ?_
  refine xW_lv rfl (l := [(0, xR_ (x0)), (1, xR_ (x1)), (2, xI (x2)), (3, xI (xwr ((x3) + (1))))]) (xsb_of ⟨rfl, rfl, rfl, rfl, trivial⟩ (show [3, 0, 1, 2].Nodup by decide)) ?_
  exact hr75 hx2 (xin_wr _) h
def f304_75b  (r75 : Nat → Nat → Int → Int → xj_M → Option (Int × xj_M)) (f : Nat) (x0 : Nat) (x1 : Nat) (x2 : Int) (x3 : Int) (M : xj_M) : Option (Int × xj_M) := ((xq_gr 15 77 (x0) M).bind fun v101 => ((xq_gi 12 3 (v101) M).bind fun v103 => (if (v103) ≤ (x3) then ((xq_gi 13 10 (x1) M).bind fun v106 => (some (xwr ((v106) - (x2)), M))) else ((xq_gr 15 76 (x0) M).bind fun v108 => ((xq_gr 15 77 (x0) M).bind fun v110 => ((xq_gr 12 0 (v110) M).bind fun v112 => ((xq_al (v112) (x3) M).bind fun v114 => ((xq_gr 15 77 (x0) M).bind fun v116 => ((xq_gr 12 2 (v116) M).bind fun v118 => ((xq_ai 3 (v118) (x3) M).bind fun v120 => ((xq_gr 15 77 (x0) M).bind fun v122 => ((xq_gr 12 1 (v122) M).bind fun v124 => ((xq_is 12 (v108) M).bind fun _ => ((f197  f (v108) (v114) (v120) (v124) (xwr ((4) * (x3))) M).bind fun R128 => (if ¬ (R128.1) = 0 then f304_135  r75 f (x0) (x1) (x2) (x3) R128.2 else ((xq_gr 15 77 (x0) R128.2).bind fun v131 => ((xq_is 15 (x0) R128.2).bind fun _ => ((f303  f (x0) (x1) (1) (v131) (x3) R128.2).bind fun M135 => f304_135  r75 f (x0) (x1) (x2) (x3) M135))))))))))))))))))
theorem k304_75b {d f : Nat}  {r75 : Nat → Nat → Int → Int → xj_M → Option (Int × xj_M)}  (hr75 : ∀ {x0 : Nat} {x1 : Nat} {x2 : Int} {x3 : Int} {M : xj_M} {R : Int × xj_M}, xin x2 → xin x3 → r75 x0 x1 x2 x3 M = some R → xW (d + 3) (none, d + 3, none) xr_304 (75, [(0, xR_ x0), (1, xR_ x1), (2, xI x2), (3, xI x3)], [], M) (xQi R)) {x0 : Nat} {x1 : Nat} {x2 : Int} {x3 : Int} {M : xj_M} {R : Int × xj_M} (hx2 : xin x2) (hx3 : xin x3) (h : f304_75b  r75 f x0 x1 x2 x3 M = some R) : xW (d + 3) (none, d + 3, none) xr_304 (75, [(0, xR_ x0), (1, xR_ x1), (2, xI x2), (3, xI x3)], [], M) (xQi R) := by
  unfold f304_75b at h
  refine xe_ldn (ins := .iload_n 3) (len := 1) (by decide +kernel) rfl rfl rfl rfl ?_
  refine xe_alr (ins := .aload_n 0) (len := 1) (i := 0) (by decide +kernel) rfl rfl rfl rfl rfl ?_
  obtain ⟨v101, e102, h⟩ := xbnd h
  refine xs_gr (i := 728) (c := 15) (k := 77) (by decide +kernel) (by decide) (by decide +kernel) e102 rfl ?_
  obtain ⟨v103, e104, h⟩ := xbnd h
  refine xs_gi (i := 690) (c := 12) (k := 3) (by decide +kernel) (by decide) (by decide +kernel) e104 rfl ?_
  refine xe_icmpge (off := 58) (t := 141) (by decide +kernel) (by decide) rfl hx3 (xq_gi_in e104) (fun c105 => ?_) (fun c105 => ?_)
  · rw [if_pos c105] at h
    refine xe_alr (ins := .aload_n 1) (len := 1) (i := 1) (by decide +kernel) rfl rfl rfl rfl rfl ?_
    obtain ⟨v106, e107, h⟩ := xbnd h
    refine xs_gi (i := 791) (c := 13) (k := 10) (by decide +kernel) (by decide) (by decide +kernel) e107 rfl ?_
    refine xe_ldn (ins := .iload_n 2) (len := 1) (by decide +kernel) rfl rfl rfl rfl ?_
    refine xe_isub (by decide +kernel) rfl ?_
    cases h
    exact xe_ret_i (ty := .int) (by decide +kernel) rfl rfl ⟨rfl, rfl, (xin_wr _)⟩
  · rw [if_neg c105] at h
    refine xe_alr (ins := .aload_n 0) (len := 1) (i := 0) (by decide +kernel) rfl rfl rfl rfl rfl ?_
    obtain ⟨v108, e109, h⟩ := xbnd h
    refine xs_gr (i := 705) (c := 15) (k := 76) (by decide +kernel) (by decide) (by decide +kernel) e109 rfl ?_
    refine xe_alr (ins := .aload_n 0) (len := 1) (i := 0) (by decide +kernel) rfl rfl rfl rfl rfl ?_
    obtain ⟨v110, e111, h⟩ := xbnd h
    refine xs_gr (i := 728) (c := 15) (k := 77) (by decide +kernel) (by decide) (by decide +kernel) e111 rfl ?_
    obtain ⟨v112, e113, h⟩ := xbnd h
    refine xs_gr (i := 694) (c := 12) (k := 0) (by decide +kernel) (by decide) (by decide +kernel) e113 rfl ?_
    refine xe_ldn (ins := .iload_n 3) (len := 1) (by decide +kernel) rfl rfl rfl rfl ?_
    obtain ⟨v114, e115, h⟩ := xbnd h
    refine xs_lald (by decide +kernel) hx3 e115 rfl ?_
    refine xe_alr (ins := .aload_n 0) (len := 1) (i := 0) (by decide +kernel) rfl rfl rfl rfl rfl ?_
    obtain ⟨v116, e117, h⟩ := xbnd h
    refine xs_gr (i := 728) (c := 15) (k := 77) (by decide +kernel) (by decide) (by decide +kernel) e117 rfl ?_
    obtain ⟨v118, e119, h⟩ := xbnd h
    refine xs_gr (i := 695) (c := 12) (k := 2) (by decide +kernel) (by decide) (by decide +kernel) e119 rfl ?_
    refine xe_ldn (ins := .iload_n 3) (len := 1) (by decide +kernel) rfl rfl rfl rfl ?_
    obtain ⟨v120, e121, h⟩ := xbnd h
    refine xs_iald rfl (by decide +kernel) hx3 e121 rfl ?_
    refine xe_alr (ins := .aload_n 0) (len := 1) (i := 0) (by decide +kernel) rfl rfl rfl rfl rfl ?_
    obtain ⟨v122, e123, h⟩ := xbnd h
    refine xs_gr (i := 728) (c := 15) (k := 77) (by decide +kernel) (by decide) (by decide +kernel) e123 rfl ?_
    obtain ⟨v124, e125, h⟩ := xbnd h
    refine xs_gr (i := 696) (c := 12) (k := 1) (by decide +kernel) (by decide) (by decide +kernel) e125 rfl ?_
    refine xe_iconst (n := 4) (by decide +kernel) rfl ?_
    refine xe_ldn (ins := .iload_n 3) (len := 1) (by decide +kernel) rfl rfl rfl rfl ?_
    refine xe_imul (by decide +kernel) rfl ?_
    obtain ⟨_, e127, h⟩ := xbnd h
    obtain ⟨R128, e126, h⟩ := xbnd h
    refine xs_cv (i := 809) (j := 197) (ar := [xI (xwr ((4) * (x3))), xR_ (v124), xI (v120), xZ (v114)]) (rest := []) (r2 := xr_197) (by decide +kernel) (by decide +kernel) (by decide +kernel) xr_197_e rfl (by decide) (by decide) e127 ?_
    refine xc_i (k197 (d := d + 0)  (xq_al_in e115) (xq_ai_in e121) (xin_wr _) e126) rfl (fun hi129 => ?_)
    refine xe_ifne (off := 14) (t := 135) (by decide +kernel) (by decide) rfl hi129 (fun c130 => ?_) (fun c130 => ?_)
    · rw [if_pos c130] at h
      refine xW_lv rfl (l := [(0, xR_ (x0)), (1, xR_ (x1)), (2, xI (x2)), (3, xI (x3))]) (xsb_of ⟨rfl, rfl, rfl, rfl, trivial⟩ (show [0, 1, 2, 3].Nodup by decide)) ?_
      exact k304_135  hr75 hx2 hx3 h
    · rw [if_neg c130] at h
      refine xe_alr (ins := .aload_n 0) (len := 1) (i := 0) (by decide +kernel) rfl rfl rfl rfl rfl ?_
      refine xe_alr (ins := .aload_n 1) (len := 1) (i := 1) (by decide +kernel) rfl rfl rfl rfl rfl ?_
      refine xe_iconst (n := 1) (by decide +kernel) rfl ?_
      refine xe_alr (ins := .aload_n 0) (len := 1) (i := 0) (by decide +kernel) rfl rfl rfl rfl rfl ?_
      obtain ⟨v131, e132, h⟩ := xbnd h
      refine xs_gr (i := 728) (c := 15) (k := 77) (by decide +kernel) (by decide) (by decide +kernel) e132 rfl ?_
      refine xe_ldn (ins := .iload_n 3) (len := 1) (by decide +kernel) rfl rfl rfl rfl ?_
      obtain ⟨_, e134, h⟩ := xbnd h
      obtain ⟨M135, e133, h⟩ := xbnd h
      refine xs_cv (i := 813) (j := 303) (ar := [xI (x3), xR_ (v131), xI (1), xR_ (x1)]) (rest := []) (r2 := xr_303) (by decide +kernel) (by decide +kernel) (by decide +kernel) xr_303_e rfl (by decide) (by decide) e134 ?_
      refine xc_v (k303 (d := d + 1)  (show xin (1) by decide) hx3 e133) rfl ?_
      refine xW_lv rfl (l := [(0, xR_ (x0)), (1, xR_ (x1)), (2, xI (x2)), (3, xI (x3))]) (xsb_of ⟨rfl, rfl, rfl, rfl, trivial⟩ (show [0, 1, 2, 3].Nodup by decide)) ?_
      exact k304_135  hr75 hx2 hx3 h
def f304_75   (f : Nat) : Nat → Nat → Nat → Int → Int → xj_M → Option (Int × xj_M)
  | 0, _, _, _, _, _ => none
  | n + 1, x0, x1, x2, x3, M => f304_75b   (f304_75   f n) f x0 x1 x2 x3 M
theorem k304_75 {d f : Nat}     : ∀ {n : Nat} {x0 : Nat} {x1 : Nat} {x2 : Int} {x3 : Int} {M : xj_M} {R : Int × xj_M}, xin x2 → xin x3 → f304_75   f n x0 x1 x2 x3 M = some R → xW (d + 3) (none, d + 3, none) xr_304 (75, [(0, xR_ x0), (1, xR_ x1), (2, xI x2), (3, xI x3)], [], M) (xQi R) := by
  intro n
  induction n with
  | zero => intros; rename_i h; cases h
  | succ n ih => intros; rename_i h; exact k304_75b   ih (by assumption) (by assumption) h
def f304_7b  (r7 : Nat → Nat → Int → Int → xj_M → Option (Int × xj_M)) (f : Nat) (x0 : Nat) (x1 : Nat) (x2 : Int) (x3 : Int) (M : xj_M) : Option (Int × xj_M) := ((xq_gr 15 76 (x0) M).bind fun v137 => ((xq_gi 12 3 (v137) M).bind fun v139 => (if (v139) ≤ (x3) then f304_75   f f (x0) (x1) (x2) (0) M else ((xq_gr 15 77 (x0) M).bind fun v142 => ((xq_gr 15 76 (x0) M).bind fun v144 => ((xq_gr 12 0 (v144) M).bind fun v146 => ((xq_al (v146) (x3) M).bind fun v148 => ((xq_gr 15 76 (x0) M).bind fun v150 => ((xq_gr 12 2 (v150) M).bind fun v152 => ((xq_ai 3 (v152) (x3) M).bind fun v154 => ((xq_gr 15 76 (x0) M).bind fun v156 => ((xq_gr 12 1 (v156) M).bind fun v158 => ((xq_is 12 (v142) M).bind fun _ => ((f197  f (v142) (v148) (v154) (v158) (xwr ((4) * (x3))) M).bind fun R162 => (if ¬ (R162.1) = 0 then f304_67  r7 f (x0) (x1) (x2) (x3) R162.2 else ((xq_gr 15 76 (x0) R162.2).bind fun v165 => ((xq_is 15 (x0) R162.2).bind fun _ => ((f303  f (x0) (x1) (-1) (v165) (x3) R162.2).bind fun M169 => f304_67  r7 f (x0) (x1) (x2) (x3) M169))))))))))))))))))
theorem k304_7b {d f : Nat}  {r7 : Nat → Nat → Int → Int → xj_M → Option (Int × xj_M)}  (hr7 : ∀ {x0 : Nat} {x1 : Nat} {x2 : Int} {x3 : Int} {M : xj_M} {R : Int × xj_M}, xin x2 → xin x3 → r7 x0 x1 x2 x3 M = some R → xW (d + 3) (none, d + 3, none) xr_304 (7, [(0, xR_ x0), (1, xR_ x1), (2, xI x2), (3, xI x3)], [], M) (xQi R)) {x0 : Nat} {x1 : Nat} {x2 : Int} {x3 : Int} {M : xj_M} {R : Int × xj_M} (hx2 : xin x2) (hx3 : xin x3) (h : f304_7b  r7 f x0 x1 x2 x3 M = some R) : xW (d + 3) (none, d + 3, none) xr_304 (7, [(0, xR_ x0), (1, xR_ x1), (2, xI x2), (3, xI x3)], [], M) (xQi R) := by
  unfold f304_7b at h
  refine xe_ldn (ins := .iload_n 3) (len := 1) (by decide +kernel) rfl rfl rfl rfl ?_
  refine xe_alr (ins := .aload_n 0) (len := 1) (i := 0) (by decide +kernel) rfl rfl rfl rfl rfl ?_
  obtain ⟨v137, e138, h⟩ := xbnd h
  refine xs_gr (i := 705) (c := 15) (k := 76) (by decide +kernel) (by decide) (by decide +kernel) e138 rfl ?_
  obtain ⟨v139, e140, h⟩ := xbnd h
  refine xs_gi (i := 690) (c := 12) (k := 3) (by decide +kernel) (by decide) (by decide +kernel) e140 rfl ?_
  refine xe_icmpge (off := 58) (t := 73) (by decide +kernel) (by decide) rfl hx3 (xq_gi_in e140) (fun c141 => ?_) (fun c141 => ?_)
  · rw [if_pos c141] at h
    refine xe_iconst (n := 0) (by decide +kernel) rfl ?_
    refine xe_isr (ins := .istore_n 3) (len := 1) (i := 3) (by decide +kernel) rfl rfl rfl (by decide) (xk_k (show ¬ (0 : Nat) = 3 by decide) (Or.inl (show ¬ (0 + 1 : Nat) = 3 by decide)) (xk_k (show ¬ (1 : Nat) = 3 by decide) (Or.inl (show ¬ (1 + 1 : Nat) = 3 by decide)) (xk_k (show ¬ (2 : Nat) = 3 by decide) (Or.inr (xI_cat _)) (xk_d rfl xk_n)))) rfl ?_
    refine xW_lv rfl (l := [(0, xR_ (x0)), (1, xR_ (x1)), (2, xI (x2)), (3, xI (0))]) (xsb_of ⟨rfl, rfl, rfl, rfl, trivial⟩ (show [3, 0, 1, 2].Nodup by decide)) ?_
    exact k304_75   hx2 (show xin (0) by decide) h
  · rw [if_neg c141] at h
    refine xe_alr (ins := .aload_n 0) (len := 1) (i := 0) (by decide +kernel) rfl rfl rfl rfl rfl ?_
    obtain ⟨v142, e143, h⟩ := xbnd h
    refine xs_gr (i := 728) (c := 15) (k := 77) (by decide +kernel) (by decide) (by decide +kernel) e143 rfl ?_
    refine xe_alr (ins := .aload_n 0) (len := 1) (i := 0) (by decide +kernel) rfl rfl rfl rfl rfl ?_
    obtain ⟨v144, e145, h⟩ := xbnd h
    refine xs_gr (i := 705) (c := 15) (k := 76) (by decide +kernel) (by decide) (by decide +kernel) e145 rfl ?_
    obtain ⟨v146, e147, h⟩ := xbnd h
    refine xs_gr (i := 694) (c := 12) (k := 0) (by decide +kernel) (by decide) (by decide +kernel) e147 rfl ?_
    refine xe_ldn (ins := .iload_n 3) (len := 1) (by decide +kernel) rfl rfl rfl rfl ?_
    obtain ⟨v148, e149, h⟩ := xbnd h
    refine xs_lald (by decide +kernel) hx3 e149 rfl ?_
    refine xe_alr (ins := .aload_n 0) (len := 1) (i := 0) (by decide +kernel) rfl rfl rfl rfl rfl ?_
    obtain ⟨v150, e151, h⟩ := xbnd h
    refine xs_gr (i := 705) (c := 15) (k := 76) (by decide +kernel) (by decide) (by decide +kernel) e151 rfl ?_
    obtain ⟨v152, e153, h⟩ := xbnd h
    refine xs_gr (i := 695) (c := 12) (k := 2) (by decide +kernel) (by decide) (by decide +kernel) e153 rfl ?_
    refine xe_ldn (ins := .iload_n 3) (len := 1) (by decide +kernel) rfl rfl rfl rfl ?_
    obtain ⟨v154, e155, h⟩ := xbnd h
    refine xs_iald rfl (by decide +kernel) hx3 e155 rfl ?_
    refine xe_alr (ins := .aload_n 0) (len := 1) (i := 0) (by decide +kernel) rfl rfl rfl rfl rfl ?_
    obtain ⟨v156, e157, h⟩ := xbnd h
    refine xs_gr (i := 705) (c := 15) (k := 76) (by decide +kernel) (by decide) (by decide +kernel) e157 rfl ?_
    obtain ⟨v158, e159, h⟩ := xbnd h
    refine xs_gr (i := 696) (c := 12) (k := 1) (by decide +kernel) (by decide) (by decide +kernel) e159 rfl ?_
    refine xe_iconst (n := 4) (by decide +kernel) rfl ?_
    refine xe_ldn (ins := .iload_n 3) (len := 1) (by decide +kernel) rfl rfl rfl rfl ?_
    refine xe_imul (by decide +kernel) rfl ?_
    obtain ⟨_, e161, h⟩ := xbnd h
    obtain ⟨R162, e160, h⟩ := xbnd h
    refine xs_cv (i := 809) (j := 197) (ar := [xI (xwr ((4) * (x3))), xR_ (v158), xI (v154), xZ (v148)]) (rest := []) (r2 := xr_197) (by decide +kernel) (by decide +kernel) (by decide +kernel) xr_197_e rfl (by decide) (by decide) e161 ?_
    refine xc_i (k197 (d := d + 0)  (xq_al_in e149) (xq_ai_in e155) (xin_wr _) e160) rfl (fun hi163 => ?_)
    refine xe_ifne (off := 14) (t := 67) (by decide +kernel) (by decide) rfl hi163 (fun c164 => ?_) (fun c164 => ?_)
    · rw [if_pos c164] at h
      refine xW_lv rfl (l := [(0, xR_ (x0)), (1, xR_ (x1)), (2, xI (x2)), (3, xI (x3))]) (xsb_of ⟨rfl, rfl, rfl, rfl, trivial⟩ (show [0, 1, 2, 3].Nodup by decide)) ?_
      exact k304_67  hr7 hx2 hx3 h
    · rw [if_neg c164] at h
      refine xe_alr (ins := .aload_n 0) (len := 1) (i := 0) (by decide +kernel) rfl rfl rfl rfl rfl ?_
      refine xe_alr (ins := .aload_n 1) (len := 1) (i := 1) (by decide +kernel) rfl rfl rfl rfl rfl ?_
      refine xe_iconst (n := -1) (by decide +kernel) rfl ?_
      refine xe_alr (ins := .aload_n 0) (len := 1) (i := 0) (by decide +kernel) rfl rfl rfl rfl rfl ?_
      obtain ⟨v165, e166, h⟩ := xbnd h
      refine xs_gr (i := 705) (c := 15) (k := 76) (by decide +kernel) (by decide) (by decide +kernel) e166 rfl ?_
      refine xe_ldn (ins := .iload_n 3) (len := 1) (by decide +kernel) rfl rfl rfl rfl ?_
      obtain ⟨_, e168, h⟩ := xbnd h
      obtain ⟨M169, e167, h⟩ := xbnd h
      refine xs_cv (i := 813) (j := 303) (ar := [xI (x3), xR_ (v165), xI (-1), xR_ (x1)]) (rest := []) (r2 := xr_303) (by decide +kernel) (by decide +kernel) (by decide +kernel) xr_303_e rfl (by decide) (by decide) e168 ?_
      refine xc_v (k303 (d := d + 1)  (show xin (-1) by decide) hx3 e167) rfl ?_
      refine xW_lv rfl (l := [(0, xR_ (x0)), (1, xR_ (x1)), (2, xI (x2)), (3, xI (x3))]) (xsb_of ⟨rfl, rfl, rfl, rfl, trivial⟩ (show [0, 1, 2, 3].Nodup by decide)) ?_
      exact k304_67  hr7 hx2 hx3 h
def f304_7   (f : Nat) : Nat → Nat → Nat → Int → Int → xj_M → Option (Int × xj_M)
  | 0, _, _, _, _, _ => none
  | n + 1, x0, x1, x2, x3, M => f304_7b   (f304_7   f n) f x0 x1 x2 x3 M
theorem k304_7 {d f : Nat}     : ∀ {n : Nat} {x0 : Nat} {x1 : Nat} {x2 : Int} {x3 : Int} {M : xj_M} {R : Int × xj_M}, xin x2 → xin x3 → f304_7   f n x0 x1 x2 x3 M = some R → xW (d + 3) (none, d + 3, none) xr_304 (7, [(0, xR_ x0), (1, xR_ x1), (2, xI x2), (3, xI x3)], [], M) (xQi R) := by
  intro n
  induction n with
  | zero => intros; rename_i h; cases h
  | succ n ih => intros; rename_i h; exact k304_7b   ih (by assumption) (by assumption) h
def f304  (f : Nat) (a0 : Nat) (a1 : Nat) (M : xj_M) : Option (Int × xj_M) := ((xq_gi 13 10 (a1) M).bind fun v171 => f304_7   f f (a0) (a1) (v171) (0) M)
theorem k304 {d f : Nat}   {a0 : Nat} {a1 : Nat} {M : xj_M} {R : Int × xj_M}  (h : f304  f a0 a1 M = some R) : xT (d + 4) 304 [xR_ a0, xR_ a1] M (xQi R) := by
  refine xT_m xr_304_e (X := (none, d + 3, none)) rfl (xa_1 (xR_cat _) (xa_1 (xR_cat _) xa_n)) (by decide) ?_
  unfold f304 at h
  refine xe_alr (ins := .aload_n 1) (len := 1) (i := 1) (by decide +kernel) rfl rfl rfl rfl rfl ?_
  obtain ⟨v171, e172, h⟩ := xbnd h
  refine xs_gi (i := 791) (c := 13) (k := 10) (by decide +kernel) (by decide) (by decide +kernel) e172 rfl ?_
  refine xe_isr (ins := .istore_n 2) (len := 1) (i := 2) (by decide +kernel) rfl rfl rfl (by decide) (xk_k (show ¬ (0 : Nat) = 2 by decide) (Or.inl (show ¬ (0 + 1 : Nat) = 2 by decide)) (xk_k (show ¬ (1 : Nat) = 2 by decide) (Or.inr (xR_cat _)) xk_n)) rfl ?_
  refine xe_iconst (n := 0) (by decide +kernel) rfl ?_
  refine xe_isr (ins := .istore_n 3) (len := 1) (i := 3) (by decide +kernel) rfl rfl rfl (by decide) (xk_k (show ¬ (2 : Nat) = 3 by decide) (Or.inr (xI_cat _)) (xk_k (show ¬ (0 : Nat) = 3 by decide) (Or.inl (show ¬ (0 + 1 : Nat) = 3 by decide)) (xk_k (show ¬ (1 : Nat) = 3 by decide) (Or.inl (show ¬ (1 + 1 : Nat) = 3 by decide)) xk_n))) rfl ?_
  refine xW_lv rfl (l := [(0, xR_ (a0)), (1, xR_ (a1)), (2, xI (v171)), (3, xI (0))]) (xsb_of ⟨rfl, rfl, rfl, rfl, trivial⟩ (show [3, 2, 0, 1].Nodup by decide)) ?_
  exact k304_7   (xq_gi_in e172) (show xin (0) by decide) h
-- ChangeHouseModel.countWorked
def xr_305 : xj_mR := (15, yX15_countWorked, cX15_countWorked, 7, (Option.none : Option Jvm.ClassFile.FieldType), 2, false, (10, 64), (1, 12))
set_option maxRecDepth 20000 in
theorem xr_305_e : xj_row 305 = some xr_305 := rfl
def f305_159  (r2 : Nat → Nat → Int → Int → xj_M → Option (xj_M)) (f : Nat) (x0 : Nat) (x1 : Nat) (x2 : Int) (x3 : Int) (M : xj_M) : Option (xj_M) := r2 (x0) (x1) (x2) (xwr ((x3) + (1))) M
theorem k305_159 {d f : Nat}  {r2 : Nat → Nat → Int → Int → xj_M → Option (xj_M)}  (hr2 : ∀ {x0 : Nat} {x1 : Nat} {x2 : Int} {x3 : Int} {M : xj_M} {R : xj_M}, xin x2 → xin x3 → r2 x0 x1 x2 x3 M = some R → xW (d + 0) (none, d + 0, none) xr_305 (2, [(0, xR_ x0), (1, xR_ x1), (2, xI x2), (3, xI x3)], [], M) (xQv R)) {x0 : Nat} {x1 : Nat} {x2 : Int} {x3 : Int} {M : xj_M} {R : xj_M} (hx2 : xin x2) (hx3 : xin x3) (h : f305_159  r2 f x0 x1 x2 x3 M = some R) : xW (d + 0) (none, d + 0, none) xr_305 (159, [(0, xR_ x0), (1, xR_ x1), (2, xI x2), (3, xI x3)], [], M) (xQv R) := by
  unfold f305_159 at h
  refine xe_iincr (i := 3) (n := 1) (by decide +kernel) (by decide) rfl (xk_k (show ¬ (0 : Nat) = 3 by decide) (Or.inl (show ¬ (0 + 1 : Nat) = 3 by decide)) (xk_k (show ¬ (1 : Nat) = 3 by decide) (Or.inl (show ¬ (1 + 1 : Nat) = 3 by decide)) (xk_k (show ¬ (2 : Nat) = 3 by decide) (Or.inr (xI_cat _)) (xk_d rfl xk_n)))) rfl ?_
  refine xe_goto (off := -160) (nx := 2) (by decide +kernel) (by decide) ?_
  refine xW_lv rfl (l := [(0, xR_ (x0)), (1, xR_ (x1)), (2, xI (x2)), (3, xI (xwr ((x3) + (1))))]) (xsb_of ⟨rfl, rfl, rfl, rfl, trivial⟩ (show [3, 0, 1, 2].Nodup by decide)) ?_
  exact hr2 hx2 (xin_wr _) h
def f305_134  (r2 : Nat → Nat → Int → Int → xj_M → Option (xj_M)) (r34 : Nat → Nat → Int → Int → Int → Int → xj_M → Option (xj_M)) (f : Nat) (x0 : Nat) (x1 : Nat) (x2 : Int) (x3 : Int) (x4 : Int) (x5 : Int) (M : xj_M) : Option (xj_M) := r34 (x0) (x1) (x2) (x3) (x4) (xwr ((x5) + (1))) M
theorem k305_134 {d f : Nat}  {r2 : Nat → Nat → Int → Int → xj_M → Option (xj_M)} {r34 : Nat → Nat → Int → Int → Int → Int → xj_M → Option (xj_M)}  (hr2 : ∀ {x0 : Nat} {x1 : Nat} {x2 : Int} {x3 : Int} {M : xj_M} {R : xj_M}, xin x2 → xin x3 → r2 x0 x1 x2 x3 M = some R → xW (d + 0) (none, d + 0, none) xr_305 (2, [(0, xR_ x0), (1, xR_ x1), (2, xI x2), (3, xI x3)], [], M) (xQv R)) (hr34 : ∀ {x0 : Nat} {x1 : Nat} {x2 : Int} {x3 : Int} {x4 : Int} {x5 : Int} {M : xj_M} {R : xj_M}, xin x2 → xin x3 → xin x4 → xin x5 → r34 x0 x1 x2 x3 x4 x5 M = some R → xW (d + 0) (none, d + 0, none) xr_305 (34, [(0, xR_ x0), (1, xR_ x1), (2, xI x2), (3, xI x3), (4, xI x4), (5, xI x5)], [], M) (xQv R)) {x0 : Nat} {x1 : Nat} {x2 : Int} {x3 : Int} {x4 : Int} {x5 : Int} {M : xj_M} {R : xj_M} (hx2 : xin x2) (hx3 : xin x3) (hx4 : xin x4) (hx5 : xin x5) (h : f305_134  r2 r34 f x0 x1 x2 x3 x4 x5 M = some R) : xW (d + 0) (none, d + 0, none) xr_305 (134, [(0, xR_ x0), (1, xR_ x1), (2, xI x2), (3, xI x3), (4, xI x4), (5, xI x5)], [], M) (xQv R) := by
  unfold f305_134 at h
  refine xe_iincr (i := 5) (n := 1) (by decide +kernel) (by decide) rfl (xk_k (show ¬ (0 : Nat) = 5 by decide) (Or.inl (show ¬ (0 + 1 : Nat) = 5 by decide)) (xk_k (show ¬ (1 : Nat) = 5 by decide) (Or.inl (show ¬ (1 + 1 : Nat) = 5 by decide)) (xk_k (show ¬ (2 : Nat) = 5 by decide) (Or.inl (show ¬ (2 + 1 : Nat) = 5 by decide)) (xk_k (show ¬ (3 : Nat) = 5 by decide) (Or.inl (show ¬ (3 + 1 : Nat) = 5 by decide)) (xk_k (show ¬ (4 : Nat) = 5 by decide) (Or.inr (xI_cat _)) (xk_d rfl xk_n)))))) rfl ?_
  refine xe_goto (off := -103) (nx := 34) (by decide +kernel) (by decide) ?_
  refine xW_lv rfl (l := [(0, xR_ (x0)), (1, xR_ (x1)), (2, xI (x2)), (3, xI (x3)), (4, xI (x4)), (5, xI (xwr ((x5) + (1))))]) (xsb_of ⟨rfl, rfl, rfl, rfl, rfl, rfl, trivial⟩ (show [5, 0, 1, 2, 3, 4].Nodup by decide)) ?_
  exact hr34 hx2 hx3 hx4 (xin_wr _) h
def f305_126  (r2 : Nat → Nat → Int → Int → xj_M → Option (xj_M)) (r34 : Nat → Nat → Int → Int → Int → Int → xj_M → Option (xj_M)) (r74 : Nat → Nat → Int → Int → Int → Int → Int → xj_M → Option (xj_M)) (f : Nat) (x0 : Nat) (x1 : Nat) (x2 : Int) (x3 : Int) (x5 : Int) (x6 : Int) (y0 : Int) (M : xj_M) : Option (xj_M) := r74 (x0) (x1) (x2) (x3) (y0) (x5) (xwr ((x6) + (1))) M
theorem k305_126 {d f : Nat}  {r2 : Nat → Nat → Int → Int → xj_M → Option (xj_M)} {r34 : Nat → Nat → Int → Int → Int → Int → xj_M → Option (xj_M)} {r74 : Nat → Nat → Int → Int → Int → Int → Int → xj_M → Option (xj_M)}  (hr2 : ∀ {x0 : Nat} {x1 : Nat} {x2 : Int} {x3 : Int} {M : xj_M} {R : xj_M}, xin x2 → xin x3 → r2 x0 x1 x2 x3 M = some R → xW (d + 0) (none, d + 0, none) xr_305 (2, [(0, xR_ x0), (1, xR_ x1), (2, xI x2), (3, xI x3)], [], M) (xQv R)) (hr34 : ∀ {x0 : Nat} {x1 : Nat} {x2 : Int} {x3 : Int} {x4 : Int} {x5 : Int} {M : xj_M} {R : xj_M}, xin x2 → xin x3 → xin x4 → xin x5 → r34 x0 x1 x2 x3 x4 x5 M = some R → xW (d + 0) (none, d + 0, none) xr_305 (34, [(0, xR_ x0), (1, xR_ x1), (2, xI x2), (3, xI x3), (4, xI x4), (5, xI x5)], [], M) (xQv R)) (hr74 : ∀ {x0 : Nat} {x1 : Nat} {x2 : Int} {x3 : Int} {x4 : Int} {x5 : Int} {x6 : Int} {M : xj_M} {R : xj_M}, xin x2 → xin x3 → xin x4 → xin x5 → xin x6 → r74 x0 x1 x2 x3 x4 x5 x6 M = some R → xW (d + 0) (none, d + 0, none) xr_305 (74, [(0, xR_ x0), (1, xR_ x1), (2, xI x2), (3, xI x3), (4, xI x4), (5, xI x5), (6, xI x6)], [], M) (xQv R)) {x0 : Nat} {x1 : Nat} {x2 : Int} {x3 : Int} {x5 : Int} {x6 : Int} {y0 : Int} {M : xj_M} {R : xj_M} (hx2 : xin x2) (hx3 : xin x3) (hx5 : xin x5) (hx6 : xin x6) (hy0 : xin y0) (h : f305_126  r2 r34 r74 f x0 x1 x2 x3 x5 x6 y0 M = some R) : xW (d + 0) (none, d + 0, none) xr_305 (126, [(0, xR_ x0), (1, xR_ x1), (2, xI x2), (3, xI x3), (5, xI x5), (6, xI x6)], [xI y0], M) (xQv R) := by
  unfold f305_126 at h
  refine xe_isr (ins := .istore 4) (len := 2) (i := 4) (by decide +kernel) rfl rfl rfl (by decide) (xk_k (show ¬ (0 : Nat) = 4 by decide) (Or.inl (show ¬ (0 + 1 : Nat) = 4 by decide)) (xk_k (show ¬ (1 : Nat) = 4 by decide) (Or.inl (show ¬ (1 + 1 : Nat) = 4 by decide)) (xk_k (show ¬ (2 : Nat) = 4 by decide) (Or.inl (show ¬ (2 + 1 : Nat) = 4 by decide)) (xk_k (show ¬ (3 : Nat) = 4 by decide) (Or.inr (xI_cat _)) (xk_k (show ¬ (5 : Nat) = 4 by decide) (Or.inl (show ¬ (5 + 1 : Nat) = 4 by decide)) (xk_k (show ¬ (6 : Nat) = 4 by decide) (Or.inl (show ¬ (6 + 1 : Nat) = 4 by decide)) xk_n)))))) rfl ?_
  refine xe_iincr (i := 6) (n := 1) (by decide +kernel) (by decide) rfl (xk_k (show ¬ (4 : Nat) = 6 by decide) (Or.inl (show ¬ (4 + 1 : Nat) = 6 by decide)) (xk_k (show ¬ (0 : Nat) = 6 by decide) (Or.inl (show ¬ (0 + 1 : Nat) = 6 by decide)) (xk_k (show ¬ (1 : Nat) = 6 by decide) (Or.inl (show ¬ (1 + 1 : Nat) = 6 by decide)) (xk_k (show ¬ (2 : Nat) = 6 by decide) (Or.inl (show ¬ (2 + 1 : Nat) = 6 by decide)) (xk_k (show ¬ (3 : Nat) = 6 by decide) (Or.inl (show ¬ (3 + 1 : Nat) = 6 by decide)) (xk_k (show ¬ (5 : Nat) = 6 by decide) (Or.inr (xI_cat _)) (xk_d rfl xk_n))))))) rfl ?_
  refine xe_goto (off := -57) (nx := 74) (by decide +kernel) (by decide) ?_
  refine xW_lv rfl (l := [(0, xR_ (x0)), (1, xR_ (x1)), (2, xI (x2)), (3, xI (x3)), (4, xI (y0)), (5, xI (x5)), (6, xI (xwr ((x6) + (1))))]) (xsb_of ⟨rfl, rfl, rfl, rfl, rfl, rfl, rfl, trivial⟩ (show [6, 4, 0, 1, 2, 3, 5].Nodup by decide)) ?_
  exact hr74 hx2 hx3 hy0 hx5 (xin_wr _) h
def f305_121  (r2 : Nat → Nat → Int → Int → xj_M → Option (xj_M)) (r34 : Nat → Nat → Int → Int → Int → Int → xj_M → Option (xj_M)) (r74 : Nat → Nat → Int → Int → Int → Int → Int → xj_M → Option (xj_M)) (f : Nat) (x0 : Nat) (x1 : Nat) (x2 : Int) (x3 : Int) (x5 : Int) (x6 : Int) (M : xj_M) : Option (xj_M) := f305_126  r2 r34 r74 f (x0) (x1) (x2) (x3) (x5) (x6) (1) M
theorem k305_121 {d f : Nat}  {r2 : Nat → Nat → Int → Int → xj_M → Option (xj_M)} {r34 : Nat → Nat → Int → Int → Int → Int → xj_M → Option (xj_M)} {r74 : Nat → Nat → Int → Int → Int → Int → Int → xj_M → Option (xj_M)}  (hr2 : ∀ {x0 : Nat} {x1 : Nat} {x2 : Int} {x3 : Int} {M : xj_M} {R : xj_M}, xin x2 → xin x3 → r2 x0 x1 x2 x3 M = some R → xW (d + 0) (none, d + 0, none) xr_305 (2, [(0, xR_ x0), (1, xR_ x1), (2, xI x2), (3, xI x3)], [], M) (xQv R)) (hr34 : ∀ {x0 : Nat} {x1 : Nat} {x2 : Int} {x3 : Int} {x4 : Int} {x5 : Int} {M : xj_M} {R : xj_M}, xin x2 → xin x3 → xin x4 → xin x5 → r34 x0 x1 x2 x3 x4 x5 M = some R → xW (d + 0) (none, d + 0, none) xr_305 (34, [(0, xR_ x0), (1, xR_ x1), (2, xI x2), (3, xI x3), (4, xI x4), (5, xI x5)], [], M) (xQv R)) (hr74 : ∀ {x0 : Nat} {x1 : Nat} {x2 : Int} {x3 : Int} {x4 : Int} {x5 : Int} {x6 : Int} {M : xj_M} {R : xj_M}, xin x2 → xin x3 → xin x4 → xin x5 → xin x6 → r74 x0 x1 x2 x3 x4 x5 x6 M = some R → xW (d + 0) (none, d + 0, none) xr_305 (74, [(0, xR_ x0), (1, xR_ x1), (2, xI x2), (3, xI x3), (4, xI x4), (5, xI x5), (6, xI x6)], [], M) (xQv R)) {x0 : Nat} {x1 : Nat} {x2 : Int} {x3 : Int} {x5 : Int} {x6 : Int} {M : xj_M} {R : xj_M} (hx2 : xin x2) (hx3 : xin x3) (hx5 : xin x5) (hx6 : xin x6) (h : f305_121  r2 r34 r74 f x0 x1 x2 x3 x5 x6 M = some R) : xW (d + 0) (none, d + 0, none) xr_305 (121, [(0, xR_ x0), (1, xR_ x1), (2, xI x2), (3, xI x3), (5, xI x5), (6, xI x6)], [], M) (xQv R) := by
  unfold f305_121 at h
  refine xe_iconst (n := 1) (by decide +kernel) rfl ?_
  refine xe_goto (off := 4) (nx := 126) (by decide +kernel) (by decide) ?_
  refine xW_lv rfl (l := [(0, xR_ (x0)), (1, xR_ (x1)), (2, xI (x2)), (3, xI (x3)), (5, xI (x5)), (6, xI (x6))]) (xsb_of ⟨rfl, rfl, rfl, rfl, rfl, rfl, trivial⟩ (show [0, 1, 2, 3, 5, 6].Nodup by decide)) ?_
  exact k305_126  hr2 hr34 hr74 hx2 hx3 hx5 hx6 (show xin (1) by decide) h
def f305_125  (r2 : Nat → Nat → Int → Int → xj_M → Option (xj_M)) (r34 : Nat → Nat → Int → Int → Int → Int → xj_M → Option (xj_M)) (r74 : Nat → Nat → Int → Int → Int → Int → Int → xj_M → Option (xj_M)) (f : Nat) (x0 : Nat) (x1 : Nat) (x2 : Int) (x3 : Int) (x5 : Int) (x6 : Int) (M : xj_M) : Option (xj_M) := f305_126  r2 r34 r74 f (x0) (x1) (x2) (x3) (x5) (x6) (0) M
theorem k305_125 {d f : Nat}  {r2 : Nat → Nat → Int → Int → xj_M → Option (xj_M)} {r34 : Nat → Nat → Int → Int → Int → Int → xj_M → Option (xj_M)} {r74 : Nat → Nat → Int → Int → Int → Int → Int → xj_M → Option (xj_M)}  (hr2 : ∀ {x0 : Nat} {x1 : Nat} {x2 : Int} {x3 : Int} {M : xj_M} {R : xj_M}, xin x2 → xin x3 → r2 x0 x1 x2 x3 M = some R → xW (d + 0) (none, d + 0, none) xr_305 (2, [(0, xR_ x0), (1, xR_ x1), (2, xI x2), (3, xI x3)], [], M) (xQv R)) (hr34 : ∀ {x0 : Nat} {x1 : Nat} {x2 : Int} {x3 : Int} {x4 : Int} {x5 : Int} {M : xj_M} {R : xj_M}, xin x2 → xin x3 → xin x4 → xin x5 → r34 x0 x1 x2 x3 x4 x5 M = some R → xW (d + 0) (none, d + 0, none) xr_305 (34, [(0, xR_ x0), (1, xR_ x1), (2, xI x2), (3, xI x3), (4, xI x4), (5, xI x5)], [], M) (xQv R)) (hr74 : ∀ {x0 : Nat} {x1 : Nat} {x2 : Int} {x3 : Int} {x4 : Int} {x5 : Int} {x6 : Int} {M : xj_M} {R : xj_M}, xin x2 → xin x3 → xin x4 → xin x5 → xin x6 → r74 x0 x1 x2 x3 x4 x5 x6 M = some R → xW (d + 0) (none, d + 0, none) xr_305 (74, [(0, xR_ x0), (1, xR_ x1), (2, xI x2), (3, xI x3), (4, xI x4), (5, xI x5), (6, xI x6)], [], M) (xQv R)) {x0 : Nat} {x1 : Nat} {x2 : Int} {x3 : Int} {x5 : Int} {x6 : Int} {M : xj_M} {R : xj_M} (hx2 : xin x2) (hx3 : xin x3) (hx5 : xin x5) (hx6 : xin x6) (h : f305_125  r2 r34 r74 f x0 x1 x2 x3 x5 x6 M = some R) : xW (d + 0) (none, d + 0, none) xr_305 (125, [(0, xR_ x0), (1, xR_ x1), (2, xI x2), (3, xI x3), (5, xI x5), (6, xI x6)], [], M) (xQv R) := by
  unfold f305_125 at h
  refine xe_iconst (n := 0) (by decide +kernel) rfl ?_
  refine xW_lv rfl (l := [(0, xR_ (x0)), (1, xR_ (x1)), (2, xI (x2)), (3, xI (x3)), (5, xI (x5)), (6, xI (x6))]) (xsb_of ⟨rfl, rfl, rfl, rfl, rfl, rfl, trivial⟩ (show [0, 1, 2, 3, 5, 6].Nodup by decide)) ?_
  exact k305_126  hr2 hr34 hr74 hx2 hx3 hx5 hx6 (show xin (0) by decide) h
def f305_74b  (r2 : Nat → Nat → Int → Int → xj_M → Option (xj_M)) (r34 : Nat → Nat → Int → Int → Int → Int → xj_M → Option (xj_M)) (r74 : Nat → Nat → Int → Int → Int → Int → Int → xj_M → Option (xj_M)) (f : Nat) (x0 : Nat) (x1 : Nat) (x2 : Int) (x3 : Int) (x4 : Int) (x5 : Int) (x6 : Int) (M : xj_M) : Option (xj_M) := ((xq_gr 15 29 (x0) M).bind fun v101 => ((xq_gi 14 8 (v101) M).bind fun v103 => (if (v103) ≤ (x6) then f305_134  r2 r34 f (x0) (x1) (x2) (x3) (x4) (x5) M else (if ¬ (x4) = 0 then f305_121  r2 r34 r74 f (x0) (x1) (x2) (x3) (x5) (x6) M else ((xq_gr 15 29 (x0) M).bind fun v107 => ((xq_gr 14 3 (v107) M).bind fun v109 => ((xq_ai 3 (v109) (x5) M).bind fun v111 => (if ¬ (xand (xshr (v111) (x6)) (1)) = (1) then f305_125  r2 r34 r74 f (x0) (x1) (x2) (x3) (x5) (x6) M else ((xq_gr 13 22 (x1) M).bind fun v114 => ((xq_ai 3 (v114) (x6) M).bind fun v116 => (if ¬ (v116) = (1) then f305_125  r2 r34 r74 f (x0) (x1) (x2) (x3) (x5) (x6) M else f305_121  r2 r34 r74 f (x0) (x1) (x2) (x3) (x5) (x6) M)))))))))))
theorem k305_74b {d f : Nat}  {r2 : Nat → Nat → Int → Int → xj_M → Option (xj_M)} {r34 : Nat → Nat → Int → Int → Int → Int → xj_M → Option (xj_M)} {r74 : Nat → Nat → Int → Int → Int → Int → Int → xj_M → Option (xj_M)}  (hr2 : ∀ {x0 : Nat} {x1 : Nat} {x2 : Int} {x3 : Int} {M : xj_M} {R : xj_M}, xin x2 → xin x3 → r2 x0 x1 x2 x3 M = some R → xW (d + 0) (none, d + 0, none) xr_305 (2, [(0, xR_ x0), (1, xR_ x1), (2, xI x2), (3, xI x3)], [], M) (xQv R)) (hr34 : ∀ {x0 : Nat} {x1 : Nat} {x2 : Int} {x3 : Int} {x4 : Int} {x5 : Int} {M : xj_M} {R : xj_M}, xin x2 → xin x3 → xin x4 → xin x5 → r34 x0 x1 x2 x3 x4 x5 M = some R → xW (d + 0) (none, d + 0, none) xr_305 (34, [(0, xR_ x0), (1, xR_ x1), (2, xI x2), (3, xI x3), (4, xI x4), (5, xI x5)], [], M) (xQv R)) (hr74 : ∀ {x0 : Nat} {x1 : Nat} {x2 : Int} {x3 : Int} {x4 : Int} {x5 : Int} {x6 : Int} {M : xj_M} {R : xj_M}, xin x2 → xin x3 → xin x4 → xin x5 → xin x6 → r74 x0 x1 x2 x3 x4 x5 x6 M = some R → xW (d + 0) (none, d + 0, none) xr_305 (74, [(0, xR_ x0), (1, xR_ x1), (2, xI x2), (3, xI x3), (4, xI x4), (5, xI x5), (6, xI x6)], [], M) (xQv R)) {x0 : Nat} {x1 : Nat} {x2 : Int} {x3 : Int} {x4 : Int} {x5 : Int} {x6 : Int} {M : xj_M} {R : xj_M} (hx2 : xin x2) (hx3 : xin x3) (hx4 : xin x4) (hx5 : xin x5) (hx6 : xin x6) (h : f305_74b  r2 r34 r74 f x0 x1 x2 x3 x4 x5 x6 M = some R) : xW (d + 0) (none, d + 0, none) xr_305 (74, [(0, xR_ x0), (1, xR_ x1), (2, xI x2), (3, xI x3), (4, xI x4), (5, xI x5), (6, xI x6)], [], M) (xQv R) := by
  unfold f305_74b at h
  refine xe_ldn (ins := .iload 6) (len := 2) (by decide +kernel) rfl rfl rfl rfl ?_
  refine xe_alr (ins := .aload_n 0) (len := 1) (i := 0) (by decide +kernel) rfl rfl rfl rfl rfl ?_
  obtain ⟨v101, e102, h⟩ := xbnd h
  refine xs_gr (i := 439) (c := 15) (k := 29) (by decide +kernel) (by decide) (by decide +kernel) e102 rfl ?_
  obtain ⟨v103, e104, h⟩ := xbnd h
  refine xs_gi (i := 166) (c := 14) (k := 8) (by decide +kernel) (by decide) (by decide +kernel) e104 rfl ?_
  refine xe_icmpge (off := 51) (t := 134) (by decide +kernel) (by decide) rfl hx6 (xq_gi_in e104) (fun c105 => ?_) (fun c105 => ?_)
  · rw [if_pos c105] at h
    refine xW_lv rfl (l := [(0, xR_ (x0)), (1, xR_ (x1)), (2, xI (x2)), (3, xI (x3)), (4, xI (x4)), (5, xI (x5))]) (xsb_of ⟨rfl, rfl, rfl, rfl, rfl, rfl, trivial⟩ (show [0, 1, 2, 3, 4, 5, 6].Nodup by decide)) ?_
    exact k305_134  hr2 hr34 hx2 hx3 hx4 hx5 h
  · rw [if_neg c105] at h
    refine xe_ldn (ins := .iload 4) (len := 2) (by decide +kernel) rfl rfl rfl rfl ?_
    refine xe_ifne (off := 33) (t := 121) (by decide +kernel) (by decide) rfl hx4 (fun c106 => ?_) (fun c106 => ?_)
    · rw [if_pos c106] at h
      refine xW_lv rfl (l := [(0, xR_ (x0)), (1, xR_ (x1)), (2, xI (x2)), (3, xI (x3)), (5, xI (x5)), (6, xI (x6))]) (xsb_of ⟨rfl, rfl, rfl, rfl, rfl, rfl, trivial⟩ (show [0, 1, 2, 3, 4, 5, 6].Nodup by decide)) ?_
      exact k305_121  hr2 hr34 hr74 hx2 hx3 hx5 hx6 h
    · rw [if_neg c106] at h
      refine xe_alr (ins := .aload_n 0) (len := 1) (i := 0) (by decide +kernel) rfl rfl rfl rfl rfl ?_
      obtain ⟨v107, e108, h⟩ := xbnd h
      refine xs_gr (i := 439) (c := 15) (k := 29) (by decide +kernel) (by decide) (by decide +kernel) e108 rfl ?_
      obtain ⟨v109, e110, h⟩ := xbnd h
      refine xs_gr (i := 421) (c := 14) (k := 3) (by decide +kernel) (by decide) (by decide +kernel) e110 rfl ?_
      refine xe_ldn (ins := .iload 5) (len := 2) (by decide +kernel) rfl rfl rfl rfl ?_
      obtain ⟨v111, e112, h⟩ := xbnd h
      refine xs_iald rfl (by decide +kernel) hx5 e112 rfl ?_
      refine xe_ldn (ins := .iload 6) (len := 2) (by decide +kernel) rfl rfl rfl rfl ?_
      refine xe_ishr (by decide +kernel) rfl ?_
      refine xe_iconst (n := 1) (by decide +kernel) rfl ?_
      refine xe_iand (by decide +kernel) rfl ?_
      refine xe_iconst (n := 1) (by decide +kernel) rfl ?_
      refine xe_icmpne (off := 18) (t := 125) (by decide +kernel) (by decide) rfl (xin_of _) (show xin (1) by decide) (fun c113 => ?_) (fun c113 => ?_)
      · rw [if_pos c113] at h
        refine xW_lv rfl (l := [(0, xR_ (x0)), (1, xR_ (x1)), (2, xI (x2)), (3, xI (x3)), (5, xI (x5)), (6, xI (x6))]) (xsb_of ⟨rfl, rfl, rfl, rfl, rfl, rfl, trivial⟩ (show [0, 1, 2, 3, 4, 5, 6].Nodup by decide)) ?_
        exact k305_125  hr2 hr34 hr74 hx2 hx3 hx5 hx6 h
      · rw [if_neg c113] at h
        refine xe_alr (ins := .aload_n 1) (len := 1) (i := 1) (by decide +kernel) rfl rfl rfl rfl rfl ?_
        obtain ⟨v114, e115, h⟩ := xbnd h
        refine xs_gr (i := 806) (c := 13) (k := 22) (by decide +kernel) (by decide) (by decide +kernel) e115 rfl ?_
        refine xe_ldn (ins := .iload 6) (len := 2) (by decide +kernel) rfl rfl rfl rfl ?_
        obtain ⟨v116, e117, h⟩ := xbnd h
        refine xs_iald rfl (by decide +kernel) hx6 e117 rfl ?_
        refine xe_iconst (n := 1) (by decide +kernel) rfl ?_
        refine xe_icmpne (off := 7) (t := 125) (by decide +kernel) (by decide) rfl (xq_ai_in e117) (show xin (1) by decide) (fun c118 => ?_) (fun c118 => ?_)
        · rw [if_pos c118] at h
          refine xW_lv rfl (l := [(0, xR_ (x0)), (1, xR_ (x1)), (2, xI (x2)), (3, xI (x3)), (5, xI (x5)), (6, xI (x6))]) (xsb_of ⟨rfl, rfl, rfl, rfl, rfl, rfl, trivial⟩ (show [0, 1, 2, 3, 4, 5, 6].Nodup by decide)) ?_
          exact k305_125  hr2 hr34 hr74 hx2 hx3 hx5 hx6 h
        · rw [if_neg c118] at h
          refine xW_lv rfl (l := [(0, xR_ (x0)), (1, xR_ (x1)), (2, xI (x2)), (3, xI (x3)), (5, xI (x5)), (6, xI (x6))]) (xsb_of ⟨rfl, rfl, rfl, rfl, rfl, rfl, trivial⟩ (show [0, 1, 2, 3, 4, 5, 6].Nodup by decide)) ?_
          exact k305_121  hr2 hr34 hr74 hx2 hx3 hx5 hx6 h
def f305_74  (r2 : Nat → Nat → Int → Int → xj_M → Option (xj_M)) (r34 : Nat → Nat → Int → Int → Int → Int → xj_M → Option (xj_M)) (f : Nat) : Nat → Nat → Nat → Int → Int → Int → Int → Int → xj_M → Option (xj_M)
  | 0, _, _, _, _, _, _, _, _ => none
  | n + 1, x0, x1, x2, x3, x4, x5, x6, M => f305_74b  r2 r34 (f305_74  r2 r34 f n) f x0 x1 x2 x3 x4 x5 x6 M
theorem k305_74 {d f : Nat}  {r2 : Nat → Nat → Int → Int → xj_M → Option (xj_M)} {r34 : Nat → Nat → Int → Int → Int → Int → xj_M → Option (xj_M)}  (hr2 : ∀ {x0 : Nat} {x1 : Nat} {x2 : Int} {x3 : Int} {M : xj_M} {R : xj_M}, xin x2 → xin x3 → r2 x0 x1 x2 x3 M = some R → xW (d + 0) (none, d + 0, none) xr_305 (2, [(0, xR_ x0), (1, xR_ x1), (2, xI x2), (3, xI x3)], [], M) (xQv R)) (hr34 : ∀ {x0 : Nat} {x1 : Nat} {x2 : Int} {x3 : Int} {x4 : Int} {x5 : Int} {M : xj_M} {R : xj_M}, xin x2 → xin x3 → xin x4 → xin x5 → r34 x0 x1 x2 x3 x4 x5 M = some R → xW (d + 0) (none, d + 0, none) xr_305 (34, [(0, xR_ x0), (1, xR_ x1), (2, xI x2), (3, xI x3), (4, xI x4), (5, xI x5)], [], M) (xQv R)) : ∀ {n : Nat} {x0 : Nat} {x1 : Nat} {x2 : Int} {x3 : Int} {x4 : Int} {x5 : Int} {x6 : Int} {M : xj_M} {R : xj_M}, xin x2 → xin x3 → xin x4 → xin x5 → xin x6 → f305_74  r2 r34 f n x0 x1 x2 x3 x4 x5 x6 M = some R → xW (d + 0) (none, d + 0, none) xr_305 (74, [(0, xR_ x0), (1, xR_ x1), (2, xI x2), (3, xI x3), (4, xI x4), (5, xI x5), (6, xI x6)], [], M) (xQv R) := by
  intro n
  induction n with
  | zero => intros; rename_i h; cases h
  | succ n ih => intros; rename_i h; exact k305_74b  hr2 hr34 ih (by assumption) (by assumption) (by assumption) (by assumption) (by assumption) h
def f305_157  (r2 : Nat → Nat → Int → Int → xj_M → Option (xj_M)) (f : Nat) (x0 : Nat) (x1 : Nat) (x2 : Int) (x3 : Int) (y0 : Int) (y1 : Int) (y2 : Int) (y3 : Nat) (M : xj_M) : Option (xj_M) := ((xq_si (y3) (y2) (xwr ((y1) + (y0))) M).bind fun M119 => f305_159  r2 f (x0) (x1) (x2) (x3) M119)
theorem k305_157 {d f : Nat}  {r2 : Nat → Nat → Int → Int → xj_M → Option (xj_M)}  (hr2 : ∀ {x0 : Nat} {x1 : Nat} {x2 : Int} {x3 : Int} {M : xj_M} {R : xj_M}, xin x2 → xin x3 → r2 x0 x1 x2 x3 M = some R → xW (d + 0) (none, d + 0, none) xr_305 (2, [(0, xR_ x0), (1, xR_ x1), (2, xI x2), (3, xI x3)], [], M) (xQv R)) {x0 : Nat} {x1 : Nat} {x2 : Int} {x3 : Int} {y0 : Int} {y1 : Int} {y2 : Int} {y3 : Nat} {M : xj_M} {R : xj_M} (hx2 : xin x2) (hx3 : xin x3) (hy0 : xin y0) (hy1 : xin y1) (hy2 : xin y2) (h : f305_157  r2 f x0 x1 x2 x3 y0 y1 y2 y3 M = some R) : xW (d + 0) (none, d + 0, none) xr_305 (157, [(0, xR_ x0), (1, xR_ x1), (2, xI x2), (3, xI x3)], [xI y0, xI y1, xI y2, xR_ y3], M) (xQv R) := by
  unfold f305_157 at h
  refine xe_iadd (by decide +kernel) rfl ?_
  obtain ⟨M119, e120, h⟩ := xbnd h
  refine xs_iast (by decide +kernel) hy2 e120 rfl ?_
  refine xW_lv rfl (l := [(0, xR_ (x0)), (1, xR_ (x1)), (2, xI (x2)), (3, xI (x3))]) (xsb_of ⟨rfl, rfl, rfl, rfl, trivial⟩ (show [0, 1, 2, 3].Nodup by decide)) ?_
  exact k305_159  hr2 hx2 hx3 h
def f305_34b  (r2 : Nat → Nat → Int → Int → xj_M → Option (xj_M)) (r34 : Nat → Nat → Int → Int → Int → Int → xj_M → Option (xj_M)) (f : Nat) (x0 : Nat) (x1 : Nat) (x2 : Int) (x3 : Int) (x4 : Int) (x5 : Int) (M : xj_M) : Option (xj_M) := ((xq_gr 15 29 (x0) M).bind fun v121 => ((xq_gi 14 8 (v121) M).bind fun v123 => (if (v123) ≤ (x5) then ((xq_gr 13 21 (x1) M).bind fun v126 => ((xq_ai 3 (v126) (x3) M).bind fun v128 => (if (x4) = 0 then f305_157  r2 f (x0) (x1) (x2) (x3) (0) (v128) (x3) (v126) M else f305_157  r2 f (x0) (x1) (x2) (x3) (1) (v128) (x3) (v126) M))) else ((xq_gr 15 29 (x0) M).bind fun v131 => ((xq_gr 14 4 (v131) M).bind fun v133 => ((xq_ai 3 (v133) (x5) M).bind fun v135 => ((xq_gr 15 29 (x0) M).bind fun v137 => ((xq_gr 14 4 (v137) M).bind fun v139 => ((xq_ai 3 (v139) (x3) M).bind fun v141 => (if (v135) = (v141) then f305_74  r2 r34 f f (x0) (x1) (x2) (x3) (x4) (x5) (0) M else f305_134  r2 r34 f (x0) (x1) (x2) (x3) (x4) (x5) M))))))))))
theorem k305_34b {d f : Nat}  {r2 : Nat → Nat → Int → Int → xj_M → Option (xj_M)} {r34 : Nat → Nat → Int → Int → Int → Int → xj_M → Option (xj_M)}  (hr2 : ∀ {x0 : Nat} {x1 : Nat} {x2 : Int} {x3 : Int} {M : xj_M} {R : xj_M}, xin x2 → xin x3 → r2 x0 x1 x2 x3 M = some R → xW (d + 0) (none, d + 0, none) xr_305 (2, [(0, xR_ x0), (1, xR_ x1), (2, xI x2), (3, xI x3)], [], M) (xQv R)) (hr34 : ∀ {x0 : Nat} {x1 : Nat} {x2 : Int} {x3 : Int} {x4 : Int} {x5 : Int} {M : xj_M} {R : xj_M}, xin x2 → xin x3 → xin x4 → xin x5 → r34 x0 x1 x2 x3 x4 x5 M = some R → xW (d + 0) (none, d + 0, none) xr_305 (34, [(0, xR_ x0), (1, xR_ x1), (2, xI x2), (3, xI x3), (4, xI x4), (5, xI x5)], [], M) (xQv R)) {x0 : Nat} {x1 : Nat} {x2 : Int} {x3 : Int} {x4 : Int} {x5 : Int} {M : xj_M} {R : xj_M} (hx2 : xin x2) (hx3 : xin x3) (hx4 : xin x4) (hx5 : xin x5) (h : f305_34b  r2 r34 f x0 x1 x2 x3 x4 x5 M = some R) : xW (d + 0) (none, d + 0, none) xr_305 (34, [(0, xR_ x0), (1, xR_ x1), (2, xI x2), (3, xI x3), (4, xI x4), (5, xI x5)], [], M) (xQv R) := by
  unfold f305_34b at h
  refine xe_ldn (ins := .iload 5) (len := 2) (by decide +kernel) rfl rfl rfl rfl ?_
  refine xe_alr (ins := .aload_n 0) (len := 1) (i := 0) (by decide +kernel) rfl rfl rfl rfl rfl ?_
  obtain ⟨v121, e122, h⟩ := xbnd h
  refine xs_gr (i := 439) (c := 15) (k := 29) (by decide +kernel) (by decide) (by decide +kernel) e122 rfl ?_
  obtain ⟨v123, e124, h⟩ := xbnd h
  refine xs_gi (i := 166) (c := 14) (k := 8) (by decide +kernel) (by decide) (by decide +kernel) e124 rfl ?_
  refine xe_icmpge (off := 97) (t := 140) (by decide +kernel) (by decide) rfl hx5 (xq_gi_in e124) (fun c125 => ?_) (fun c125 => ?_)
  · rw [if_pos c125] at h
    refine xe_alr (ins := .aload_n 1) (len := 1) (i := 1) (by decide +kernel) rfl rfl rfl rfl rfl ?_
    obtain ⟨v126, e127, h⟩ := xbnd h
    refine xs_gr (i := 749) (c := 13) (k := 21) (by decide +kernel) (by decide) (by decide +kernel) e127 rfl ?_
    refine xe_ldn (ins := .iload_n 3) (len := 1) (by decide +kernel) rfl rfl rfl rfl ?_
    refine xe_dup2r (xI_cat _) (xR_cat _) (by decide +kernel) rfl ?_
    obtain ⟨v128, e129, h⟩ := xbnd h
    refine xs_iald rfl (by decide +kernel) hx3 e129 rfl ?_
    refine xe_ldn (ins := .iload 4) (len := 2) (by decide +kernel) rfl rfl rfl rfl ?_
    refine xe_ifeq (off := 7) (t := 156) (by decide +kernel) (by decide) rfl hx4 (fun c130 => ?_) (fun c130 => ?_)
    · rw [if_pos c130] at h
      refine xe_iconst (n := 0) (by decide +kernel) rfl ?_
      refine xW_lv rfl (l := [(0, xR_ (x0)), (1, xR_ (x1)), (2, xI (x2)), (3, xI (x3))]) (xsb_of ⟨rfl, rfl, rfl, rfl, trivial⟩ (show [0, 1, 2, 3, 4, 5].Nodup by decide)) ?_
      exact k305_157  hr2 hx2 hx3 (show xin (0) by decide) (xq_ai_in e129) hx3 h
    · rw [if_neg c130] at h
      refine xe_iconst (n := 1) (by decide +kernel) rfl ?_
      refine xe_goto (off := 4) (nx := 157) (by decide +kernel) (by decide) ?_
      refine xW_lv rfl (l := [(0, xR_ (x0)), (1, xR_ (x1)), (2, xI (x2)), (3, xI (x3))]) (xsb_of ⟨rfl, rfl, rfl, rfl, trivial⟩ (show [0, 1, 2, 3, 4, 5].Nodup by decide)) ?_
      exact k305_157  hr2 hx2 hx3 (show xin (1) by decide) (xq_ai_in e129) hx3 h
  · rw [if_neg c125] at h
    refine xe_alr (ins := .aload_n 0) (len := 1) (i := 0) (by decide +kernel) rfl rfl rfl rfl rfl ?_
    obtain ⟨v131, e132, h⟩ := xbnd h
    refine xs_gr (i := 439) (c := 15) (k := 29) (by decide +kernel) (by decide) (by decide +kernel) e132 rfl ?_
    obtain ⟨v133, e134, h⟩ := xbnd h
    refine xs_gr (i := 427) (c := 14) (k := 4) (by decide +kernel) (by decide) (by decide +kernel) e134 rfl ?_
    refine xe_ldn (ins := .iload 5) (len := 2) (by decide +kernel) rfl rfl rfl rfl ?_
    obtain ⟨v135, e136, h⟩ := xbnd h
    refine xs_iald rfl (by decide +kernel) hx5 e136 rfl ?_
    refine xe_alr (ins := .aload_n 0) (len := 1) (i := 0) (by decide +kernel) rfl rfl rfl rfl rfl ?_
    obtain ⟨v137, e138, h⟩ := xbnd h
    refine xs_gr (i := 439) (c := 15) (k := 29) (by decide +kernel) (by decide) (by decide +kernel) e138 rfl ?_
    obtain ⟨v139, e140, h⟩ := xbnd h
    refine xs_gr (i := 427) (c := 14) (k := 4) (by decide +kernel) (by decide) (by decide +kernel) e140 rfl ?_
    refine xe_ldn (ins := .iload_n 3) (len := 1) (by decide +kernel) rfl rfl rfl rfl ?_
    obtain ⟨v141, e142, h⟩ := xbnd h
    refine xs_iald rfl (by decide +kernel) hx3 e142 rfl ?_
    refine xe_icmpeq (off := 6) (t := 71) (by decide +kernel) (by decide) rfl (xq_ai_in e136) (xq_ai_in e142) (fun c143 => ?_) (fun c143 => ?_)
    · rw [if_pos c143] at h
      refine xe_iconst (n := 0) (by decide +kernel) rfl ?_
      refine xe_isr (ins := .istore 6) (len := 2) (i := 6) (by decide +kernel) rfl rfl rfl (by decide) (xk_k (show ¬ (0 : Nat) = 6 by decide) (Or.inl (show ¬ (0 + 1 : Nat) = 6 by decide)) (xk_k (show ¬ (1 : Nat) = 6 by decide) (Or.inl (show ¬ (1 + 1 : Nat) = 6 by decide)) (xk_k (show ¬ (2 : Nat) = 6 by decide) (Or.inl (show ¬ (2 + 1 : Nat) = 6 by decide)) (xk_k (show ¬ (3 : Nat) = 6 by decide) (Or.inl (show ¬ (3 + 1 : Nat) = 6 by decide)) (xk_k (show ¬ (4 : Nat) = 6 by decide) (Or.inl (show ¬ (4 + 1 : Nat) = 6 by decide)) (xk_k (show ¬ (5 : Nat) = 6 by decide) (Or.inr (xI_cat _)) xk_n)))))) rfl ?_
      refine xW_lv rfl (l := [(0, xR_ (x0)), (1, xR_ (x1)), (2, xI (x2)), (3, xI (x3)), (4, xI (x4)), (5, xI (x5)), (6, xI (0))]) (xsb_of ⟨rfl, rfl, rfl, rfl, rfl, rfl, rfl, trivial⟩ (show [6, 0, 1, 2, 3, 4, 5].Nodup by decide)) ?_
      exact k305_74  hr2 hr34 hx2 hx3 hx4 hx5 (show xin (0) by decide) h
    · rw [if_neg c143] at h
      refine xe_goto (off := 66) (nx := 134) (by decide +kernel) (by decide) ?_
      refine xW_lv rfl (l := [(0, xR_ (x0)), (1, xR_ (x1)), (2, xI (x2)), (3, xI (x3)), (4, xI (x4)), (5, xI (x5))]) (xsb_of ⟨rfl, rfl, rfl, rfl, rfl, rfl, trivial⟩ (show [0, 1, 2, 3, 4, 5].Nodup by decide)) ?_
      exact k305_134  hr2 hr34 hx2 hx3 hx4 hx5 h
def f305_34  (r2 : Nat → Nat → Int → Int → xj_M → Option (xj_M)) (f : Nat) : Nat → Nat → Nat → Int → Int → Int → Int → xj_M → Option (xj_M)
  | 0, _, _, _, _, _, _, _ => none
  | n + 1, x0, x1, x2, x3, x4, x5, M => f305_34b  r2 (f305_34  r2 f n) f x0 x1 x2 x3 x4 x5 M
theorem k305_34 {d f : Nat}  {r2 : Nat → Nat → Int → Int → xj_M → Option (xj_M)}  (hr2 : ∀ {x0 : Nat} {x1 : Nat} {x2 : Int} {x3 : Int} {M : xj_M} {R : xj_M}, xin x2 → xin x3 → r2 x0 x1 x2 x3 M = some R → xW (d + 0) (none, d + 0, none) xr_305 (2, [(0, xR_ x0), (1, xR_ x1), (2, xI x2), (3, xI x3)], [], M) (xQv R)) : ∀ {n : Nat} {x0 : Nat} {x1 : Nat} {x2 : Int} {x3 : Int} {x4 : Int} {x5 : Int} {M : xj_M} {R : xj_M}, xin x2 → xin x3 → xin x4 → xin x5 → f305_34  r2 f n x0 x1 x2 x3 x4 x5 M = some R → xW (d + 0) (none, d + 0, none) xr_305 (34, [(0, xR_ x0), (1, xR_ x1), (2, xI x2), (3, xI x3), (4, xI x4), (5, xI x5)], [], M) (xQv R) := by
  intro n
  induction n with
  | zero => intros; rename_i h; cases h
  | succ n ih => intros; rename_i h; exact k305_34b  hr2 ih (by assumption) (by assumption) (by assumption) (by assumption) h
def f305_2b  (r2 : Nat → Nat → Int → Int → xj_M → Option (xj_M)) (f : Nat) (x0 : Nat) (x1 : Nat) (x2 : Int) (x3 : Int) (M : xj_M) : Option (xj_M) := ((xq_gr 15 29 (x0) M).bind fun v144 => ((xq_gi 14 8 (v144) M).bind fun v146 => (if (v146) ≤ (x3) then (some M) else ((xq_gr 15 29 (x0) M).bind fun v149 => ((xq_gr 14 5 (v149) M).bind fun v151 => ((xq_ab (v151) (x3) M).bind fun v153 => (if (v153) = 0 then f305_34  r2 f f (x0) (x1) (x2) (x3) (x2) (0) M else f305_159  r2 f (x0) (x1) (x2) (x3) M)))))))
theorem k305_2b {d f : Nat}  {r2 : Nat → Nat → Int → Int → xj_M → Option (xj_M)}  (hr2 : ∀ {x0 : Nat} {x1 : Nat} {x2 : Int} {x3 : Int} {M : xj_M} {R : xj_M}, xin x2 → xin x3 → r2 x0 x1 x2 x3 M = some R → xW (d + 0) (none, d + 0, none) xr_305 (2, [(0, xR_ x0), (1, xR_ x1), (2, xI x2), (3, xI x3)], [], M) (xQv R)) {x0 : Nat} {x1 : Nat} {x2 : Int} {x3 : Int} {M : xj_M} {R : xj_M} (hx2 : xin x2) (hx3 : xin x3) (h : f305_2b  r2 f x0 x1 x2 x3 M = some R) : xW (d + 0) (none, d + 0, none) xr_305 (2, [(0, xR_ x0), (1, xR_ x1), (2, xI x2), (3, xI x3)], [], M) (xQv R) := by
  unfold f305_2b at h
  refine xe_ldn (ins := .iload_n 3) (len := 1) (by decide +kernel) rfl rfl rfl rfl ?_
  refine xe_alr (ins := .aload_n 0) (len := 1) (i := 0) (by decide +kernel) rfl rfl rfl rfl rfl ?_
  obtain ⟨v144, e145, h⟩ := xbnd h
  refine xs_gr (i := 439) (c := 15) (k := 29) (by decide +kernel) (by decide) (by decide +kernel) e145 rfl ?_
  obtain ⟨v146, e147, h⟩ := xbnd h
  refine xs_gi (i := 166) (c := 14) (k := 8) (by decide +kernel) (by decide) (by decide +kernel) e147 rfl ?_
  refine xe_icmpge (off := 155) (t := 165) (by decide +kernel) (by decide) rfl hx3 (xq_gi_in e147) (fun c148 => ?_) (fun c148 => ?_)
  · rw [if_pos c148] at h
    cases h
    exact xe_ret_v (by decide +kernel) rfl ⟨rfl, rfl⟩
  · rw [if_neg c148] at h
    refine xe_alr (ins := .aload_n 0) (len := 1) (i := 0) (by decide +kernel) rfl rfl rfl rfl rfl ?_
    obtain ⟨v149, e150, h⟩ := xbnd h
    refine xs_gr (i := 439) (c := 15) (k := 29) (by decide +kernel) (by decide) (by decide +kernel) e150 rfl ?_
    obtain ⟨v151, e152, h⟩ := xbnd h
    refine xs_gr (i := 187) (c := 14) (k := 5) (by decide +kernel) (by decide) (by decide +kernel) e152 rfl ?_
    refine xe_ldn (ins := .iload_n 3) (len := 1) (by decide +kernel) rfl rfl rfl rfl ?_
    obtain ⟨v153, e154, h⟩ := xbnd h
    refine xs_bald (by decide +kernel) hx3 e154 rfl ?_
    refine xe_ifeq (off := 6) (t := 28) (by decide +kernel) (by decide) rfl (xq_ab_in e154) (fun c155 => ?_) (fun c155 => ?_)
    · rw [if_pos c155] at h
      refine xe_ldn (ins := .iload_n 2) (len := 1) (by decide +kernel) rfl rfl rfl rfl ?_
      refine xe_isr (ins := .istore 4) (len := 2) (i := 4) (by decide +kernel) rfl rfl rfl (by decide) (xk_k (show ¬ (0 : Nat) = 4 by decide) (Or.inl (show ¬ (0 + 1 : Nat) = 4 by decide)) (xk_k (show ¬ (1 : Nat) = 4 by decide) (Or.inl (show ¬ (1 + 1 : Nat) = 4 by decide)) (xk_k (show ¬ (2 : Nat) = 4 by decide) (Or.inl (show ¬ (2 + 1 : Nat) = 4 by decide)) (xk_k (show ¬ (3 : Nat) = 4 by decide) (Or.inr (xI_cat _)) xk_n)))) rfl ?_
      refine xe_iconst (n := 0) (by decide +kernel) rfl ?_
      refine xe_isr (ins := .istore 5) (len := 2) (i := 5) (by decide +kernel) rfl rfl rfl (by decide) (xk_k (show ¬ (4 : Nat) = 5 by decide) (Or.inr (xI_cat _)) (xk_k (show ¬ (0 : Nat) = 5 by decide) (Or.inl (show ¬ (0 + 1 : Nat) = 5 by decide)) (xk_k (show ¬ (1 : Nat) = 5 by decide) (Or.inl (show ¬ (1 + 1 : Nat) = 5 by decide)) (xk_k (show ¬ (2 : Nat) = 5 by decide) (Or.inl (show ¬ (2 + 1 : Nat) = 5 by decide)) (xk_k (show ¬ (3 : Nat) = 5 by decide) (Or.inl (show ¬ (3 + 1 : Nat) = 5 by decide)) xk_n))))) rfl ?_
      refine xW_lv rfl (l := [(0, xR_ (x0)), (1, xR_ (x1)), (2, xI (x2)), (3, xI (x3)), (4, xI (x2)), (5, xI (0))]) (xsb_of ⟨rfl, rfl, rfl, rfl, rfl, rfl, trivial⟩ (show [5, 4, 0, 1, 2, 3].Nodup by decide)) ?_
      exact k305_34  hr2 hx2 hx3 hx2 (show xin (0) by decide) h
    · rw [if_neg c155] at h
      refine xe_goto (off := 134) (nx := 159) (by decide +kernel) (by decide) ?_
      refine xW_lv rfl (l := [(0, xR_ (x0)), (1, xR_ (x1)), (2, xI (x2)), (3, xI (x3))]) (xsb_of ⟨rfl, rfl, rfl, rfl, trivial⟩ (show [0, 1, 2, 3].Nodup by decide)) ?_
      exact k305_159  hr2 hx2 hx3 h
def f305_2   (f : Nat) : Nat → Nat → Nat → Int → Int → xj_M → Option (xj_M)
  | 0, _, _, _, _, _ => none
  | n + 1, x0, x1, x2, x3, M => f305_2b   (f305_2   f n) f x0 x1 x2 x3 M
theorem k305_2 {d f : Nat}     : ∀ {n : Nat} {x0 : Nat} {x1 : Nat} {x2 : Int} {x3 : Int} {M : xj_M} {R : xj_M}, xin x2 → xin x3 → f305_2   f n x0 x1 x2 x3 M = some R → xW (d + 0) (none, d + 0, none) xr_305 (2, [(0, xR_ x0), (1, xR_ x1), (2, xI x2), (3, xI x3)], [], M) (xQv R) := by
  intro n
  induction n with
  | zero => intros; rename_i h; cases h
  | succ n ih => intros; rename_i h; exact k305_2b   ih (by assumption) (by assumption) h
def f305  (f : Nat) (a0 : Nat) (a1 : Nat) (a2 : Int) (M : xj_M) : Option (xj_M) := f305_2   f f (a0) (a1) (a2) (0) M
theorem k305 {d f : Nat}   {a0 : Nat} {a1 : Nat} {a2 : Int} {M : xj_M} {R : xj_M} (ha2 : xin a2) (h : f305  f a0 a1 a2 M = some R) : xT (d + 1) 305 [xR_ a0, xR_ a1, xI a2] M (xQv R) := by
  refine xT_m xr_305_e (X := (none, d + 0, none)) rfl (xa_1 (xR_cat _) (xa_1 (xR_cat _) (xa_1 (xI_cat _) xa_n))) (by decide) ?_
  unfold f305 at h
  refine xe_iconst (n := 0) (by decide +kernel) rfl ?_
  refine xe_isr (ins := .istore_n 3) (len := 1) (i := 3) (by decide +kernel) rfl rfl rfl (by decide) (xk_k (show ¬ (0 : Nat) = 3 by decide) (Or.inl (show ¬ (0 + 1 : Nat) = 3 by decide)) (xk_k (show ¬ (1 : Nat) = 3 by decide) (Or.inl (show ¬ (1 + 1 : Nat) = 3 by decide)) (xk_k (show ¬ (2 : Nat) = 3 by decide) (Or.inr (xI_cat _)) xk_n))) rfl ?_
  refine xW_lv rfl (l := [(0, xR_ (a0)), (1, xR_ (a1)), (2, xI (a2)), (3, xI (0))]) (xsb_of ⟨rfl, rfl, rfl, rfl, trivial⟩ (show [3, 0, 1, 2].Nodup by decide)) ?_
  exact k305_2   ha2 (show xin (0) by decide) h
-- ChangeHouseModel.edit
def xr_307 : xj_mR := (15, yX15_edit, cX15_edit, 7, (Option.none : Option Jvm.ClassFile.FieldType), 5, false, (10, 73), (1, 12))
set_option maxRecDepth 20000 in
theorem xr_307_e : xj_row 307 = some xr_307 := rfl
def f307_41   (f : Nat)  (M : xj_M) : Option (xj_M) := (some M)
theorem k307_41 {d f : Nat}      {M : xj_M} {R : xj_M}  (h : f307_41   f  M = some R) : xW (d + 0) (none, d + 0, none) xr_307 (41, [], [], M) (xQv R) := by
  unfold f307_41 at h
  cases h
  exact xe_ret_v (by decide +kernel) rfl ⟨rfl, rfl⟩
def f307_65b  (r65 : Nat → Nat → Int → Int → xj_M → Option (xj_M)) (f : Nat) (x1 : Nat) (x4 : Nat) (x5 : Int) (x6 : Int) (M : xj_M) : Option (xj_M) := (if (4) ≤ (x6) then ((xq_gi 13 27 (x1) M).bind fun v102 => ((xq_pi 13 27 (x1) (xwr ((v102) + (1))) M).bind fun M104 => (some M104))) else ((xq_gr 13 26 (x1) M).bind fun v106 => ((xq_gi 13 27 (x1) M).bind fun v108 => ((xq_gr 12 1 (x4) M).bind fun v110 => ((xq_al (v110) (xwr ((xwr ((4) * (x5))) + (x6))) M).bind fun v112 => ((xq_sl (v106) (xwr ((xwr ((4) * (v108))) + (x6))) (v112) M).bind fun M114 => r65 (x1) (x4) (x5) (xwr ((x6) + (1))) M114))))))
theorem k307_65b {d f : Nat}  {r65 : Nat → Nat → Int → Int → xj_M → Option (xj_M)}  (hr65 : ∀ {x1 : Nat} {x4 : Nat} {x5 : Int} {x6 : Int} {M : xj_M} {R : xj_M}, xin x5 → xin x6 → r65 x1 x4 x5 x6 M = some R → xW (d + 0) (none, d + 0, none) xr_307 (65, [(1, xR_ x1), (4, xR_ x4), (5, xI x5), (6, xI x6)], [], M) (xQv R)) {x1 : Nat} {x4 : Nat} {x5 : Int} {x6 : Int} {M : xj_M} {R : xj_M} (hx5 : xin x5) (hx6 : xin x6) (h : f307_65b  r65 f x1 x4 x5 x6 M = some R) : xW (d + 0) (none, d + 0, none) xr_307 (65, [(1, xR_ x1), (4, xR_ x4), (5, xI x5), (6, xI x6)], [], M) (xQv R) := by
  unfold f307_65b at h
  refine xe_ldn (ins := .iload 6) (len := 2) (by decide +kernel) rfl rfl rfl rfl ?_
  refine xe_iconst (n := 4) (by decide +kernel) rfl ?_
  refine xe_icmpge (off := 36) (t := 104) (by decide +kernel) (by decide) rfl hx6 (show xin (4) by decide) (fun c101 => ?_) (fun c101 => ?_)
  · rw [if_pos c101] at h
    refine xe_alr (ins := .aload_n 1) (len := 1) (i := 1) (by decide +kernel) rfl rfl rfl rfl rfl ?_
    refine xe_dupr (by decide +kernel) rfl ?_
    obtain ⟨v102, e103, h⟩ := xbnd h
    refine xs_gi (i := 828) (c := 13) (k := 27) (by decide +kernel) (by decide) (by decide +kernel) e103 rfl ?_
    refine xe_iconst (n := 1) (by decide +kernel) rfl ?_
    refine xe_iadd (by decide +kernel) rfl ?_
    obtain ⟨M104, e105, h⟩ := xbnd h
    refine xs_p (i := 828) (c := 13) (k := 27) (by decide +kernel) (by decide +kernel) (by decide +kernel) e105 rfl ?_
    cases h
    exact xe_ret_v (by decide +kernel) rfl ⟨rfl, rfl⟩
  · rw [if_neg c101] at h
    refine xe_alr (ins := .aload_n 1) (len := 1) (i := 1) (by decide +kernel) rfl rfl rfl rfl rfl ?_
    obtain ⟨v106, e107, h⟩ := xbnd h
    refine xs_gr (i := 834) (c := 13) (k := 26) (by decide +kernel) (by decide) (by decide +kernel) e107 rfl ?_
    refine xe_iconst (n := 4) (by decide +kernel) rfl ?_
    refine xe_alr (ins := .aload_n 1) (len := 1) (i := 1) (by decide +kernel) rfl rfl rfl rfl rfl ?_
    obtain ⟨v108, e109, h⟩ := xbnd h
    refine xs_gi (i := 828) (c := 13) (k := 27) (by decide +kernel) (by decide) (by decide +kernel) e109 rfl ?_
    refine xe_imul (by decide +kernel) rfl ?_
    refine xe_ldn (ins := .iload 6) (len := 2) (by decide +kernel) rfl rfl rfl rfl ?_
    refine xe_iadd (by decide +kernel) rfl ?_
    refine xe_alr (ins := .aload 4) (len := 2) (i := 4) (by decide +kernel) rfl rfl rfl rfl rfl ?_
    obtain ⟨v110, e111, h⟩ := xbnd h
    refine xs_gr (i := 696) (c := 12) (k := 1) (by decide +kernel) (by decide) (by decide +kernel) e111 rfl ?_
    refine xe_iconst (n := 4) (by decide +kernel) rfl ?_
    refine xe_ldn (ins := .iload 5) (len := 2) (by decide +kernel) rfl rfl rfl rfl ?_
    refine xe_imul (by decide +kernel) rfl ?_
    refine xe_ldn (ins := .iload 6) (len := 2) (by decide +kernel) rfl rfl rfl rfl ?_
    refine xe_iadd (by decide +kernel) rfl ?_
    obtain ⟨v112, e113, h⟩ := xbnd h
    refine xs_lald (by decide +kernel) (xin_wr _) e113 rfl ?_
    obtain ⟨M114, e115, h⟩ := xbnd h
    refine xs_last (by decide +kernel) (xin_wr _) e115 rfl ?_
    refine xe_iincr (i := 6) (n := 1) (by decide +kernel) (by decide) rfl (xk_k (show ¬ (1 : Nat) = 6 by decide) (Or.inl (show ¬ (1 + 1 : Nat) = 6 by decide)) (xk_k (show ¬ (4 : Nat) = 6 by decide) (Or.inl (show ¬ (4 + 1 : Nat) = 6 by decide)) (xk_k (show ¬ (5 : Nat) = 6 by decide) (Or.inr (xI_cat _)) (xk_d rfl xk_n)))) rfl ?_
    refine xe_goto (off := -36) (nx := 65) (by decide +kernel) (by decide) ?_
    refine xW_lv rfl (l := [(1, xR_ (x1)), (4, xR_ (x4)), (5, xI (x5)), (6, xI (xwr ((x6) + (1))))]) (xsb_of ⟨rfl, rfl, rfl, rfl, trivial⟩ (show [6, 1, 4, 5].Nodup by decide)) ?_
    exact hr65 hx5 (xin_wr _) h
def f307_65   (f : Nat) : Nat → Nat → Nat → Int → Int → xj_M → Option (xj_M)
  | 0, _, _, _, _, _ => none
  | n + 1, x1, x4, x5, x6, M => f307_65b   (f307_65   f n) f x1 x4 x5 x6 M
theorem k307_65 {d f : Nat}     : ∀ {n : Nat} {x1 : Nat} {x4 : Nat} {x5 : Int} {x6 : Int} {M : xj_M} {R : xj_M}, xin x5 → xin x6 → f307_65   f n x1 x4 x5 x6 M = some R → xW (d + 0) (none, d + 0, none) xr_307 (65, [(1, xR_ x1), (4, xR_ x4), (5, xI x5), (6, xI x6)], [], M) (xQv R) := by
  intro n
  induction n with
  | zero => intros; rename_i h; cases h
  | succ n ih => intros; rename_i h; exact k307_65b   ih (by assumption) (by assumption) h
def f307  (f : Nat) (a0 : Nat) (a1 : Nat) (a2 : Int) (a3 : Int) (a4 : Nat) (a5 : Int) (M : xj_M) : Option (xj_M) := ((xq_gr 12 0 (a4) M).bind fun v116 => ((xq_al (v116) (a5) M).bind fun v118 => ((xq_gr 15 29 (a0) M).bind fun v120 => ((xq_gr 14 0 (v120) M).bind fun v122 => ((xq_al (v122) (a2) M).bind fun v124 => (if ¬ (v118) = (v124) then f307_41   f  M else ((xq_gr 12 2 (a4) M).bind fun v127 => ((xq_ai 3 (v127) (a5) M).bind fun v129 => ((xq_gr 15 29 (a0) M).bind fun v131 => ((xq_gr 14 1 (v131) M).bind fun v133 => ((xq_ai 3 (v133) (a2) M).bind fun v135 => (if (v129) = (v135) then ((xq_gr 13 24 (a1) M).bind fun v138 => ((xq_gi 13 27 (a1) M).bind fun v140 => ((xq_si (v138) (v140) (a2) M).bind fun M142 => ((xq_gr 13 25 (a1) M142).bind fun v144 => ((xq_gi 13 27 (a1) M142).bind fun v146 => ((xq_si (v144) (v146) (a3) M142).bind fun M148 => f307_65   f f (a1) (a4) (a5) (0) M148)))))) else f307_41   f  M))))))))))))
theorem k307 {d f : Nat}   {a0 : Nat} {a1 : Nat} {a2 : Int} {a3 : Int} {a4 : Nat} {a5 : Int} {M : xj_M} {R : xj_M} (ha2 : xin a2) (ha3 : xin a3) (ha5 : xin a5) (h : f307  f a0 a1 a2 a3 a4 a5 M = some R) : xT (d + 1) 307 [xR_ a0, xR_ a1, xI a2, xI a3, xR_ a4, xI a5] M (xQv R) := by
  refine xT_m xr_307_e (X := (none, d + 0, none)) rfl (xa_1 (xR_cat _) (xa_1 (xR_cat _) (xa_1 (xI_cat _) (xa_1 (xI_cat _) (xa_1 (xR_cat _) (xa_1 (xI_cat _) xa_n)))))) (by decide) ?_
  unfold f307 at h
  refine xe_alr (ins := .aload 4) (len := 2) (i := 4) (by decide +kernel) rfl rfl rfl rfl rfl ?_
  obtain ⟨v116, e117, h⟩ := xbnd h
  refine xs_gr (i := 694) (c := 12) (k := 0) (by decide +kernel) (by decide) (by decide +kernel) e117 rfl ?_
  refine xe_ldn (ins := .iload 5) (len := 2) (by decide +kernel) rfl rfl rfl rfl ?_
  obtain ⟨v118, e119, h⟩ := xbnd h
  refine xs_lald (by decide +kernel) ha5 e119 rfl ?_
  refine xe_alr (ins := .aload_n 0) (len := 1) (i := 0) (by decide +kernel) rfl rfl rfl rfl rfl ?_
  obtain ⟨v120, e121, h⟩ := xbnd h
  refine xs_gr (i := 439) (c := 15) (k := 29) (by decide +kernel) (by decide) (by decide +kernel) e121 rfl ?_
  obtain ⟨v122, e123, h⟩ := xbnd h
  refine xs_gr (i := 217) (c := 14) (k := 0) (by decide +kernel) (by decide) (by decide +kernel) e123 rfl ?_
  refine xe_ldn (ins := .iload_n 2) (len := 1) (by decide +kernel) rfl rfl rfl rfl ?_
  obtain ⟨v124, e125, h⟩ := xbnd h
  refine xs_lald (by decide +kernel) ha2 e125 rfl ?_
  refine xe_lcmp (by decide +kernel) rfl (xq_al_in e119) (xq_al_in e125) ?_
  refine xe_ifne (off := 23) (t := 41) (by decide +kernel) (by decide) rfl (xin_cmp8 _ _) (fun c126 => ?_) (fun c126 => ?_)
  · have c126 := xcmp8_ne.mp c126; rw [if_pos c126] at h
    refine xW_lv rfl (l := []) (xsb_of trivial (show [0, 1, 2, 3, 4, 5].Nodup by decide)) ?_
    exact k307_41    h
  · have c126 := (not_congr xcmp8_ne).mp c126; rw [if_neg c126] at h
    refine xe_alr (ins := .aload 4) (len := 2) (i := 4) (by decide +kernel) rfl rfl rfl rfl rfl ?_
    obtain ⟨v127, e128, h⟩ := xbnd h
    refine xs_gr (i := 695) (c := 12) (k := 2) (by decide +kernel) (by decide) (by decide +kernel) e128 rfl ?_
    refine xe_ldn (ins := .iload 5) (len := 2) (by decide +kernel) rfl rfl rfl rfl ?_
    obtain ⟨v129, e130, h⟩ := xbnd h
    refine xs_iald rfl (by decide +kernel) ha5 e130 rfl ?_
    refine xe_alr (ins := .aload_n 0) (len := 1) (i := 0) (by decide +kernel) rfl rfl rfl rfl rfl ?_
    obtain ⟨v131, e132, h⟩ := xbnd h
    refine xs_gr (i := 439) (c := 15) (k := 29) (by decide +kernel) (by decide) (by decide +kernel) e132 rfl ?_
    obtain ⟨v133, e134, h⟩ := xbnd h
    refine xs_gr (i := 180) (c := 14) (k := 1) (by decide +kernel) (by decide) (by decide +kernel) e134 rfl ?_
    refine xe_ldn (ins := .iload_n 2) (len := 1) (by decide +kernel) rfl rfl rfl rfl ?_
    obtain ⟨v135, e136, h⟩ := xbnd h
    refine xs_iald rfl (by decide +kernel) ha2 e136 rfl ?_
    refine xe_icmpeq (off := 4) (t := 42) (by decide +kernel) (by decide) rfl (xq_ai_in e130) (xq_ai_in e136) (fun c137 => ?_) (fun c137 => ?_)
    · rw [if_pos c137] at h
      refine xe_alr (ins := .aload_n 1) (len := 1) (i := 1) (by decide +kernel) rfl rfl rfl rfl rfl ?_
      obtain ⟨v138, e139, h⟩ := xbnd h
      refine xs_gr (i := 825) (c := 13) (k := 24) (by decide +kernel) (by decide) (by decide +kernel) e139 rfl ?_
      refine xe_alr (ins := .aload_n 1) (len := 1) (i := 1) (by decide +kernel) rfl rfl rfl rfl rfl ?_
      obtain ⟨v140, e141, h⟩ := xbnd h
      refine xs_gi (i := 828) (c := 13) (k := 27) (by decide +kernel) (by decide) (by decide +kernel) e141 rfl ?_
      refine xe_ldn (ins := .iload_n 2) (len := 1) (by decide +kernel) rfl rfl rfl rfl ?_
      obtain ⟨M142, e143, h⟩ := xbnd h
      refine xs_iast (by decide +kernel) (xq_gi_in e141) e143 rfl ?_
      refine xe_alr (ins := .aload_n 1) (len := 1) (i := 1) (by decide +kernel) rfl rfl rfl rfl rfl ?_
      obtain ⟨v144, e145, h⟩ := xbnd h
      refine xs_gr (i := 831) (c := 13) (k := 25) (by decide +kernel) (by decide) (by decide +kernel) e145 rfl ?_
      refine xe_alr (ins := .aload_n 1) (len := 1) (i := 1) (by decide +kernel) rfl rfl rfl rfl rfl ?_
      obtain ⟨v146, e147, h⟩ := xbnd h
      refine xs_gi (i := 828) (c := 13) (k := 27) (by decide +kernel) (by decide) (by decide +kernel) e147 rfl ?_
      refine xe_ldn (ins := .iload_n 3) (len := 1) (by decide +kernel) rfl rfl rfl rfl ?_
      obtain ⟨M148, e149, h⟩ := xbnd h
      refine xs_iast (by decide +kernel) (xq_gi_in e147) e149 rfl ?_
      refine xe_iconst (n := 0) (by decide +kernel) rfl ?_
      refine xe_isr (ins := .istore 6) (len := 2) (i := 6) (by decide +kernel) rfl rfl rfl (by decide) (xk_k (show ¬ (0 : Nat) = 6 by decide) (Or.inl (show ¬ (0 + 1 : Nat) = 6 by decide)) (xk_k (show ¬ (1 : Nat) = 6 by decide) (Or.inl (show ¬ (1 + 1 : Nat) = 6 by decide)) (xk_k (show ¬ (2 : Nat) = 6 by decide) (Or.inl (show ¬ (2 + 1 : Nat) = 6 by decide)) (xk_k (show ¬ (3 : Nat) = 6 by decide) (Or.inl (show ¬ (3 + 1 : Nat) = 6 by decide)) (xk_k (show ¬ (4 : Nat) = 6 by decide) (Or.inl (show ¬ (4 + 1 : Nat) = 6 by decide)) (xk_k (show ¬ (5 : Nat) = 6 by decide) (Or.inr (xI_cat _)) xk_n)))))) rfl ?_
      refine xW_lv rfl (l := [(1, xR_ (a1)), (4, xR_ (a4)), (5, xI (a5)), (6, xI (0))]) (xsb_of ⟨rfl, rfl, rfl, rfl, trivial⟩ (show [6, 0, 1, 2, 3, 4, 5].Nodup by decide)) ?_
      exact k307_65   ha5 (show xin (0) by decide) h
    · rw [if_neg c137] at h
      refine xW_lv rfl (l := []) (xsb_of trivial (show [0, 1, 2, 3, 4, 5].Nodup by decide)) ?_
      exact k307_41    h
-- ChangeHouseModel.behind
def xr_309 : xj_mR := (15, yX15_behind, cX15_behind, 4, (Option.some Jvm.ClassFile.FieldType.int), 3, false, (10, 173), (1, 12))
set_option maxRecDepth 20000 in
theorem xr_309_e : xj_row 309 = some xr_309 := rfl
def f309_21   (f : Nat) (x1 : Int) (x3 : Int) (M : xj_M) : Option (Int × xj_M) := (some (xwr ((x1) - (x3)), M))
theorem k309_21 {d f : Nat}     {x1 : Int} {x3 : Int} {M : xj_M} {R : Int × xj_M} (hx1 : xin x1) (hx3 : xin x3) (h : f309_21   f x1 x3 M = some R) : xW (d + 0) (none, d + 0, none) xr_309 (21, [(1, xI x1), (3, xI x3)], [], M) (xQi R) := by
  unfold f309_21 at h
  refine xe_ldn (ins := .iload_n 1) (len := 1) (by decide +kernel) rfl rfl rfl rfl ?_
  refine xe_ldn (ins := .iload_n 3) (len := 1) (by decide +kernel) rfl rfl rfl rfl ?_
  refine xe_isub (by decide +kernel) rfl ?_
  cases h
  exact xe_ret_i (ty := .int) (by decide +kernel) rfl rfl ⟨rfl, rfl, (xin_wr _)⟩
def f309_2b  (r2 : Nat → Int → Int → Int → xj_M → Option (Int × xj_M)) (f : Nat) (x0 : Nat) (x1 : Int) (x2 : Int) (x3 : Int) (M : xj_M) : Option (Int × xj_M) := (if (x3) ≤ 0 then f309_21   f (x1) (x3) M else ((xq_ai 3 (x0) (xwr ((x3) - (1))) M).bind fun v102 => (if (v102) ≤ (x2) then f309_21   f (x1) (x3) M else r2 (x0) (x1) (x2) (xwr ((x3) + (-1))) M)))
theorem k309_2b {d f : Nat}  {r2 : Nat → Int → Int → Int → xj_M → Option (Int × xj_M)}  (hr2 : ∀ {x0 : Nat} {x1 : Int} {x2 : Int} {x3 : Int} {M : xj_M} {R : Int × xj_M}, xin x1 → xin x2 → xin x3 → r2 x0 x1 x2 x3 M = some R → xW (d + 0) (none, d + 0, none) xr_309 (2, [(0, xR_ x0), (1, xI x1), (2, xI x2), (3, xI x3)], [], M) (xQi R)) {x0 : Nat} {x1 : Int} {x2 : Int} {x3 : Int} {M : xj_M} {R : Int × xj_M} (hx1 : xin x1) (hx2 : xin x2) (hx3 : xin x3) (h : f309_2b  r2 f x0 x1 x2 x3 M = some R) : xW (d + 0) (none, d + 0, none) xr_309 (2, [(0, xR_ x0), (1, xI x1), (2, xI x2), (3, xI x3)], [], M) (xQi R) := by
  unfold f309_2b at h
  refine xe_ldn (ins := .iload_n 3) (len := 1) (by decide +kernel) rfl rfl rfl rfl ?_
  refine xe_ifle (off := 18) (t := 21) (by decide +kernel) (by decide) rfl hx3 (fun c101 => ?_) (fun c101 => ?_)
  · rw [if_pos c101] at h
    refine xW_lv rfl (l := [(1, xI (x1)), (3, xI (x3))]) (xsb_of ⟨rfl, rfl, trivial⟩ (show [0, 1, 2, 3].Nodup by decide)) ?_
    exact k309_21   hx1 hx3 h
  · rw [if_neg c101] at h
    refine xe_alr (ins := .aload_n 0) (len := 1) (i := 0) (by decide +kernel) rfl rfl rfl rfl rfl ?_
    refine xe_ldn (ins := .iload_n 3) (len := 1) (by decide +kernel) rfl rfl rfl rfl ?_
    refine xe_iconst (n := 1) (by decide +kernel) rfl ?_
    refine xe_isub (by decide +kernel) rfl ?_
    obtain ⟨v102, e103, h⟩ := xbnd h
    refine xs_iald rfl (by decide +kernel) (xin_wr _) e103 rfl ?_
    refine xe_ldn (ins := .iload_n 2) (len := 1) (by decide +kernel) rfl rfl rfl rfl ?_
    refine xe_icmple (off := 9) (t := 21) (by decide +kernel) (by decide) rfl (xq_ai_in e103) hx2 (fun c104 => ?_) (fun c104 => ?_)
    · rw [if_pos c104] at h
      refine xW_lv rfl (l := [(1, xI (x1)), (3, xI (x3))]) (xsb_of ⟨rfl, rfl, trivial⟩ (show [0, 1, 2, 3].Nodup by decide)) ?_
      exact k309_21   hx1 hx3 h
    · rw [if_neg c104] at h
      refine xe_iincr (i := 3) (n := -1) (by decide +kernel) (by decide) rfl (xk_k (show ¬ (0 : Nat) = 3 by decide) (Or.inl (show ¬ (0 + 1 : Nat) = 3 by decide)) (xk_k (show ¬ (1 : Nat) = 3 by decide) (Or.inl (show ¬ (1 + 1 : Nat) = 3 by decide)) (xk_k (show ¬ (2 : Nat) = 3 by decide) (Or.inr (xI_cat _)) (xk_d rfl xk_n)))) rfl ?_
      refine xe_goto (off := -16) (nx := 2) (by decide +kernel) (by decide) ?_
      refine xW_lv rfl (l := [(0, xR_ (x0)), (1, xI (x1)), (2, xI (x2)), (3, xI (xwr ((x3) + (-1))))]) (xsb_of ⟨rfl, rfl, rfl, rfl, trivial⟩ (show [3, 0, 1, 2].Nodup by decide)) ?_
      exact hr2 hx1 hx2 (xin_wr _) h
def f309_2   (f : Nat) : Nat → Nat → Int → Int → Int → xj_M → Option (Int × xj_M)
  | 0, _, _, _, _, _ => none
  | n + 1, x0, x1, x2, x3, M => f309_2b   (f309_2   f n) f x0 x1 x2 x3 M
theorem k309_2 {d f : Nat}     : ∀ {n : Nat} {x0 : Nat} {x1 : Int} {x2 : Int} {x3 : Int} {M : xj_M} {R : Int × xj_M}, xin x1 → xin x2 → xin x3 → f309_2   f n x0 x1 x2 x3 M = some R → xW (d + 0) (none, d + 0, none) xr_309 (2, [(0, xR_ x0), (1, xI x1), (2, xI x2), (3, xI x3)], [], M) (xQi R) := by
  intro n
  induction n with
  | zero => intros; rename_i h; cases h
  | succ n ih => intros; rename_i h; exact k309_2b   ih (by assumption) (by assumption) (by assumption) h
def f309  (f : Nat) (a0 : Nat) (a1 : Int) (a2 : Int) (M : xj_M) : Option (Int × xj_M) := f309_2   f f (a0) (a1) (a2) (a1) M
theorem k309 {d f : Nat}   {a0 : Nat} {a1 : Int} {a2 : Int} {M : xj_M} {R : Int × xj_M} (ha1 : xin a1) (ha2 : xin a2) (h : f309  f a0 a1 a2 M = some R) : xT (d + 1) 309 [xR_ a0, xI a1, xI a2] M (xQi R) := by
  refine xT_m xr_309_e (X := (none, d + 0, none)) rfl (xa_1 (xR_cat _) (xa_1 (xI_cat _) (xa_1 (xI_cat _) xa_n))) (by decide) ?_
  unfold f309 at h
  refine xe_ldn (ins := .iload_n 1) (len := 1) (by decide +kernel) rfl rfl rfl rfl ?_
  refine xe_isr (ins := .istore_n 3) (len := 1) (i := 3) (by decide +kernel) rfl rfl rfl (by decide) (xk_k (show ¬ (0 : Nat) = 3 by decide) (Or.inl (show ¬ (0 + 1 : Nat) = 3 by decide)) (xk_k (show ¬ (1 : Nat) = 3 by decide) (Or.inl (show ¬ (1 + 1 : Nat) = 3 by decide)) (xk_k (show ¬ (2 : Nat) = 3 by decide) (Or.inr (xI_cat _)) xk_n))) rfl ?_
  refine xW_lv rfl (l := [(0, xR_ (a0)), (1, xI (a1)), (2, xI (a2)), (3, xI (a1))]) (xsb_of ⟨rfl, rfl, rfl, rfl, trivial⟩ (show [3, 0, 1, 2].Nodup by decide)) ?_
  exact k309_2   ha1 ha2 ha1 h
-- ChangeHouseModel.isPast
def xr_310 : xj_mR := (15, yX15_isPast, cX15_isPast, 3, (Option.some Jvm.ClassFile.FieldType.boolean), 2, false, (10, 181), (1, 12))
set_option maxRecDepth 20000 in
theorem xr_310_e : xj_row 310 = some xr_310 := rfl
def f310_21   (f : Nat) (y0 : Int) (M : xj_M) : Option (Int × xj_M) := (if (y0) = 0 ∨ (y0) = 1 then some (y0, M) else none)
theorem k310_21 {d f : Nat}     {y0 : Int} {M : xj_M} {R : Int × xj_M} (hy0 : xin y0) (h : f310_21   f y0 M = some R) : xW (d + 0) (none, d + 0, none) xr_310 (21, [], [xI y0], M) (xQi R) := by
  unfold f310_21 at h
  by_cases c101 : (y0) = 0 ∨ (y0) = 1
  · rw [if_pos c101] at h; cases h; exact xe_ret_i (ty := .boolean) (by decide +kernel) rfl (xbool c101) ⟨rfl, rfl, hy0⟩
  · rw [if_neg c101] at h; cases h
def f310_20   (f : Nat)  (M : xj_M) : Option (Int × xj_M) := f310_21   f (0) M
theorem k310_20 {d f : Nat}      {M : xj_M} {R : Int × xj_M}  (h : f310_20   f  M = some R) : xW (d + 0) (none, d + 0, none) xr_310 (20, [], [], M) (xQi R) := by
  unfold f310_20 at h
  refine xe_iconst (n := 0) (by decide +kernel) rfl ?_
  refine xW_lv rfl (l := []) (xsb_of trivial (show [].Nodup by decide)) ?_
  exact k310_21   (show xin (0) by decide) h
def f310  (f : Nat) (a0 : Nat) (a1 : Nat) (a2 : Int) (M : xj_M) : Option (Int × xj_M) := ((xq_gi 13 3 (a1) M).bind fun v102 => (if (a2) < (v102) then f310_20   f  M else ((xq_gi 13 2 (a1) M).bind fun v105 => (if (v105) < (a2) then f310_20   f  M else f310_21   f (1) M))))
theorem k310 {d f : Nat}   {a0 : Nat} {a1 : Nat} {a2 : Int} {M : xj_M} {R : Int × xj_M} (ha2 : xin a2) (h : f310  f a0 a1 a2 M = some R) : xT (d + 1) 310 [xR_ a0, xR_ a1, xI a2] M (xQi R) := by
  refine xT_m xr_310_e (X := (none, d + 0, none)) rfl (xa_1 (xR_cat _) (xa_1 (xR_cat _) (xa_1 (xI_cat _) xa_n))) (by decide) ?_
  unfold f310 at h
  refine xe_ldn (ins := .iload_n 2) (len := 1) (by decide +kernel) rfl rfl rfl rfl ?_
  refine xe_alr (ins := .aload_n 1) (len := 1) (i := 1) (by decide +kernel) rfl rfl rfl rfl rfl ?_
  obtain ⟨v102, e103, h⟩ := xbnd h
  refine xs_gi (i := 837) (c := 13) (k := 3) (by decide +kernel) (by decide) (by decide +kernel) e103 rfl ?_
  refine xe_icmplt (off := 15) (t := 20) (by decide +kernel) (by decide) rfl ha2 (xq_gi_in e103) (fun c104 => ?_) (fun c104 => ?_)
  · rw [if_pos c104] at h
    refine xW_lv rfl (l := []) (xsb_of trivial (show [0, 1, 2].Nodup by decide)) ?_
    exact k310_20    h
  · rw [if_neg c104] at h
    refine xe_ldn (ins := .iload_n 2) (len := 1) (by decide +kernel) rfl rfl rfl rfl ?_
    refine xe_alr (ins := .aload_n 1) (len := 1) (i := 1) (by decide +kernel) rfl rfl rfl rfl rfl ?_
    obtain ⟨v105, e106, h⟩ := xbnd h
    refine xs_gi (i := 740) (c := 13) (k := 2) (by decide +kernel) (by decide) (by decide +kernel) e106 rfl ?_
    refine xe_icmpgt (off := 7) (t := 20) (by decide +kernel) (by decide) rfl ha2 (xq_gi_in e106) (fun c107 => ?_) (fun c107 => ?_)
    · rw [if_pos c107] at h
      refine xW_lv rfl (l := []) (xsb_of trivial (show [0, 1, 2].Nodup by decide)) ?_
      exact k310_20    h
    · rw [if_neg c107] at h
      refine xe_iconst (n := 1) (by decide +kernel) rfl ?_
      refine xe_goto (off := 4) (nx := 21) (by decide +kernel) (by decide) ?_
      refine xW_lv rfl (l := []) (xsb_of trivial (show [0, 1, 2].Nodup by decide)) ?_
      exact k310_21   (show xin (1) by decide) h
-- ChangeHouseModel.loseForks
def xr_313 : xj_mR := (15, yX15_loseForks, cX15_loseForks, 4, (Option.none : Option Jvm.ClassFile.FieldType), 2, false, (10, 197), (1, 12))
set_option maxRecDepth 20000 in
theorem xr_313_e : xj_row 313 = some xr_313 := rfl
def f313_43  (r2 : Nat → Int → Int → Int → xj_M → Option (xj_M)) (f : Nat) (x0 : Nat) (x1 : Int) (x2 : Int) (x3 : Int) (M : xj_M) : Option (xj_M) := r2 (x0) (x1) (x2) (xwr ((x3) + (1))) M
theorem k313_43 {d f : Nat}  {r2 : Nat → Int → Int → Int → xj_M → Option (xj_M)}  (hr2 : ∀ {x0 : Nat} {x1 : Int} {x2 : Int} {x3 : Int} {M : xj_M} {R : xj_M}, xin x1 → xin x2 → xin x3 → r2 x0 x1 x2 x3 M = some R → xW (d + 0) (none, d + 0, none) xr_313 (2, [(0, xR_ x0), (1, xI x1), (2, xI x2), (3, xI x3)], [], M) (xQv R)) {x0 : Nat} {x1 : Int} {x2 : Int} {x3 : Int} {M : xj_M} {R : xj_M} (hx1 : xin x1) (hx2 : xin x2) (hx3 : xin x3) (h : f313_43  r2 f x0 x1 x2 x3 M = some R) : xW (d + 0) (none, d + 0, none) xr_313 (43, [(0, xR_ x0), (1, xI x1), (2, xI x2), (3, xI x3)], [], M) (xQv R) := by
  unfold f313_43 at h
  refine xe_iincr (i := 3) (n := 1) (by decide +kernel) (by decide) rfl (xk_k (show ¬ (0 : Nat) = 3 by decide) (Or.inl (show ¬ (0 + 1 : Nat) = 3 by decide)) (xk_k (show ¬ (1 : Nat) = 3 by decide) (Or.inl (show ¬ (1 + 1 : Nat) = 3 by decide)) (xk_k (show ¬ (2 : Nat) = 3 by decide) (Or.inr (xI_cat _)) (xk_d rfl xk_n)))) rfl ?_
  refine xe_goto (off := -44) (nx := 2) (by decide +kernel) (by decide) ?_
  refine xW_lv rfl (l := [(0, xR_ (x0)), (1, xI (x1)), (2, xI (x2)), (3, xI (xwr ((x3) + (1))))]) (xsb_of ⟨rfl, rfl, rfl, rfl, trivial⟩ (show [3, 0, 1, 2].Nodup by decide)) ?_
  exact hr2 hx1 hx2 (xin_wr _) h
def f313_2b  (r2 : Nat → Int → Int → Int → xj_M → Option (xj_M)) (f : Nat) (x0 : Nat) (x1 : Int) (x2 : Int) (x3 : Int) (M : xj_M) : Option (xj_M) := (if (4) ≤ (x3) then (some M) else ((xq_gr 15 61 (x0) M).bind fun v102 => ((xq_ar (v102) (x3) M).bind fun v104 => ((xq_gi 13 35 (v104) M).bind fun v106 => (if ¬ (v106) = (x1) then f313_43  r2 f (x0) (x1) (x2) (x3) M else ((xq_gr 15 61 (x0) M).bind fun v109 => ((xq_ar (v109) (x3) M).bind fun v111 => ((xq_gi 13 36 (v111) M).bind fun v113 => (if (v113) ≤ (x2) then f313_43  r2 f (x0) (x1) (x2) (x3) M else ((xq_gr 15 61 (x0) M).bind fun v116 => ((xq_ar (v116) (x3) M).bind fun v118 => ((xq_pi 13 35 (v118) (-1) M).bind fun M120 => f313_43  r2 f (x0) (x1) (x2) (x3) M120))))))))))))
theorem k313_2b {d f : Nat}  {r2 : Nat → Int → Int → Int → xj_M → Option (xj_M)}  (hr2 : ∀ {x0 : Nat} {x1 : Int} {x2 : Int} {x3 : Int} {M : xj_M} {R : xj_M}, xin x1 → xin x2 → xin x3 → r2 x0 x1 x2 x3 M = some R → xW (d + 0) (none, d + 0, none) xr_313 (2, [(0, xR_ x0), (1, xI x1), (2, xI x2), (3, xI x3)], [], M) (xQv R)) {x0 : Nat} {x1 : Int} {x2 : Int} {x3 : Int} {M : xj_M} {R : xj_M} (hx1 : xin x1) (hx2 : xin x2) (hx3 : xin x3) (h : f313_2b  r2 f x0 x1 x2 x3 M = some R) : xW (d + 0) (none, d + 0, none) xr_313 (2, [(0, xR_ x0), (1, xI x1), (2, xI x2), (3, xI x3)], [], M) (xQv R) := by
  unfold f313_2b at h
  refine xe_ldn (ins := .iload_n 3) (len := 1) (by decide +kernel) rfl rfl rfl rfl ?_
  refine xe_iconst (n := 4) (by decide +kernel) rfl ?_
  refine xe_icmpge (off := 45) (t := 49) (by decide +kernel) (by decide) rfl hx3 (show xin (4) by decide) (fun c101 => ?_) (fun c101 => ?_)
  · rw [if_pos c101] at h
    cases h
    exact xe_ret_v (by decide +kernel) rfl ⟨rfl, rfl⟩
  · rw [if_neg c101] at h
    refine xe_alr (ins := .aload_n 0) (len := 1) (i := 0) (by decide +kernel) rfl rfl rfl rfl rfl ?_
    obtain ⟨v102, e103, h⟩ := xbnd h
    refine xs_gr (i := 667) (c := 15) (k := 61) (by decide +kernel) (by decide) (by decide +kernel) e103 rfl ?_
    refine xe_ldn (ins := .iload_n 3) (len := 1) (by decide +kernel) rfl rfl rfl rfl ?_
    obtain ⟨v104, e105, h⟩ := xbnd h
    refine xs_aald (by decide +kernel) hx3 e105 rfl ?_
    obtain ⟨v106, e107, h⟩ := xbnd h
    refine xs_gi (i := 868) (c := 13) (k := 35) (by decide +kernel) (by decide) (by decide +kernel) e107 rfl ?_
    refine xe_ldn (ins := .iload_n 1) (len := 1) (by decide +kernel) rfl rfl rfl rfl ?_
    refine xe_icmpne (off := 26) (t := 43) (by decide +kernel) (by decide) rfl (xq_gi_in e107) hx1 (fun c108 => ?_) (fun c108 => ?_)
    · rw [if_pos c108] at h
      refine xW_lv rfl (l := [(0, xR_ (x0)), (1, xI (x1)), (2, xI (x2)), (3, xI (x3))]) (xsb_of ⟨rfl, rfl, rfl, rfl, trivial⟩ (show [0, 1, 2, 3].Nodup by decide)) ?_
      exact k313_43  hr2 hx1 hx2 hx3 h
    · rw [if_neg c108] at h
      refine xe_alr (ins := .aload_n 0) (len := 1) (i := 0) (by decide +kernel) rfl rfl rfl rfl rfl ?_
      obtain ⟨v109, e110, h⟩ := xbnd h
      refine xs_gr (i := 667) (c := 15) (k := 61) (by decide +kernel) (by decide) (by decide +kernel) e110 rfl ?_
      refine xe_ldn (ins := .iload_n 3) (len := 1) (by decide +kernel) rfl rfl rfl rfl ?_
      obtain ⟨v111, e112, h⟩ := xbnd h
      refine xs_aald (by decide +kernel) hx3 e112 rfl ?_
      obtain ⟨v113, e114, h⟩ := xbnd h
      refine xs_gi (i := 871) (c := 13) (k := 36) (by decide +kernel) (by decide) (by decide +kernel) e114 rfl ?_
      refine xe_ldn (ins := .iload_n 2) (len := 1) (by decide +kernel) rfl rfl rfl rfl ?_
      refine xe_icmple (off := 13) (t := 43) (by decide +kernel) (by decide) rfl (xq_gi_in e114) hx2 (fun c115 => ?_) (fun c115 => ?_)
      · rw [if_pos c115] at h
        refine xW_lv rfl (l := [(0, xR_ (x0)), (1, xI (x1)), (2, xI (x2)), (3, xI (x3))]) (xsb_of ⟨rfl, rfl, rfl, rfl, trivial⟩ (show [0, 1, 2, 3].Nodup by decide)) ?_
        exact k313_43  hr2 hx1 hx2 hx3 h
      · rw [if_neg c115] at h
        refine xe_alr (ins := .aload_n 0) (len := 1) (i := 0) (by decide +kernel) rfl rfl rfl rfl rfl ?_
        obtain ⟨v116, e117, h⟩ := xbnd h
        refine xs_gr (i := 667) (c := 15) (k := 61) (by decide +kernel) (by decide) (by decide +kernel) e117 rfl ?_
        refine xe_ldn (ins := .iload_n 3) (len := 1) (by decide +kernel) rfl rfl rfl rfl ?_
        obtain ⟨v118, e119, h⟩ := xbnd h
        refine xs_aald (by decide +kernel) hx3 e119 rfl ?_
        refine xe_iconst (n := -1) (by decide +kernel) rfl ?_
        obtain ⟨M120, e121, h⟩ := xbnd h
        refine xs_p (i := 868) (c := 13) (k := 35) (by decide +kernel) (by decide +kernel) (by decide +kernel) e121 rfl ?_
        refine xW_lv rfl (l := [(0, xR_ (x0)), (1, xI (x1)), (2, xI (x2)), (3, xI (x3))]) (xsb_of ⟨rfl, rfl, rfl, rfl, trivial⟩ (show [0, 1, 2, 3].Nodup by decide)) ?_
        exact k313_43  hr2 hx1 hx2 hx3 h
def f313_2   (f : Nat) : Nat → Nat → Int → Int → Int → xj_M → Option (xj_M)
  | 0, _, _, _, _, _ => none
  | n + 1, x0, x1, x2, x3, M => f313_2b   (f313_2   f n) f x0 x1 x2 x3 M
theorem k313_2 {d f : Nat}     : ∀ {n : Nat} {x0 : Nat} {x1 : Int} {x2 : Int} {x3 : Int} {M : xj_M} {R : xj_M}, xin x1 → xin x2 → xin x3 → f313_2   f n x0 x1 x2 x3 M = some R → xW (d + 0) (none, d + 0, none) xr_313 (2, [(0, xR_ x0), (1, xI x1), (2, xI x2), (3, xI x3)], [], M) (xQv R) := by
  intro n
  induction n with
  | zero => intros; rename_i h; cases h
  | succ n ih => intros; rename_i h; exact k313_2b   ih (by assumption) (by assumption) (by assumption) h
def f313  (f : Nat) (a0 : Nat) (a1 : Int) (a2 : Int) (M : xj_M) : Option (xj_M) := f313_2   f f (a0) (a1) (a2) (0) M
theorem k313 {d f : Nat}   {a0 : Nat} {a1 : Int} {a2 : Int} {M : xj_M} {R : xj_M} (ha1 : xin a1) (ha2 : xin a2) (h : f313  f a0 a1 a2 M = some R) : xT (d + 1) 313 [xR_ a0, xI a1, xI a2] M (xQv R) := by
  refine xT_m xr_313_e (X := (none, d + 0, none)) rfl (xa_1 (xR_cat _) (xa_1 (xI_cat _) (xa_1 (xI_cat _) xa_n))) (by decide) ?_
  unfold f313 at h
  refine xe_iconst (n := 0) (by decide +kernel) rfl ?_
  refine xe_isr (ins := .istore_n 3) (len := 1) (i := 3) (by decide +kernel) rfl rfl rfl (by decide) (xk_k (show ¬ (0 : Nat) = 3 by decide) (Or.inl (show ¬ (0 + 1 : Nat) = 3 by decide)) (xk_k (show ¬ (1 : Nat) = 3 by decide) (Or.inl (show ¬ (1 + 1 : Nat) = 3 by decide)) (xk_k (show ¬ (2 : Nat) = 3 by decide) (Or.inr (xI_cat _)) xk_n))) rfl ?_
  refine xW_lv rfl (l := [(0, xR_ (a0)), (1, xI (a1)), (2, xI (a2)), (3, xI (0))]) (xsb_of ⟨rfl, rfl, rfl, rfl, trivial⟩ (show [3, 0, 1, 2].Nodup by decide)) ?_
  exact k313_2   ha1 ha2 (show xin (0) by decide) h
-- ChangeHouseModel.copyLine
def xr_316 : xj_mR := (15, yX15_copyLine, cX15_copyLine, 4, (Option.none : Option Jvm.ClassFile.FieldType), 2, false, (10, 208), (1, 12))
set_option maxRecDepth 20000 in
theorem xr_316_e : xj_row 316 = some xr_316 := rfl
def f316_127b  (r69 : Nat → Nat → Int → xj_M → Option (xj_M)) (r127 : Nat → Nat → Int → Int → xj_M → Option (xj_M)) (f : Nat) (x0 : Nat) (x1 : Nat) (x2 : Int) (x3 : Int) (M : xj_M) : Option (xj_M) := (if (4) ≤ (x3) then r69 (x0) (x1) (xwr ((x2) + (1))) M else ((xq_gr 13 9 (x1) M).bind fun v102 => ((xq_gr 13 9 (x0) M).bind fun v104 => ((xq_al (v104) (xwr ((xwr ((4) * (x2))) + (x3))) M).bind fun v106 => ((xq_sl (v102) (xwr ((xwr ((4) * (x2))) + (x3))) (v106) M).bind fun M108 => r127 (x0) (x1) (x2) (xwr ((x3) + (1))) M108)))))
theorem k316_127b {d f : Nat}  {r69 : Nat → Nat → Int → xj_M → Option (xj_M)} {r127 : Nat → Nat → Int → Int → xj_M → Option (xj_M)}  (hr69 : ∀ {x0 : Nat} {x1 : Nat} {x2 : Int} {M : xj_M} {R : xj_M}, xin x2 → r69 x0 x1 x2 M = some R → xW (d + 1) (none, d + 1, none) xr_316 (69, [(0, xR_ x0), (1, xR_ x1), (2, xI x2)], [], M) (xQv R)) (hr127 : ∀ {x0 : Nat} {x1 : Nat} {x2 : Int} {x3 : Int} {M : xj_M} {R : xj_M}, xin x2 → xin x3 → r127 x0 x1 x2 x3 M = some R → xW (d + 1) (none, d + 1, none) xr_316 (127, [(0, xR_ x0), (1, xR_ x1), (2, xI x2), (3, xI x3)], [], M) (xQv R)) {x0 : Nat} {x1 : Nat} {x2 : Int} {x3 : Int} {M : xj_M} {R : xj_M} (hx2 : xin x2) (hx3 : xin x3) (h : f316_127b  r69 r127 f x0 x1 x2 x3 M = some R) : xW (d + 1) (none, d + 1, none) xr_316 (127, [(0, xR_ x0), (1, xR_ x1), (2, xI x2), (3, xI x3)], [], M) (xQv R) := by
  unfold f316_127b at h
  refine xe_ldn (ins := .iload_n 3) (len := 1) (by decide +kernel) rfl rfl rfl rfl ?_
  refine xe_iconst (n := 4) (by decide +kernel) rfl ?_
  refine xe_icmpge (off := 29) (t := 158) (by decide +kernel) (by decide) rfl hx3 (show xin (4) by decide) (fun c101 => ?_) (fun c101 => ?_)
  · rw [if_pos c101] at h
    refine xe_iincr (i := 2) (n := 1) (by decide +kernel) (by decide) rfl (xk_k (show ¬ (0 : Nat) = 2 by decide) (Or.inl (show ¬ (0 + 1 : Nat) = 2 by decide)) (xk_k (show ¬ (1 : Nat) = 2 by decide) (Or.inr (xR_cat _)) (xk_d rfl (xk_k (show ¬ (3 : Nat) = 2 by decide) (Or.inl (show ¬ (3 + 1 : Nat) = 2 by decide)) xk_n)))) rfl ?_
    refine xe_goto (off := -92) (nx := 69) (by decide +kernel) (by decide) ?_
    refine xW_lv rfl (l := [(0, xR_ (x0)), (1, xR_ (x1)), (2, xI (xwr ((x2) + (1))))]) (xsb_of ⟨rfl, rfl, rfl, trivial⟩ (show [2, 0, 1, 3].Nodup by decide)) ?_
    exact hr69 (xin_wr _) h
  · rw [if_neg c101] at h
    refine xe_alr (ins := .aload_n 1) (len := 1) (i := 1) (by decide +kernel) rfl rfl rfl rfl rfl ?_
    obtain ⟨v102, e103, h⟩ := xbnd h
    refine xs_gr (i := 803) (c := 13) (k := 9) (by decide +kernel) (by decide) (by decide +kernel) e103 rfl ?_
    refine xe_iconst (n := 4) (by decide +kernel) rfl ?_
    refine xe_ldn (ins := .iload_n 2) (len := 1) (by decide +kernel) rfl rfl rfl rfl ?_
    refine xe_imul (by decide +kernel) rfl ?_
    refine xe_ldn (ins := .iload_n 3) (len := 1) (by decide +kernel) rfl rfl rfl rfl ?_
    refine xe_iadd (by decide +kernel) rfl ?_
    refine xe_alr (ins := .aload_n 0) (len := 1) (i := 0) (by decide +kernel) rfl rfl rfl rfl rfl ?_
    obtain ⟨v104, e105, h⟩ := xbnd h
    refine xs_gr (i := 803) (c := 13) (k := 9) (by decide +kernel) (by decide) (by decide +kernel) e105 rfl ?_
    refine xe_iconst (n := 4) (by decide +kernel) rfl ?_
    refine xe_ldn (ins := .iload_n 2) (len := 1) (by decide +kernel) rfl rfl rfl rfl ?_
    refine xe_imul (by decide +kernel) rfl ?_
    refine xe_ldn (ins := .iload_n 3) (len := 1) (by decide +kernel) rfl rfl rfl rfl ?_
    refine xe_iadd (by decide +kernel) rfl ?_
    obtain ⟨v106, e107, h⟩ := xbnd h
    refine xs_lald (by decide +kernel) (xin_wr _) e107 rfl ?_
    obtain ⟨M108, e109, h⟩ := xbnd h
    refine xs_last (by decide +kernel) (xin_wr _) e109 rfl ?_
    refine xe_iincr (i := 3) (n := 1) (by decide +kernel) (by decide) rfl (xk_k (show ¬ (0 : Nat) = 3 by decide) (Or.inl (show ¬ (0 + 1 : Nat) = 3 by decide)) (xk_k (show ¬ (1 : Nat) = 3 by decide) (Or.inl (show ¬ (1 + 1 : Nat) = 3 by decide)) (xk_k (show ¬ (2 : Nat) = 3 by decide) (Or.inr (xI_cat _)) (xk_d rfl xk_n)))) rfl ?_
    refine xe_goto (off := -28) (nx := 127) (by decide +kernel) (by decide) ?_
    refine xW_lv rfl (l := [(0, xR_ (x0)), (1, xR_ (x1)), (2, xI (x2)), (3, xI (xwr ((x3) + (1))))]) (xsb_of ⟨rfl, rfl, rfl, rfl, trivial⟩ (show [3, 0, 1, 2].Nodup by decide)) ?_
    exact hr127 hx2 (xin_wr _) h
def f316_127  (r69 : Nat → Nat → Int → xj_M → Option (xj_M)) (f : Nat) : Nat → Nat → Nat → Int → Int → xj_M → Option (xj_M)
  | 0, _, _, _, _, _ => none
  | n + 1, x0, x1, x2, x3, M => f316_127b  r69 (f316_127  r69 f n) f x0 x1 x2 x3 M
theorem k316_127 {d f : Nat}  {r69 : Nat → Nat → Int → xj_M → Option (xj_M)}  (hr69 : ∀ {x0 : Nat} {x1 : Nat} {x2 : Int} {M : xj_M} {R : xj_M}, xin x2 → r69 x0 x1 x2 M = some R → xW (d + 1) (none, d + 1, none) xr_316 (69, [(0, xR_ x0), (1, xR_ x1), (2, xI x2)], [], M) (xQv R)) : ∀ {n : Nat} {x0 : Nat} {x1 : Nat} {x2 : Int} {x3 : Int} {M : xj_M} {R : xj_M}, xin x2 → xin x3 → f316_127  r69 f n x0 x1 x2 x3 M = some R → xW (d + 1) (none, d + 1, none) xr_316 (127, [(0, xR_ x0), (1, xR_ x1), (2, xI x2), (3, xI x3)], [], M) (xQv R) := by
  intro n
  induction n with
  | zero => intros; rename_i h; cases h
  | succ n ih => intros; rename_i h; exact k316_127b  hr69 ih (by assumption) (by assumption) h
def f316_258b  (r258 : Nat → Nat → Int → xj_M → Option (xj_M)) (f : Nat) (x0 : Nat) (x1 : Nat) (x2 : Int) (M : xj_M) : Option (xj_M) := (if (72) ≤ (x2) then (some M) else ((xq_gr 13 18 (x1) M).bind fun v111 => ((xq_gr 13 18 (x0) M).bind fun v113 => ((xq_ai 3 (v113) (x2) M).bind fun v115 => ((xq_si (v111) (x2) (v115) M).bind fun M117 => r258 (x0) (x1) (xwr ((x2) + (1))) M117)))))
theorem k316_258b {d f : Nat}  {r258 : Nat → Nat → Int → xj_M → Option (xj_M)}  (hr258 : ∀ {x0 : Nat} {x1 : Nat} {x2 : Int} {M : xj_M} {R : xj_M}, xin x2 → r258 x0 x1 x2 M = some R → xW (d + 1) (none, d + 1, none) xr_316 (258, [(0, xR_ x0), (1, xR_ x1), (2, xI x2)], [], M) (xQv R)) {x0 : Nat} {x1 : Nat} {x2 : Int} {M : xj_M} {R : xj_M} (hx2 : xin x2) (h : f316_258b  r258 f x0 x1 x2 M = some R) : xW (d + 1) (none, d + 1, none) xr_316 (258, [(0, xR_ x0), (1, xR_ x1), (2, xI x2)], [], M) (xQv R) := by
  unfold f316_258b at h
  refine xe_ldn (ins := .iload_n 2) (len := 1) (by decide +kernel) rfl rfl rfl rfl ?_
  refine xe_bipush (n := 72) (by decide +kernel) (by decide) rfl ?_
  refine xe_icmpge (off := 21) (t := 282) (by decide +kernel) (by decide) rfl hx2 (show xin (72) by decide) (fun c110 => ?_) (fun c110 => ?_)
  · rw [if_pos c110] at h
    cases h
    exact xe_ret_v (by decide +kernel) rfl ⟨rfl, rfl⟩
  · rw [if_neg c110] at h
    refine xe_alr (ins := .aload_n 1) (len := 1) (i := 1) (by decide +kernel) rfl rfl rfl rfl rfl ?_
    obtain ⟨v111, e112, h⟩ := xbnd h
    refine xs_gr (i := 865) (c := 13) (k := 18) (by decide +kernel) (by decide) (by decide +kernel) e112 rfl ?_
    refine xe_ldn (ins := .iload_n 2) (len := 1) (by decide +kernel) rfl rfl rfl rfl ?_
    refine xe_alr (ins := .aload_n 0) (len := 1) (i := 0) (by decide +kernel) rfl rfl rfl rfl rfl ?_
    obtain ⟨v113, e114, h⟩ := xbnd h
    refine xs_gr (i := 865) (c := 13) (k := 18) (by decide +kernel) (by decide) (by decide +kernel) e114 rfl ?_
    refine xe_ldn (ins := .iload_n 2) (len := 1) (by decide +kernel) rfl rfl rfl rfl ?_
    obtain ⟨v115, e116, h⟩ := xbnd h
    refine xs_iald rfl (by decide +kernel) hx2 e116 rfl ?_
    obtain ⟨M117, e118, h⟩ := xbnd h
    refine xs_iast (by decide +kernel) hx2 e118 rfl ?_
    refine xe_iincr (i := 2) (n := 1) (by decide +kernel) (by decide) rfl (xk_k (show ¬ (0 : Nat) = 2 by decide) (Or.inl (show ¬ (0 + 1 : Nat) = 2 by decide)) (xk_k (show ¬ (1 : Nat) = 2 by decide) (Or.inr (xR_cat _)) (xk_d rfl xk_n))) rfl ?_
    refine xe_goto (off := -21) (nx := 258) (by decide +kernel) (by decide) ?_
    refine xW_lv rfl (l := [(0, xR_ (x0)), (1, xR_ (x1)), (2, xI (xwr ((x2) + (1))))]) (xsb_of ⟨rfl, rfl, rfl, trivial⟩ (show [2, 0, 1].Nodup by decide)) ?_
    exact hr258 (xin_wr _) h
def f316_258   (f : Nat) : Nat → Nat → Nat → Int → xj_M → Option (xj_M)
  | 0, _, _, _, _ => none
  | n + 1, x0, x1, x2, M => f316_258b   (f316_258   f n) f x0 x1 x2 M
theorem k316_258 {d f : Nat}     : ∀ {n : Nat} {x0 : Nat} {x1 : Nat} {x2 : Int} {M : xj_M} {R : xj_M}, xin x2 → f316_258   f n x0 x1 x2 M = some R → xW (d + 1) (none, d + 1, none) xr_316 (258, [(0, xR_ x0), (1, xR_ x1), (2, xI x2)], [], M) (xQv R) := by
  intro n
  induction n with
  | zero => intros; rename_i h; cases h
  | succ n ih => intros; rename_i h; exact k316_258b   ih (by assumption) h
def f316_218b  (r218 : Nat → Nat → Int → xj_M → Option (xj_M)) (f : Nat) (x0 : Nat) (x1 : Nat) (x2 : Int) (M : xj_M) : Option (xj_M) := ((xq_gi 13 17 (x0) M).bind fun v119 => (if (v119) ≤ (x2) then f316_258   f f (x0) (x1) (0) M else ((xq_gr 13 14 (x1) M).bind fun v122 => ((xq_gr 13 14 (x0) M).bind fun v124 => ((xq_ai 3 (v124) (x2) M).bind fun v126 => ((xq_si (v122) (x2) (v126) M).bind fun M128 => ((xq_gr 13 15 (x1) M128).bind fun v130 => ((xq_gr 13 15 (x0) M128).bind fun v132 => ((xq_ai 3 (v132) (x2) M128).bind fun v134 => ((xq_si (v130) (x2) (v134) M128).bind fun M136 => r218 (x0) (x1) (xwr ((x2) + (1))) M136))))))))))
theorem k316_218b {d f : Nat}  {r218 : Nat → Nat → Int → xj_M → Option (xj_M)}  (hr218 : ∀ {x0 : Nat} {x1 : Nat} {x2 : Int} {M : xj_M} {R : xj_M}, xin x2 → r218 x0 x1 x2 M = some R → xW (d + 1) (none, d + 1, none) xr_316 (218, [(0, xR_ x0), (1, xR_ x1), (2, xI x2)], [], M) (xQv R)) {x0 : Nat} {x1 : Nat} {x2 : Int} {M : xj_M} {R : xj_M} (hx2 : xin x2) (h : f316_218b  r218 f x0 x1 x2 M = some R) : xW (d + 1) (none, d + 1, none) xr_316 (218, [(0, xR_ x0), (1, xR_ x1), (2, xI x2)], [], M) (xQv R) := by
  unfold f316_218b at h
  refine xe_ldn (ins := .iload_n 2) (len := 1) (by decide +kernel) rfl rfl rfl rfl ?_
  refine xe_alr (ins := .aload_n 0) (len := 1) (i := 0) (by decide +kernel) rfl rfl rfl rfl rfl ?_
  obtain ⟨v119, e120, h⟩ := xbnd h
  refine xs_gi (i := 737) (c := 13) (k := 17) (by decide +kernel) (by decide) (by decide +kernel) e120 rfl ?_
  refine xe_icmpge (off := 33) (t := 256) (by decide +kernel) (by decide) rfl hx2 (xq_gi_in e120) (fun c121 => ?_) (fun c121 => ?_)
  · rw [if_pos c121] at h
    refine xe_iconst (n := 0) (by decide +kernel) rfl ?_
    refine xe_isr (ins := .istore_n 2) (len := 1) (i := 2) (by decide +kernel) rfl rfl rfl (by decide) (xk_k (show ¬ (0 : Nat) = 2 by decide) (Or.inl (show ¬ (0 + 1 : Nat) = 2 by decide)) (xk_k (show ¬ (1 : Nat) = 2 by decide) (Or.inr (xR_cat _)) (xk_d rfl xk_n))) rfl ?_
    refine xW_lv rfl (l := [(0, xR_ (x0)), (1, xR_ (x1)), (2, xI (0))]) (xsb_of ⟨rfl, rfl, rfl, trivial⟩ (show [2, 0, 1].Nodup by decide)) ?_
    exact k316_258   (show xin (0) by decide) h
  · rw [if_neg c121] at h
    refine xe_alr (ins := .aload_n 1) (len := 1) (i := 1) (by decide +kernel) rfl rfl rfl rfl rfl ?_
    obtain ⟨v122, e123, h⟩ := xbnd h
    refine xs_gr (i := 734) (c := 13) (k := 14) (by decide +kernel) (by decide) (by decide +kernel) e123 rfl ?_
    refine xe_ldn (ins := .iload_n 2) (len := 1) (by decide +kernel) rfl rfl rfl rfl ?_
    refine xe_alr (ins := .aload_n 0) (len := 1) (i := 0) (by decide +kernel) rfl rfl rfl rfl rfl ?_
    obtain ⟨v124, e125, h⟩ := xbnd h
    refine xs_gr (i := 734) (c := 13) (k := 14) (by decide +kernel) (by decide) (by decide +kernel) e125 rfl ?_
    refine xe_ldn (ins := .iload_n 2) (len := 1) (by decide +kernel) rfl rfl rfl rfl ?_
    obtain ⟨v126, e127, h⟩ := xbnd h
    refine xs_iald rfl (by decide +kernel) hx2 e127 rfl ?_
    obtain ⟨M128, e129, h⟩ := xbnd h
    refine xs_iast (by decide +kernel) hx2 e129 rfl ?_
    refine xe_alr (ins := .aload_n 1) (len := 1) (i := 1) (by decide +kernel) rfl rfl rfl rfl rfl ?_
    obtain ⟨v130, e131, h⟩ := xbnd h
    refine xs_gr (i := 743) (c := 13) (k := 15) (by decide +kernel) (by decide) (by decide +kernel) e131 rfl ?_
    refine xe_ldn (ins := .iload_n 2) (len := 1) (by decide +kernel) rfl rfl rfl rfl ?_
    refine xe_alr (ins := .aload_n 0) (len := 1) (i := 0) (by decide +kernel) rfl rfl rfl rfl rfl ?_
    obtain ⟨v132, e133, h⟩ := xbnd h
    refine xs_gr (i := 743) (c := 13) (k := 15) (by decide +kernel) (by decide) (by decide +kernel) e133 rfl ?_
    refine xe_ldn (ins := .iload_n 2) (len := 1) (by decide +kernel) rfl rfl rfl rfl ?_
    obtain ⟨v134, e135, h⟩ := xbnd h
    refine xs_iald rfl (by decide +kernel) hx2 e135 rfl ?_
    obtain ⟨M136, e137, h⟩ := xbnd h
    refine xs_iast (by decide +kernel) hx2 e137 rfl ?_
    refine xe_iincr (i := 2) (n := 1) (by decide +kernel) (by decide) rfl (xk_k (show ¬ (0 : Nat) = 2 by decide) (Or.inl (show ¬ (0 + 1 : Nat) = 2 by decide)) (xk_k (show ¬ (1 : Nat) = 2 by decide) (Or.inr (xR_cat _)) (xk_d rfl xk_n))) rfl ?_
    refine xe_goto (off := -35) (nx := 218) (by decide +kernel) (by decide) ?_
    refine xW_lv rfl (l := [(0, xR_ (x0)), (1, xR_ (x1)), (2, xI (xwr ((x2) + (1))))]) (xsb_of ⟨rfl, rfl, rfl, trivial⟩ (show [2, 0, 1].Nodup by decide)) ?_
    exact hr218 (xin_wr _) h
def f316_218   (f : Nat) : Nat → Nat → Nat → Int → xj_M → Option (xj_M)
  | 0, _, _, _, _ => none
  | n + 1, x0, x1, x2, M => f316_218b   (f316_218   f n) f x0 x1 x2 M
theorem k316_218 {d f : Nat}     : ∀ {n : Nat} {x0 : Nat} {x1 : Nat} {x2 : Int} {M : xj_M} {R : xj_M}, xin x2 → f316_218   f n x0 x1 x2 M = some R → xW (d + 1) (none, d + 1, none) xr_316 (218, [(0, xR_ x0), (1, xR_ x1), (2, xI x2)], [], M) (xQv R) := by
  intro n
  induction n with
  | zero => intros; rename_i h; cases h
  | succ n ih => intros; rename_i h; exact k316_218b   ih (by assumption) h
def f316_166b  (r166 : Nat → Nat → Int → xj_M → Option (xj_M)) (f : Nat) (x0 : Nat) (x1 : Nat) (x2 : Int) (M : xj_M) : Option (xj_M) := ((xq_gi 13 16 (x0) M).bind fun v138 => (if (v138) ≤ (x2) then f316_218   f f (x0) (x1) (0) M else ((xq_gr 13 11 (x1) M).bind fun v141 => ((xq_gr 13 11 (x0) M).bind fun v143 => ((xq_ai 3 (v143) (x2) M).bind fun v145 => ((xq_si (v141) (x2) (v145) M).bind fun M147 => ((xq_gr 13 12 (x1) M147).bind fun v149 => ((xq_gr 13 12 (x0) M147).bind fun v151 => ((xq_ai 3 (v151) (x2) M147).bind fun v153 => ((xq_si (v149) (x2) (v153) M147).bind fun M155 => ((xq_gr 13 13 (x1) M155).bind fun v157 => ((xq_gr 13 13 (x0) M155).bind fun v159 => ((xq_ai 3 (v159) (x2) M155).bind fun v161 => ((xq_si (v157) (x2) (v161) M155).bind fun M163 => r166 (x0) (x1) (xwr ((x2) + (1))) M163))))))))))))))
theorem k316_166b {d f : Nat}  {r166 : Nat → Nat → Int → xj_M → Option (xj_M)}  (hr166 : ∀ {x0 : Nat} {x1 : Nat} {x2 : Int} {M : xj_M} {R : xj_M}, xin x2 → r166 x0 x1 x2 M = some R → xW (d + 1) (none, d + 1, none) xr_316 (166, [(0, xR_ x0), (1, xR_ x1), (2, xI x2)], [], M) (xQv R)) {x0 : Nat} {x1 : Nat} {x2 : Int} {M : xj_M} {R : xj_M} (hx2 : xin x2) (h : f316_166b  r166 f x0 x1 x2 M = some R) : xW (d + 1) (none, d + 1, none) xr_316 (166, [(0, xR_ x0), (1, xR_ x1), (2, xI x2)], [], M) (xQv R) := by
  unfold f316_166b at h
  refine xe_ldn (ins := .iload_n 2) (len := 1) (by decide +kernel) rfl rfl rfl rfl ?_
  refine xe_alr (ins := .aload_n 0) (len := 1) (i := 0) (by decide +kernel) rfl rfl rfl rfl rfl ?_
  obtain ⟨v138, e139, h⟩ := xbnd h
  refine xs_gi (i := 847) (c := 13) (k := 16) (by decide +kernel) (by decide) (by decide +kernel) e139 rfl ?_
  refine xe_icmpge (off := 45) (t := 216) (by decide +kernel) (by decide) rfl hx2 (xq_gi_in e139) (fun c140 => ?_) (fun c140 => ?_)
  · rw [if_pos c140] at h
    refine xe_iconst (n := 0) (by decide +kernel) rfl ?_
    refine xe_isr (ins := .istore_n 2) (len := 1) (i := 2) (by decide +kernel) rfl rfl rfl (by decide) (xk_k (show ¬ (0 : Nat) = 2 by decide) (Or.inl (show ¬ (0 + 1 : Nat) = 2 by decide)) (xk_k (show ¬ (1 : Nat) = 2 by decide) (Or.inr (xR_cat _)) (xk_d rfl xk_n))) rfl ?_
    refine xW_lv rfl (l := [(0, xR_ (x0)), (1, xR_ (x1)), (2, xI (0))]) (xsb_of ⟨rfl, rfl, rfl, trivial⟩ (show [2, 0, 1].Nodup by decide)) ?_
    exact k316_218   (show xin (0) by decide) h
  · rw [if_neg c140] at h
    refine xe_alr (ins := .aload_n 1) (len := 1) (i := 1) (by decide +kernel) rfl rfl rfl rfl rfl ?_
    obtain ⟨v141, e142, h⟩ := xbnd h
    refine xs_gr (i := 844) (c := 13) (k := 11) (by decide +kernel) (by decide) (by decide +kernel) e142 rfl ?_
    refine xe_ldn (ins := .iload_n 2) (len := 1) (by decide +kernel) rfl rfl rfl rfl ?_
    refine xe_alr (ins := .aload_n 0) (len := 1) (i := 0) (by decide +kernel) rfl rfl rfl rfl rfl ?_
    obtain ⟨v143, e144, h⟩ := xbnd h
    refine xs_gr (i := 844) (c := 13) (k := 11) (by decide +kernel) (by decide) (by decide +kernel) e144 rfl ?_
    refine xe_ldn (ins := .iload_n 2) (len := 1) (by decide +kernel) rfl rfl rfl rfl ?_
    obtain ⟨v145, e146, h⟩ := xbnd h
    refine xs_iald rfl (by decide +kernel) hx2 e146 rfl ?_
    obtain ⟨M147, e148, h⟩ := xbnd h
    refine xs_iast (by decide +kernel) hx2 e148 rfl ?_
    refine xe_alr (ins := .aload_n 1) (len := 1) (i := 1) (by decide +kernel) rfl rfl rfl rfl rfl ?_
    obtain ⟨v149, e150, h⟩ := xbnd h
    refine xs_gr (i := 850) (c := 13) (k := 12) (by decide +kernel) (by decide) (by decide +kernel) e150 rfl ?_
    refine xe_ldn (ins := .iload_n 2) (len := 1) (by decide +kernel) rfl rfl rfl rfl ?_
    refine xe_alr (ins := .aload_n 0) (len := 1) (i := 0) (by decide +kernel) rfl rfl rfl rfl rfl ?_
    obtain ⟨v151, e152, h⟩ := xbnd h
    refine xs_gr (i := 850) (c := 13) (k := 12) (by decide +kernel) (by decide) (by decide +kernel) e152 rfl ?_
    refine xe_ldn (ins := .iload_n 2) (len := 1) (by decide +kernel) rfl rfl rfl rfl ?_
    obtain ⟨v153, e154, h⟩ := xbnd h
    refine xs_iald rfl (by decide +kernel) hx2 e154 rfl ?_
    obtain ⟨M155, e156, h⟩ := xbnd h
    refine xs_iast (by decide +kernel) hx2 e156 rfl ?_
    refine xe_alr (ins := .aload_n 1) (len := 1) (i := 1) (by decide +kernel) rfl rfl rfl rfl rfl ?_
    obtain ⟨v157, e158, h⟩ := xbnd h
    refine xs_gr (i := 853) (c := 13) (k := 13) (by decide +kernel) (by decide) (by decide +kernel) e158 rfl ?_
    refine xe_ldn (ins := .iload_n 2) (len := 1) (by decide +kernel) rfl rfl rfl rfl ?_
    refine xe_alr (ins := .aload_n 0) (len := 1) (i := 0) (by decide +kernel) rfl rfl rfl rfl rfl ?_
    obtain ⟨v159, e160, h⟩ := xbnd h
    refine xs_gr (i := 853) (c := 13) (k := 13) (by decide +kernel) (by decide) (by decide +kernel) e160 rfl ?_
    refine xe_ldn (ins := .iload_n 2) (len := 1) (by decide +kernel) rfl rfl rfl rfl ?_
    obtain ⟨v161, e162, h⟩ := xbnd h
    refine xs_iald rfl (by decide +kernel) hx2 e162 rfl ?_
    obtain ⟨M163, e164, h⟩ := xbnd h
    refine xs_iast (by decide +kernel) hx2 e164 rfl ?_
    refine xe_iincr (i := 2) (n := 1) (by decide +kernel) (by decide) rfl (xk_k (show ¬ (0 : Nat) = 2 by decide) (Or.inl (show ¬ (0 + 1 : Nat) = 2 by decide)) (xk_k (show ¬ (1 : Nat) = 2 by decide) (Or.inr (xR_cat _)) (xk_d rfl xk_n))) rfl ?_
    refine xe_goto (off := -47) (nx := 166) (by decide +kernel) (by decide) ?_
    refine xW_lv rfl (l := [(0, xR_ (x0)), (1, xR_ (x1)), (2, xI (xwr ((x2) + (1))))]) (xsb_of ⟨rfl, rfl, rfl, trivial⟩ (show [2, 0, 1].Nodup by decide)) ?_
    exact hr166 (xin_wr _) h
def f316_166   (f : Nat) : Nat → Nat → Nat → Int → xj_M → Option (xj_M)
  | 0, _, _, _, _ => none
  | n + 1, x0, x1, x2, M => f316_166b   (f316_166   f n) f x0 x1 x2 M
theorem k316_166 {d f : Nat}     : ∀ {n : Nat} {x0 : Nat} {x1 : Nat} {x2 : Int} {M : xj_M} {R : xj_M}, xin x2 → f316_166   f n x0 x1 x2 M = some R → xW (d + 1) (none, d + 1, none) xr_316 (166, [(0, xR_ x0), (1, xR_ x1), (2, xI x2)], [], M) (xQv R) := by
  intro n
  induction n with
  | zero => intros; rename_i h; cases h
  | succ n ih => intros; rename_i h; exact k316_166b   ih (by assumption) h
def f316_69b  (r69 : Nat → Nat → Int → xj_M → Option (xj_M)) (f : Nat) (x0 : Nat) (x1 : Nat) (x2 : Int) (M : xj_M) : Option (xj_M) := ((xq_gi 13 10 (x0) M).bind fun v165 => (if (v165) ≤ (x2) then f316_166   f f (x0) (x1) (0) M else ((xq_gr 13 5 (x1) M).bind fun v168 => ((xq_gr 13 5 (x0) M).bind fun v170 => ((xq_ai 3 (v170) (x2) M).bind fun v172 => ((xq_si (v168) (x2) (v172) M).bind fun M174 => ((xq_gr 13 6 (x1) M174).bind fun v176 => ((xq_gr 13 6 (x0) M174).bind fun v178 => ((xq_ai 3 (v178) (x2) M174).bind fun v180 => ((xq_si (v176) (x2) (v180) M174).bind fun M182 => ((xq_gr 13 8 (x1) M182).bind fun v184 => ((xq_gr 13 8 (x0) M182).bind fun v186 => ((xq_al (v186) (x2) M182).bind fun v188 => ((xq_sl (v184) (x2) (v188) M182).bind fun M190 => ((xq_gr 13 7 (x1) M190).bind fun v192 => ((xq_gr 13 7 (x0) M190).bind fun v194 => ((xq_ai 3 (v194) (x2) M190).bind fun v196 => ((xq_si (v192) (x2) (v196) M190).bind fun M198 => f316_127  r69 f f (x0) (x1) (x2) (0) M198))))))))))))))))))
theorem k316_69b {d f : Nat}  {r69 : Nat → Nat → Int → xj_M → Option (xj_M)}  (hr69 : ∀ {x0 : Nat} {x1 : Nat} {x2 : Int} {M : xj_M} {R : xj_M}, xin x2 → r69 x0 x1 x2 M = some R → xW (d + 1) (none, d + 1, none) xr_316 (69, [(0, xR_ x0), (1, xR_ x1), (2, xI x2)], [], M) (xQv R)) {x0 : Nat} {x1 : Nat} {x2 : Int} {M : xj_M} {R : xj_M} (hx2 : xin x2) (h : f316_69b  r69 f x0 x1 x2 M = some R) : xW (d + 1) (none, d + 1, none) xr_316 (69, [(0, xR_ x0), (1, xR_ x1), (2, xI x2)], [], M) (xQv R) := by
  unfold f316_69b at h
  refine xe_ldn (ins := .iload_n 2) (len := 1) (by decide +kernel) rfl rfl rfl rfl ?_
  refine xe_alr (ins := .aload_n 0) (len := 1) (i := 0) (by decide +kernel) rfl rfl rfl rfl rfl ?_
  obtain ⟨v165, e166, h⟩ := xbnd h
  refine xs_gi (i := 791) (c := 13) (k := 10) (by decide +kernel) (by decide) (by decide +kernel) e166 rfl ?_
  refine xe_icmpge (off := 90) (t := 164) (by decide +kernel) (by decide) rfl hx2 (xq_gi_in e166) (fun c167 => ?_) (fun c167 => ?_)
  · rw [if_pos c167] at h
    refine xe_iconst (n := 0) (by decide +kernel) rfl ?_
    refine xe_isr (ins := .istore_n 2) (len := 1) (i := 2) (by decide +kernel) rfl rfl rfl (by decide) (xk_k (show ¬ (0 : Nat) = 2 by decide) (Or.inl (show ¬ (0 + 1 : Nat) = 2 by decide)) (xk_k (show ¬ (1 : Nat) = 2 by decide) (Or.inr (xR_cat _)) (xk_d rfl xk_n))) rfl ?_
    refine xW_lv rfl (l := [(0, xR_ (x0)), (1, xR_ (x1)), (2, xI (0))]) (xsb_of ⟨rfl, rfl, rfl, trivial⟩ (show [2, 0, 1].Nodup by decide)) ?_
    exact k316_166   (show xin (0) by decide) h
  · rw [if_neg c167] at h
    refine xe_alr (ins := .aload_n 1) (len := 1) (i := 1) (by decide +kernel) rfl rfl rfl rfl rfl ?_
    obtain ⟨v168, e169, h⟩ := xbnd h
    refine xs_gr (i := 788) (c := 13) (k := 5) (by decide +kernel) (by decide) (by decide +kernel) e169 rfl ?_
    refine xe_ldn (ins := .iload_n 2) (len := 1) (by decide +kernel) rfl rfl rfl rfl ?_
    refine xe_alr (ins := .aload_n 0) (len := 1) (i := 0) (by decide +kernel) rfl rfl rfl rfl rfl ?_
    obtain ⟨v170, e171, h⟩ := xbnd h
    refine xs_gr (i := 788) (c := 13) (k := 5) (by decide +kernel) (by decide) (by decide +kernel) e171 rfl ?_
    refine xe_ldn (ins := .iload_n 2) (len := 1) (by decide +kernel) rfl rfl rfl rfl ?_
    obtain ⟨v172, e173, h⟩ := xbnd h
    refine xs_iald rfl (by decide +kernel) hx2 e173 rfl ?_
    obtain ⟨M174, e175, h⟩ := xbnd h
    refine xs_iast (by decide +kernel) hx2 e175 rfl ?_
    refine xe_alr (ins := .aload_n 1) (len := 1) (i := 1) (by decide +kernel) rfl rfl rfl rfl rfl ?_
    obtain ⟨v176, e177, h⟩ := xbnd h
    refine xs_gr (i := 794) (c := 13) (k := 6) (by decide +kernel) (by decide) (by decide +kernel) e177 rfl ?_
    refine xe_ldn (ins := .iload_n 2) (len := 1) (by decide +kernel) rfl rfl rfl rfl ?_
    refine xe_alr (ins := .aload_n 0) (len := 1) (i := 0) (by decide +kernel) rfl rfl rfl rfl rfl ?_
    obtain ⟨v178, e179, h⟩ := xbnd h
    refine xs_gr (i := 794) (c := 13) (k := 6) (by decide +kernel) (by decide) (by decide +kernel) e179 rfl ?_
    refine xe_ldn (ins := .iload_n 2) (len := 1) (by decide +kernel) rfl rfl rfl rfl ?_
    obtain ⟨v180, e181, h⟩ := xbnd h
    refine xs_iald rfl (by decide +kernel) hx2 e181 rfl ?_
    obtain ⟨M182, e183, h⟩ := xbnd h
    refine xs_iast (by decide +kernel) hx2 e183 rfl ?_
    refine xe_alr (ins := .aload_n 1) (len := 1) (i := 1) (by decide +kernel) rfl rfl rfl rfl rfl ?_
    obtain ⟨v184, e185, h⟩ := xbnd h
    refine xs_gr (i := 797) (c := 13) (k := 8) (by decide +kernel) (by decide) (by decide +kernel) e185 rfl ?_
    refine xe_ldn (ins := .iload_n 2) (len := 1) (by decide +kernel) rfl rfl rfl rfl ?_
    refine xe_alr (ins := .aload_n 0) (len := 1) (i := 0) (by decide +kernel) rfl rfl rfl rfl rfl ?_
    obtain ⟨v186, e187, h⟩ := xbnd h
    refine xs_gr (i := 797) (c := 13) (k := 8) (by decide +kernel) (by decide) (by decide +kernel) e187 rfl ?_
    refine xe_ldn (ins := .iload_n 2) (len := 1) (by decide +kernel) rfl rfl rfl rfl ?_
    obtain ⟨v188, e189, h⟩ := xbnd h
    refine xs_lald (by decide +kernel) hx2 e189 rfl ?_
    obtain ⟨M190, e191, h⟩ := xbnd h
    refine xs_last (by decide +kernel) hx2 e191 rfl ?_
    refine xe_alr (ins := .aload_n 1) (len := 1) (i := 1) (by decide +kernel) rfl rfl rfl rfl rfl ?_
    obtain ⟨v192, e193, h⟩ := xbnd h
    refine xs_gr (i := 800) (c := 13) (k := 7) (by decide +kernel) (by decide) (by decide +kernel) e193 rfl ?_
    refine xe_ldn (ins := .iload_n 2) (len := 1) (by decide +kernel) rfl rfl rfl rfl ?_
    refine xe_alr (ins := .aload_n 0) (len := 1) (i := 0) (by decide +kernel) rfl rfl rfl rfl rfl ?_
    obtain ⟨v194, e195, h⟩ := xbnd h
    refine xs_gr (i := 800) (c := 13) (k := 7) (by decide +kernel) (by decide) (by decide +kernel) e195 rfl ?_
    refine xe_ldn (ins := .iload_n 2) (len := 1) (by decide +kernel) rfl rfl rfl rfl ?_
    obtain ⟨v196, e197, h⟩ := xbnd h
    refine xs_iald rfl (by decide +kernel) hx2 e197 rfl ?_
    obtain ⟨M198, e199, h⟩ := xbnd h
    refine xs_iast (by decide +kernel) hx2 e199 rfl ?_
    refine xe_iconst (n := 0) (by decide +kernel) rfl ?_
    refine xe_isr (ins := .istore_n 3) (len := 1) (i := 3) (by decide +kernel) rfl rfl rfl (by decide) (xk_k (show ¬ (0 : Nat) = 3 by decide) (Or.inl (show ¬ (0 + 1 : Nat) = 3 by decide)) (xk_k (show ¬ (1 : Nat) = 3 by decide) (Or.inl (show ¬ (1 + 1 : Nat) = 3 by decide)) (xk_k (show ¬ (2 : Nat) = 3 by decide) (Or.inr (xI_cat _)) xk_n))) rfl ?_
    refine xW_lv rfl (l := [(0, xR_ (x0)), (1, xR_ (x1)), (2, xI (x2)), (3, xI (0))]) (xsb_of ⟨rfl, rfl, rfl, rfl, trivial⟩ (show [3, 0, 1, 2].Nodup by decide)) ?_
    exact k316_127  hr69 hx2 (show xin (0) by decide) h
def f316_69   (f : Nat) : Nat → Nat → Nat → Int → xj_M → Option (xj_M)
  | 0, _, _, _, _ => none
  | n + 1, x0, x1, x2, M => f316_69b   (f316_69   f n) f x0 x1 x2 M
theorem k316_69 {d f : Nat}     : ∀ {n : Nat} {x0 : Nat} {x1 : Nat} {x2 : Int} {M : xj_M} {R : xj_M}, xin x2 → f316_69   f n x0 x1 x2 M = some R → xW (d + 1) (none, d + 1, none) xr_316 (69, [(0, xR_ x0), (1, xR_ x1), (2, xI x2)], [], M) (xQv R) := by
  intro n
  induction n with
  | zero => intros; rename_i h; cases h
  | succ n ih => intros; rename_i h; exact k316_69b   ih (by assumption) h
def f316  (f : Nat) (a0 : Nat) (a1 : Nat) (M : xj_M) : Option (xj_M) := ((xq_gr 13 0 (a1) M).bind fun v200 => ((xq_gr 13 0 (a0) M).bind fun v202 => ((xq_is 12 (v200) M).bind fun _ => ((f194  f (v200) (v202) M).bind fun M206 => ((xq_gi 13 1 (a0) M206).bind fun v208 => ((xq_pi 13 1 (a1) (v208) M206).bind fun M210 => ((xq_gi 13 2 (a0) M210).bind fun v212 => ((xq_pi 13 2 (a1) (v212) M210).bind fun M214 => ((xq_gi 13 3 (a0) M214).bind fun v216 => ((xq_pi 13 3 (a1) (v216) M214).bind fun M218 => ((xq_gi 13 4 (a0) M218).bind fun v220 => ((xq_pi 13 4 (a1) (v220) M218).bind fun M222 => ((xq_gi 13 10 (a0) M222).bind fun v224 => ((xq_pi 13 10 (a1) (v224) M222).bind fun M226 => ((xq_gi 13 16 (a0) M226).bind fun v228 => ((xq_pi 13 16 (a1) (v228) M226).bind fun M230 => ((xq_gi 13 17 (a0) M230).bind fun v232 => ((xq_pi 13 17 (a1) (v232) M230).bind fun M234 => f316_69   f f (a0) (a1) (0) M234))))))))))))))))))
theorem k316 {d f : Nat}   {a0 : Nat} {a1 : Nat} {M : xj_M} {R : xj_M}  (h : f316  f a0 a1 M = some R) : xT (d + 2) 316 [xR_ a0, xR_ a1] M (xQv R) := by
  refine xT_m xr_316_e (X := (none, d + 1, none)) rfl (xa_1 (xR_cat _) (xa_1 (xR_cat _) xa_n)) (by decide) ?_
  unfold f316 at h
  refine xe_alr (ins := .aload_n 1) (len := 1) (i := 1) (by decide +kernel) rfl rfl rfl rfl rfl ?_
  obtain ⟨v200, e201, h⟩ := xbnd h
  refine xs_gr (i := 679) (c := 13) (k := 0) (by decide +kernel) (by decide) (by decide +kernel) e201 rfl ?_
  refine xe_alr (ins := .aload_n 0) (len := 1) (i := 0) (by decide +kernel) rfl rfl rfl rfl rfl ?_
  obtain ⟨v202, e203, h⟩ := xbnd h
  refine xs_gr (i := 679) (c := 13) (k := 0) (by decide +kernel) (by decide) (by decide +kernel) e203 rfl ?_
  obtain ⟨_, e205, h⟩ := xbnd h
  obtain ⟨M206, e204, h⟩ := xbnd h
  refine xs_cv (i := 708) (j := 194) (ar := [xR_ (v202)]) (rest := []) (r2 := xr_194) (by decide +kernel) (by decide +kernel) (by decide +kernel) xr_194_e rfl (by decide) (by decide) e205 ?_
  refine xc_v (k194 (d := d + 0)   e204) rfl ?_
  refine xe_alr (ins := .aload_n 1) (len := 1) (i := 1) (by decide +kernel) rfl rfl rfl rfl rfl ?_
  refine xe_alr (ins := .aload_n 0) (len := 1) (i := 0) (by decide +kernel) rfl rfl rfl rfl rfl ?_
  obtain ⟨v208, e209, h⟩ := xbnd h
  refine xs_gi (i := 671) (c := 13) (k := 1) (by decide +kernel) (by decide) (by decide +kernel) e209 rfl ?_
  obtain ⟨M210, e211, h⟩ := xbnd h
  refine xs_p (i := 671) (c := 13) (k := 1) (by decide +kernel) (by decide +kernel) (by decide +kernel) e211 rfl ?_
  refine xe_alr (ins := .aload_n 1) (len := 1) (i := 1) (by decide +kernel) rfl rfl rfl rfl rfl ?_
  refine xe_alr (ins := .aload_n 0) (len := 1) (i := 0) (by decide +kernel) rfl rfl rfl rfl rfl ?_
  obtain ⟨v212, e213, h⟩ := xbnd h
  refine xs_gi (i := 740) (c := 13) (k := 2) (by decide +kernel) (by decide) (by decide +kernel) e213 rfl ?_
  obtain ⟨M214, e215, h⟩ := xbnd h
  refine xs_p (i := 740) (c := 13) (k := 2) (by decide +kernel) (by decide +kernel) (by decide +kernel) e215 rfl ?_
  refine xe_alr (ins := .aload_n 1) (len := 1) (i := 1) (by decide +kernel) rfl rfl rfl rfl rfl ?_
  refine xe_alr (ins := .aload_n 0) (len := 1) (i := 0) (by decide +kernel) rfl rfl rfl rfl rfl ?_
  obtain ⟨v216, e217, h⟩ := xbnd h
  refine xs_gi (i := 837) (c := 13) (k := 3) (by decide +kernel) (by decide) (by decide +kernel) e217 rfl ?_
  obtain ⟨M218, e219, h⟩ := xbnd h
  refine xs_p (i := 837) (c := 13) (k := 3) (by decide +kernel) (by decide +kernel) (by decide +kernel) e219 rfl ?_
  refine xe_alr (ins := .aload_n 1) (len := 1) (i := 1) (by decide +kernel) rfl rfl rfl rfl rfl ?_
  refine xe_alr (ins := .aload_n 0) (len := 1) (i := 0) (by decide +kernel) rfl rfl rfl rfl rfl ?_
  obtain ⟨v220, e221, h⟩ := xbnd h
  refine xs_gi (i := 746) (c := 13) (k := 4) (by decide +kernel) (by decide) (by decide +kernel) e221 rfl ?_
  obtain ⟨M222, e223, h⟩ := xbnd h
  refine xs_p (i := 746) (c := 13) (k := 4) (by decide +kernel) (by decide +kernel) (by decide +kernel) e223 rfl ?_
  refine xe_alr (ins := .aload_n 1) (len := 1) (i := 1) (by decide +kernel) rfl rfl rfl rfl rfl ?_
  refine xe_alr (ins := .aload_n 0) (len := 1) (i := 0) (by decide +kernel) rfl rfl rfl rfl rfl ?_
  obtain ⟨v224, e225, h⟩ := xbnd h
  refine xs_gi (i := 791) (c := 13) (k := 10) (by decide +kernel) (by decide) (by decide +kernel) e225 rfl ?_
  obtain ⟨M226, e227, h⟩ := xbnd h
  refine xs_p (i := 791) (c := 13) (k := 10) (by decide +kernel) (by decide +kernel) (by decide +kernel) e227 rfl ?_
  refine xe_alr (ins := .aload_n 1) (len := 1) (i := 1) (by decide +kernel) rfl rfl rfl rfl rfl ?_
  refine xe_alr (ins := .aload_n 0) (len := 1) (i := 0) (by decide +kernel) rfl rfl rfl rfl rfl ?_
  obtain ⟨v228, e229, h⟩ := xbnd h
  refine xs_gi (i := 847) (c := 13) (k := 16) (by decide +kernel) (by decide) (by decide +kernel) e229 rfl ?_
  obtain ⟨M230, e231, h⟩ := xbnd h
  refine xs_p (i := 847) (c := 13) (k := 16) (by decide +kernel) (by decide +kernel) (by decide +kernel) e231 rfl ?_
  refine xe_alr (ins := .aload_n 1) (len := 1) (i := 1) (by decide +kernel) rfl rfl rfl rfl rfl ?_
  refine xe_alr (ins := .aload_n 0) (len := 1) (i := 0) (by decide +kernel) rfl rfl rfl rfl rfl ?_
  obtain ⟨v232, e233, h⟩ := xbnd h
  refine xs_gi (i := 737) (c := 13) (k := 17) (by decide +kernel) (by decide) (by decide +kernel) e233 rfl ?_
  obtain ⟨M234, e235, h⟩ := xbnd h
  refine xs_p (i := 737) (c := 13) (k := 17) (by decide +kernel) (by decide +kernel) (by decide +kernel) e235 rfl ?_
  refine xe_iconst (n := 0) (by decide +kernel) rfl ?_
  refine xe_isr (ins := .istore_n 2) (len := 1) (i := 2) (by decide +kernel) rfl rfl rfl (by decide) (xk_k (show ¬ (0 : Nat) = 2 by decide) (Or.inl (show ¬ (0 + 1 : Nat) = 2 by decide)) (xk_k (show ¬ (1 : Nat) = 2 by decide) (Or.inr (xR_cat _)) xk_n)) rfl ?_
  refine xW_lv rfl (l := [(0, xR_ (a0)), (1, xR_ (a1)), (2, xI (0))]) (xsb_of ⟨rfl, rfl, rfl, trivial⟩ (show [2, 0, 1].Nodup by decide)) ?_
  exact k316_69   (show xin (0) by decide) h
-- ChangeHouseModel.line
def xr_317 : xj_mR := (15, yX15_line, cX15_line, 3, (Option.some Jvm.ClassFile.FieldType.int), 1, false, (10, 212), (1, 12))
set_option maxRecDepth 20000 in
theorem xr_317_e : xj_row 317 = some xr_317 := rfl
def f317_14   (f : Nat)  (M : xj_M) : Option (Int × xj_M) := (some (-1, M))
theorem k317_14 {d f : Nat}      {M : xj_M} {R : Int × xj_M}  (h : f317_14   f  M = some R) : xW (d + 1) (none, d + 1, none) xr_317 (14, [], [], M) (xQi R) := by
  unfold f317_14 at h
  refine xe_iconst (n := -1) (by decide +kernel) rfl ?_
  cases h
  exact xe_ret_i (ty := .int) (by decide +kernel) rfl rfl ⟨rfl, rfl, (show xin (-1) by decide)⟩
def f317  (f : Nat) (a0 : Nat) (a1 : Int) (M : xj_M) : Option (Int × xj_M) := ((xq_pi 15 74 (a0) (0) M).bind fun M101 => (if (a1) < 0 then f317_14   f  M101 else (if (a1) < (4) then ((xq_gi 15 62 (a0) M101).bind fun v105 => ((xq_pi 15 62 (a0) (a1) M101).bind fun M107 => ((xq_gr 15 61 (a0) M107).bind fun v109 => ((xq_ar (v109) (a1) M107).bind fun v111 => ((xq_is 13 (v111) M107).bind fun _ => ((f203  f (v111) M107).bind fun M115 => (some (v105, M115)))))))) else f317_14   f  M101)))
theorem k317 {d f : Nat}   {a0 : Nat} {a1 : Int} {M : xj_M} {R : Int × xj_M} (ha1 : xin a1) (h : f317  f a0 a1 M = some R) : xT (d + 2) 317 [xR_ a0, xI a1] M (xQi R) := by
  refine xT_m xr_317_e (X := (none, d + 1, none)) rfl (xa_1 (xR_cat _) (xa_1 (xI_cat _) xa_n)) (by decide) ?_
  unfold f317 at h
  refine xe_alr (ins := .aload_n 0) (len := 1) (i := 0) (by decide +kernel) rfl rfl rfl rfl rfl ?_
  refine xe_iconst (n := 0) (by decide +kernel) rfl ?_
  obtain ⟨M101, e102, h⟩ := xbnd h
  refine xs_p (i := 699) (c := 15) (k := 74) (by decide +kernel) (by decide +kernel) (by decide +kernel) e102 rfl ?_
  refine xe_ldn (ins := .iload_n 1) (len := 1) (by decide +kernel) rfl rfl rfl rfl ?_
  refine xe_iflt (off := 8) (t := 14) (by decide +kernel) (by decide) rfl ha1 (fun c103 => ?_) (fun c103 => ?_)
  · rw [if_pos c103] at h
    refine xW_lv rfl (l := []) (xsb_of trivial (show [0, 1].Nodup by decide)) ?_
    exact k317_14    h
  · rw [if_neg c103] at h
    refine xe_ldn (ins := .iload_n 1) (len := 1) (by decide +kernel) rfl rfl rfl rfl ?_
    refine xe_iconst (n := 4) (by decide +kernel) rfl ?_
    refine xe_icmplt (off := 5) (t := 16) (by decide +kernel) (by decide) rfl ha1 (show xin (4) by decide) (fun c104 => ?_) (fun c104 => ?_)
    · rw [if_pos c104] at h
      refine xe_alr (ins := .aload_n 0) (len := 1) (i := 0) (by decide +kernel) rfl rfl rfl rfl rfl ?_
      obtain ⟨v105, e106, h⟩ := xbnd h
      refine xs_gi (i := 664) (c := 15) (k := 62) (by decide +kernel) (by decide) (by decide +kernel) e106 rfl ?_
      refine xe_isr (ins := .istore_n 2) (len := 1) (i := 2) (by decide +kernel) rfl rfl rfl (by decide) (xk_k (show ¬ (0 : Nat) = 2 by decide) (Or.inl (show ¬ (0 + 1 : Nat) = 2 by decide)) (xk_k (show ¬ (1 : Nat) = 2 by decide) (Or.inr (xI_cat _)) xk_n)) rfl ?_
      refine xe_alr (ins := .aload_n 0) (len := 1) (i := 0) (by decide +kernel) rfl rfl rfl rfl rfl ?_
      refine xe_ldn (ins := .iload_n 1) (len := 1) (by decide +kernel) rfl rfl rfl rfl ?_
      obtain ⟨M107, e108, h⟩ := xbnd h
      refine xs_p (i := 664) (c := 15) (k := 62) (by decide +kernel) (by decide +kernel) (by decide +kernel) e108 rfl ?_
      refine xe_alr (ins := .aload_n 0) (len := 1) (i := 0) (by decide +kernel) rfl rfl rfl rfl rfl ?_
      obtain ⟨v109, e110, h⟩ := xbnd h
      refine xs_gr (i := 667) (c := 15) (k := 61) (by decide +kernel) (by decide) (by decide +kernel) e110 rfl ?_
      refine xe_ldn (ins := .iload_n 1) (len := 1) (by decide +kernel) rfl rfl rfl rfl ?_
      obtain ⟨v111, e112, h⟩ := xbnd h
      refine xs_aald (by decide +kernel) ha1 e112 rfl ?_
      obtain ⟨_, e114, h⟩ := xbnd h
      obtain ⟨M115, e113, h⟩ := xbnd h
      refine xs_cv (i := 751) (j := 203) (ar := []) (rest := []) (r2 := xr_203) (by decide +kernel) (by decide +kernel) (by decide +kernel) xr_203_e rfl (by decide) (by decide) e114 ?_
      refine xc_v (k203 (d := d + 0)   e113) rfl ?_
      refine xe_ldn (ins := .iload_n 2) (len := 1) (by decide +kernel) rfl rfl rfl rfl ?_
      cases h
      exact xe_ret_i (ty := .int) (by decide +kernel) rfl rfl ⟨rfl, rfl, (xq_gi_in e106)⟩
    · rw [if_neg c104] at h
      refine xW_lv rfl (l := []) (xsb_of trivial (show [0, 1].Nodup by decide)) ?_
      exact k317_14    h
-- ChangeHouseModel.isThen
def xr_319 : xj_mR := (15, yX15_isThen, cX15_isThen, 3, (Option.some Jvm.ClassFile.FieldType.boolean), 2, false, (10, 220), (1, 12))
set_option maxRecDepth 20000 in
theorem xr_319_e : xj_row 319 = some xr_319 := rfl
def f319_48   (f : Nat) (y0 : Int) (M : xj_M) : Option (Int × xj_M) := (if (y0) = 0 ∨ (y0) = 1 then some (y0, M) else none)
theorem k319_48 {d f : Nat}     {y0 : Int} {M : xj_M} {R : Int × xj_M} (hy0 : xin y0) (h : f319_48   f y0 M = some R) : xW (d + 0) (none, d + 0, none) xr_319 (48, [], [xI y0], M) (xQi R) := by
  unfold f319_48 at h
  by_cases c101 : (y0) = 0 ∨ (y0) = 1
  · rw [if_pos c101] at h; cases h; exact xe_ret_i (ty := .boolean) (by decide +kernel) rfl (xbool c101) ⟨rfl, rfl, hy0⟩
  · rw [if_neg c101] at h; cases h
def f319_47   (f : Nat)  (M : xj_M) : Option (Int × xj_M) := f319_48   f (0) M
theorem k319_47 {d f : Nat}      {M : xj_M} {R : Int × xj_M}  (h : f319_47   f  M = some R) : xW (d + 0) (none, d + 0, none) xr_319 (47, [], [], M) (xQi R) := by
  unfold f319_47 at h
  refine xe_iconst (n := 0) (by decide +kernel) rfl ?_
  refine xW_lv rfl (l := []) (xsb_of trivial (show [].Nodup by decide)) ?_
  exact k319_48   (show xin (0) by decide) h
def f319  (f : Nat) (a0 : Nat) (a1 : Int) (a2 : Int) (M : xj_M) : Option (Int × xj_M) := ((xq_gr 15 80 (a0) M).bind fun v102 => ((xq_gr 12 0 (v102) M).bind fun v104 => ((xq_al (v104) (a2) M).bind fun v106 => ((xq_gr 15 30 (a0) M).bind fun v108 => ((xq_gr 14 0 (v108) M).bind fun v110 => ((xq_al (v110) (a1) M).bind fun v112 => (if ¬ (v106) = (v112) then f319_47   f  M else ((xq_gr 15 80 (a0) M).bind fun v115 => ((xq_gr 12 2 (v115) M).bind fun v117 => ((xq_ai 3 (v117) (a2) M).bind fun v119 => ((xq_gr 15 30 (a0) M).bind fun v121 => ((xq_gr 14 1 (v121) M).bind fun v123 => ((xq_ai 3 (v123) (a1) M).bind fun v125 => (if ¬ (v119) = (v125) then f319_47   f  M else f319_48   f (1) M))))))))))))))
theorem k319 {d f : Nat}   {a0 : Nat} {a1 : Int} {a2 : Int} {M : xj_M} {R : Int × xj_M} (ha1 : xin a1) (ha2 : xin a2) (h : f319  f a0 a1 a2 M = some R) : xT (d + 1) 319 [xR_ a0, xI a1, xI a2] M (xQi R) := by
  refine xT_m xr_319_e (X := (none, d + 0, none)) rfl (xa_1 (xR_cat _) (xa_1 (xI_cat _) (xa_1 (xI_cat _) xa_n))) (by decide) ?_
  unfold f319 at h
  refine xe_alr (ins := .aload_n 0) (len := 1) (i := 0) (by decide +kernel) rfl rfl rfl rfl rfl ?_
  obtain ⟨v102, e103, h⟩ := xbnd h
  refine xs_gr (i := 858) (c := 15) (k := 80) (by decide +kernel) (by decide) (by decide +kernel) e103 rfl ?_
  obtain ⟨v104, e105, h⟩ := xbnd h
  refine xs_gr (i := 694) (c := 12) (k := 0) (by decide +kernel) (by decide) (by decide +kernel) e105 rfl ?_
  refine xe_ldn (ins := .iload_n 2) (len := 1) (by decide +kernel) rfl rfl rfl rfl ?_
  obtain ⟨v106, e107, h⟩ := xbnd h
  refine xs_lald (by decide +kernel) ha2 e107 rfl ?_
  refine xe_alr (ins := .aload_n 0) (len := 1) (i := 0) (by decide +kernel) rfl rfl rfl rfl rfl ?_
  obtain ⟨v108, e109, h⟩ := xbnd h
  refine xs_gr (i := 774) (c := 15) (k := 30) (by decide +kernel) (by decide) (by decide +kernel) e109 rfl ?_
  obtain ⟨v110, e111, h⟩ := xbnd h
  refine xs_gr (i := 217) (c := 14) (k := 0) (by decide +kernel) (by decide) (by decide +kernel) e111 rfl ?_
  refine xe_ldn (ins := .iload_n 1) (len := 1) (by decide +kernel) rfl rfl rfl rfl ?_
  obtain ⟨v112, e113, h⟩ := xbnd h
  refine xs_lald (by decide +kernel) ha1 e113 rfl ?_
  refine xe_lcmp (by decide +kernel) rfl (xq_al_in e107) (xq_al_in e113) ?_
  refine xe_ifne (off := 28) (t := 47) (by decide +kernel) (by decide) rfl (xin_cmp8 _ _) (fun c114 => ?_) (fun c114 => ?_)
  · have c114 := xcmp8_ne.mp c114; rw [if_pos c114] at h
    refine xW_lv rfl (l := []) (xsb_of trivial (show [0, 1, 2].Nodup by decide)) ?_
    exact k319_47    h
  · have c114 := (not_congr xcmp8_ne).mp c114; rw [if_neg c114] at h
    refine xe_alr (ins := .aload_n 0) (len := 1) (i := 0) (by decide +kernel) rfl rfl rfl rfl rfl ?_
    obtain ⟨v115, e116, h⟩ := xbnd h
    refine xs_gr (i := 858) (c := 15) (k := 80) (by decide +kernel) (by decide) (by decide +kernel) e116 rfl ?_
    obtain ⟨v117, e118, h⟩ := xbnd h
    refine xs_gr (i := 695) (c := 12) (k := 2) (by decide +kernel) (by decide) (by decide +kernel) e118 rfl ?_
    refine xe_ldn (ins := .iload_n 2) (len := 1) (by decide +kernel) rfl rfl rfl rfl ?_
    obtain ⟨v119, e120, h⟩ := xbnd h
    refine xs_iald rfl (by decide +kernel) ha2 e120 rfl ?_
    refine xe_alr (ins := .aload_n 0) (len := 1) (i := 0) (by decide +kernel) rfl rfl rfl rfl rfl ?_
    obtain ⟨v121, e122, h⟩ := xbnd h
    refine xs_gr (i := 774) (c := 15) (k := 30) (by decide +kernel) (by decide) (by decide +kernel) e122 rfl ?_
    obtain ⟨v123, e124, h⟩ := xbnd h
    refine xs_gr (i := 180) (c := 14) (k := 1) (by decide +kernel) (by decide) (by decide +kernel) e124 rfl ?_
    refine xe_ldn (ins := .iload_n 1) (len := 1) (by decide +kernel) rfl rfl rfl rfl ?_
    obtain ⟨v125, e126, h⟩ := xbnd h
    refine xs_iald rfl (by decide +kernel) ha1 e126 rfl ?_
    refine xe_icmpne (off := 7) (t := 47) (by decide +kernel) (by decide) rfl (xq_ai_in e120) (xq_ai_in e126) (fun c127 => ?_) (fun c127 => ?_)
    · rw [if_pos c127] at h
      refine xW_lv rfl (l := []) (xsb_of trivial (show [0, 1, 2].Nodup by decide)) ?_
      exact k319_47    h
    · rw [if_neg c127] at h
      refine xe_iconst (n := 1) (by decide +kernel) rfl ?_
      refine xe_goto (off := 4) (nx := 48) (by decide +kernel) (by decide) ?_
      refine xW_lv rfl (l := []) (xsb_of trivial (show [0, 1, 2].Nodup by decide)) ?_
      exact k319_48   (show xin (1) by decide) h
-- ChangeHouseModel.lost
def xr_321 : xj_mR := (15, yX15_lost, cX15_lost, 1, (Option.some Jvm.ClassFile.FieldType.int), 0, false, (10, 229), (1, 12))
set_option maxRecDepth 20000 in
theorem xr_321_e : xj_row 321 = some xr_321 := rfl
def f321  (f : Nat) (a0 : Nat) (M : xj_M) : Option (Int × xj_M) := ((xq_pi 15 74 (a0) (1) M).bind fun M101 => (some (0, M101)))
theorem k321 {d f : Nat}   {a0 : Nat} {M : xj_M} {R : Int × xj_M}  (h : f321  f a0 M = some R) : xT (d + 1) 321 [xR_ a0] M (xQi R) := by
  refine xT_m xr_321_e (X := (none, d + 0, none)) rfl (xa_1 (xR_cat _) xa_n) (by decide) ?_
  unfold f321 at h
  refine xe_alr (ins := .aload_n 0) (len := 1) (i := 0) (by decide +kernel) rfl rfl rfl rfl rfl ?_
  refine xe_iconst (n := 1) (by decide +kernel) rfl ?_
  obtain ⟨M101, e102, h⟩ := xbnd h
  refine xs_p (i := 699) (c := 15) (k := 74) (by decide +kernel) (by decide +kernel) (by decide +kernel) e102 rfl ?_
  refine xe_iconst (n := 0) (by decide +kernel) rfl ?_
  cases h
  exact xe_ret_i (ty := .int) (by decide +kernel) rfl rfl ⟨rfl, rfl, (show xin (0) by decide)⟩
-- ChangeHouseModel.lies
def xr_322 : xj_mR := (15, yX15_lies, cX15_lies, 3, (Option.some Jvm.ClassFile.FieldType.boolean), 3, false, (11, 16), (1, 12))
set_option maxRecDepth 20000 in
theorem xr_322_e : xj_row 322 = some xr_322 := rfl
def f322  (f : Nat) (a0 : Nat) (a1 : Nat) (a2 : Int) (M : xj_M) : Option (Int × xj_M) := ((xq_gr 12 0 (a1) M).bind fun v101 => ((xq_al (v101) (a2) M).bind fun v103 => ((xq_gr 12 2 (a1) M).bind fun v105 => ((xq_ai 3 (v105) (a2) M).bind fun v107 => ((xq_gr 12 1 (a1) M).bind fun v109 => ((xq_is 12 (a0) M).bind fun _ => ((f197  f (a0) (v103) (v107) (v109) (xwr ((4) * (a2))) M).bind fun R113 => (if (R113.1) = 0 ∨ (R113.1) = 1 then some (R113.1, R113.2) else none))))))))
theorem k322 {d f : Nat}   {a0 : Nat} {a1 : Nat} {a2 : Int} {M : xj_M} {R : Int × xj_M} (ha2 : xin a2) (h : f322  f a0 a1 a2 M = some R) : xT (d + 4) 322 [xR_ a0, xR_ a1, xI a2] M (xQi R) := by
  refine xT_m xr_322_e (X := (none, d + 3, none)) rfl (xa_1 (xR_cat _) (xa_1 (xR_cat _) (xa_1 (xI_cat _) xa_n))) (by decide) ?_
  unfold f322 at h
  refine xe_alr (ins := .aload_n 0) (len := 1) (i := 0) (by decide +kernel) rfl rfl rfl rfl rfl ?_
  refine xe_alr (ins := .aload_n 1) (len := 1) (i := 1) (by decide +kernel) rfl rfl rfl rfl rfl ?_
  obtain ⟨v101, e102, h⟩ := xbnd h
  refine xs_gr (i := 694) (c := 12) (k := 0) (by decide +kernel) (by decide) (by decide +kernel) e102 rfl ?_
  refine xe_ldn (ins := .iload_n 2) (len := 1) (by decide +kernel) rfl rfl rfl rfl ?_
  obtain ⟨v103, e104, h⟩ := xbnd h
  refine xs_lald (by decide +kernel) ha2 e104 rfl ?_
  refine xe_alr (ins := .aload_n 1) (len := 1) (i := 1) (by decide +kernel) rfl rfl rfl rfl rfl ?_
  obtain ⟨v105, e106, h⟩ := xbnd h
  refine xs_gr (i := 695) (c := 12) (k := 2) (by decide +kernel) (by decide) (by decide +kernel) e106 rfl ?_
  refine xe_ldn (ins := .iload_n 2) (len := 1) (by decide +kernel) rfl rfl rfl rfl ?_
  obtain ⟨v107, e108, h⟩ := xbnd h
  refine xs_iald rfl (by decide +kernel) ha2 e108 rfl ?_
  refine xe_alr (ins := .aload_n 1) (len := 1) (i := 1) (by decide +kernel) rfl rfl rfl rfl rfl ?_
  obtain ⟨v109, e110, h⟩ := xbnd h
  refine xs_gr (i := 696) (c := 12) (k := 1) (by decide +kernel) (by decide) (by decide +kernel) e110 rfl ?_
  refine xe_iconst (n := 4) (by decide +kernel) rfl ?_
  refine xe_ldn (ins := .iload_n 2) (len := 1) (by decide +kernel) rfl rfl rfl rfl ?_
  refine xe_imul (by decide +kernel) rfl ?_
  obtain ⟨_, e112, h⟩ := xbnd h
  obtain ⟨R113, e111, h⟩ := xbnd h
  refine xs_cv (i := 809) (j := 197) (ar := [xI (xwr ((4) * (a2))), xR_ (v109), xI (v107), xZ (v103)]) (rest := []) (r2 := xr_197) (by decide +kernel) (by decide +kernel) (by decide +kernel) xr_197_e rfl (by decide) (by decide) e112 ?_
  refine xc_i (k197 (d := d + 0)  (xq_al_in e104) (xq_ai_in e108) (xin_wr _) e111) rfl (fun hi114 => ?_)
  by_cases c115 : (R113.1) = 0 ∨ (R113.1) = 1
  · rw [if_pos c115] at h; cases h; exact xe_ret_i (ty := .boolean) (by decide +kernel) rfl (xbool c115) ⟨rfl, rfl, hi114⟩
  · rw [if_neg c115] at h; cases h
-- ChangeHouseModel.sameKey
def xr_323 : xj_mR := (15, yX15_sameKey, cX15_sameKey, 6, (Option.some Jvm.ClassFile.FieldType.int), 4, false, (11, 1), (1, 12))
set_option maxRecDepth 20000 in
theorem xr_323_e : xj_row 323 = some xr_323 := rfl
def f323_66  (r3 : Nat → Nat → Int → Nat → Int → Int → xj_M → Option (Int × xj_M)) (f : Nat) (x0 : Nat) (x1 : Nat) (x2 : Int) (x3 : Nat) (x4 : Int) (x5 : Int) (M : xj_M) : Option (Int × xj_M) := r3 (x0) (x1) (x2) (x3) (x4) (xwr ((x5) + (1))) M
theorem k323_66 {d f : Nat}  {r3 : Nat → Nat → Int → Nat → Int → Int → xj_M → Option (Int × xj_M)}  (hr3 : ∀ {x0 : Nat} {x1 : Nat} {x2 : Int} {x3 : Nat} {x4 : Int} {x5 : Int} {M : xj_M} {R : Int × xj_M}, xin x2 → xin x4 → xin x5 → r3 x0 x1 x2 x3 x4 x5 M = some R → xW (d + 1) (none, d + 1, none) xr_323 (3, [(0, xR_ x0), (1, xR_ x1), (2, xI x2), (3, xR_ x3), (4, xI x4), (5, xI x5)], [], M) (xQi R)) {x0 : Nat} {x1 : Nat} {x2 : Int} {x3 : Nat} {x4 : Int} {x5 : Int} {M : xj_M} {R : Int × xj_M} (hx2 : xin x2) (hx4 : xin x4) (hx5 : xin x5) (h : f323_66  r3 f x0 x1 x2 x3 x4 x5 M = some R) : xW (d + 1) (none, d + 1, none) xr_323 (66, [(0, xR_ x0), (1, xR_ x1), (2, xI x2), (3, xR_ x3), (4, xI x4), (5, xI x5)], [], M) (xQi R) := by
  unfold f323_66 at h
  refine xe_iincr (i := 5) (n := 1) (by decide +kernel) (by decide) rfl (xk_k (show ¬ (0 : Nat) = 5 by decide) (Or.inl (show ¬ (0 + 1 : Nat) = 5 by decide)) (xk_k (show ¬ (1 : Nat) = 5 by decide) (Or.inl (show ¬ (1 + 1 : Nat) = 5 by decide)) (xk_k (show ¬ (2 : Nat) = 5 by decide) (Or.inl (show ¬ (2 + 1 : Nat) = 5 by decide)) (xk_k (show ¬ (3 : Nat) = 5 by decide) (Or.inl (show ¬ (3 + 1 : Nat) = 5 by decide)) (xk_k (show ¬ (4 : Nat) = 5 by decide) (Or.inr (xI_cat _)) (xk_d rfl xk_n)))))) rfl ?_
  refine xe_goto (off := -66) (nx := 3) (by decide +kernel) (by decide) ?_
  refine xW_lv rfl (l := [(0, xR_ (x0)), (1, xR_ (x1)), (2, xI (x2)), (3, xR_ (x3)), (4, xI (x4)), (5, xI (xwr ((x5) + (1))))]) (xsb_of ⟨rfl, rfl, rfl, rfl, rfl, rfl, trivial⟩ (show [5, 0, 1, 2, 3, 4].Nodup by decide)) ?_
  exact hr3 hx2 hx4 (xin_wr _) h
def f323_3b  (r3 : Nat → Nat → Int → Nat → Int → Int → xj_M → Option (Int × xj_M)) (f : Nat) (x0 : Nat) (x1 : Nat) (x2 : Int) (x3 : Nat) (x4 : Int) (x5 : Int) (M : xj_M) : Option (Int × xj_M) := ((xq_gi 12 3 (x1) M).bind fun v101 => (if (v101) ≤ (x5) then (some (-1, M)) else ((xq_gr 12 0 (x1) M).bind fun v104 => ((xq_al (v104) (x5) M).bind fun v106 => ((xq_gr 15 29 (x0) M).bind fun v108 => ((xq_gr 14 0 (v108) M).bind fun v110 => ((xq_al (v110) (x2) M).bind fun v112 => (if ¬ (v106) = (v112) then f323_66  r3 f (x0) (x1) (x2) (x3) (x4) (x5) M else ((xq_gr 12 1 (x1) M).bind fun v115 => ((xq_gr 12 1 (x3) M).bind fun v117 => ((xq_gr 15 29 (x0) M).bind fun v119 => ((xq_gr 14 2 (v119) M).bind fun v121 => ((xq_ai 3 (v121) (x2) M).bind fun v123 => ((f262  f (v115) (xwr ((4) * (x5))) (v117) (xwr ((4) * (x4))) (v123) M).bind fun R126 => (if ¬ (R126.1) = 0 then f323_66  r3 f (x0) (x1) (x2) (x3) (x4) (x5) R126.2 else (some (x5, R126.2)))))))))))))))))
theorem k323_3b {d f : Nat}  {r3 : Nat → Nat → Int → Nat → Int → Int → xj_M → Option (Int × xj_M)}  (hr3 : ∀ {x0 : Nat} {x1 : Nat} {x2 : Int} {x3 : Nat} {x4 : Int} {x5 : Int} {M : xj_M} {R : Int × xj_M}, xin x2 → xin x4 → xin x5 → r3 x0 x1 x2 x3 x4 x5 M = some R → xW (d + 1) (none, d + 1, none) xr_323 (3, [(0, xR_ x0), (1, xR_ x1), (2, xI x2), (3, xR_ x3), (4, xI x4), (5, xI x5)], [], M) (xQi R)) {x0 : Nat} {x1 : Nat} {x2 : Int} {x3 : Nat} {x4 : Int} {x5 : Int} {M : xj_M} {R : Int × xj_M} (hx2 : xin x2) (hx4 : xin x4) (hx5 : xin x5) (h : f323_3b  r3 f x0 x1 x2 x3 x4 x5 M = some R) : xW (d + 1) (none, d + 1, none) xr_323 (3, [(0, xR_ x0), (1, xR_ x1), (2, xI x2), (3, xR_ x3), (4, xI x4), (5, xI x5)], [], M) (xQi R) := by
  unfold f323_3b at h
  refine xe_ldn (ins := .iload 5) (len := 2) (by decide +kernel) rfl rfl rfl rfl ?_
  refine xe_alr (ins := .aload_n 1) (len := 1) (i := 1) (by decide +kernel) rfl rfl rfl rfl rfl ?_
  obtain ⟨v101, e102, h⟩ := xbnd h
  refine xs_gi (i := 690) (c := 12) (k := 3) (by decide +kernel) (by decide) (by decide +kernel) e102 rfl ?_
  refine xe_icmpge (off := 63) (t := 72) (by decide +kernel) (by decide) rfl hx5 (xq_gi_in e102) (fun c103 => ?_) (fun c103 => ?_)
  · rw [if_pos c103] at h
    refine xe_iconst (n := -1) (by decide +kernel) rfl ?_
    cases h
    exact xe_ret_i (ty := .int) (by decide +kernel) rfl rfl ⟨rfl, rfl, (show xin (-1) by decide)⟩
  · rw [if_neg c103] at h
    refine xe_alr (ins := .aload_n 1) (len := 1) (i := 1) (by decide +kernel) rfl rfl rfl rfl rfl ?_
    obtain ⟨v104, e105, h⟩ := xbnd h
    refine xs_gr (i := 694) (c := 12) (k := 0) (by decide +kernel) (by decide) (by decide +kernel) e105 rfl ?_
    refine xe_ldn (ins := .iload 5) (len := 2) (by decide +kernel) rfl rfl rfl rfl ?_
    obtain ⟨v106, e107, h⟩ := xbnd h
    refine xs_lald (by decide +kernel) hx5 e107 rfl ?_
    refine xe_alr (ins := .aload_n 0) (len := 1) (i := 0) (by decide +kernel) rfl rfl rfl rfl rfl ?_
    obtain ⟨v108, e109, h⟩ := xbnd h
    refine xs_gr (i := 439) (c := 15) (k := 29) (by decide +kernel) (by decide) (by decide +kernel) e109 rfl ?_
    obtain ⟨v110, e111, h⟩ := xbnd h
    refine xs_gr (i := 217) (c := 14) (k := 0) (by decide +kernel) (by decide) (by decide +kernel) e111 rfl ?_
    refine xe_ldn (ins := .iload_n 2) (len := 1) (by decide +kernel) rfl rfl rfl rfl ?_
    obtain ⟨v112, e113, h⟩ := xbnd h
    refine xs_lald (by decide +kernel) hx2 e113 rfl ?_
    refine xe_lcmp (by decide +kernel) rfl (xq_al_in e107) (xq_al_in e113) ?_
    refine xe_ifne (off := 37) (t := 66) (by decide +kernel) (by decide) rfl (xin_cmp8 _ _) (fun c114 => ?_) (fun c114 => ?_)
    · have c114 := xcmp8_ne.mp c114; rw [if_pos c114] at h
      refine xW_lv rfl (l := [(0, xR_ (x0)), (1, xR_ (x1)), (2, xI (x2)), (3, xR_ (x3)), (4, xI (x4)), (5, xI (x5))]) (xsb_of ⟨rfl, rfl, rfl, rfl, rfl, rfl, trivial⟩ (show [0, 1, 2, 3, 4, 5].Nodup by decide)) ?_
      exact k323_66  hr3 hx2 hx4 hx5 h
    · have c114 := (not_congr xcmp8_ne).mp c114; rw [if_neg c114] at h
      refine xe_alr (ins := .aload_n 1) (len := 1) (i := 1) (by decide +kernel) rfl rfl rfl rfl rfl ?_
      obtain ⟨v115, e116, h⟩ := xbnd h
      refine xs_gr (i := 696) (c := 12) (k := 1) (by decide +kernel) (by decide) (by decide +kernel) e116 rfl ?_
      refine xe_iconst (n := 4) (by decide +kernel) rfl ?_
      refine xe_ldn (ins := .iload 5) (len := 2) (by decide +kernel) rfl rfl rfl rfl ?_
      refine xe_imul (by decide +kernel) rfl ?_
      refine xe_alr (ins := .aload_n 3) (len := 1) (i := 3) (by decide +kernel) rfl rfl rfl rfl rfl ?_
      obtain ⟨v117, e118, h⟩ := xbnd h
      refine xs_gr (i := 696) (c := 12) (k := 1) (by decide +kernel) (by decide) (by decide +kernel) e118 rfl ?_
      refine xe_iconst (n := 4) (by decide +kernel) rfl ?_
      refine xe_ldn (ins := .iload 4) (len := 2) (by decide +kernel) rfl rfl rfl rfl ?_
      refine xe_imul (by decide +kernel) rfl ?_
      refine xe_alr (ins := .aload_n 0) (len := 1) (i := 0) (by decide +kernel) rfl rfl rfl rfl rfl ?_
      obtain ⟨v119, e120, h⟩ := xbnd h
      refine xs_gr (i := 439) (c := 15) (k := 29) (by decide +kernel) (by decide) (by decide +kernel) e120 rfl ?_
      obtain ⟨v121, e122, h⟩ := xbnd h
      refine xs_gr (i := 184) (c := 14) (k := 2) (by decide +kernel) (by decide) (by decide +kernel) e122 rfl ?_
      refine xe_ldn (ins := .iload_n 2) (len := 1) (by decide +kernel) rfl rfl rfl rfl ?_
      obtain ⟨v123, e124, h⟩ := xbnd h
      refine xs_iald rfl (by decide +kernel) hx2 e124 rfl ?_
      obtain ⟨R126, e125, h⟩ := xbnd h
      refine xs_cs (kd := 2) (by decide) (i := 442) (j := 262) (ar := [xI (v123), xI (xwr ((4) * (x4))), xR_ (v117), xI (xwr ((4) * (x5))), xR_ (v115)]) (rest := []) (r2 := xr_262) (by decide +kernel) (by decide +kernel) (by decide +kernel) xr_262_e rfl (by decide) ?_
      refine xc_i (k262 (d := d + 0)  (xin_wr _) (xin_wr _) (xq_ai_in e124) e125) rfl (fun hi127 => ?_)
      refine xe_ifne (off := 6) (t := 66) (by decide +kernel) (by decide) rfl hi127 (fun c128 => ?_) (fun c128 => ?_)
      · rw [if_pos c128] at h
        refine xW_lv rfl (l := [(0, xR_ (x0)), (1, xR_ (x1)), (2, xI (x2)), (3, xR_ (x3)), (4, xI (x4)), (5, xI (x5))]) (xsb_of ⟨rfl, rfl, rfl, rfl, rfl, rfl, trivial⟩ (show [0, 1, 2, 3, 4, 5].Nodup by decide)) ?_
        exact k323_66  hr3 hx2 hx4 hx5 h
      · rw [if_neg c128] at h
        refine xe_ldn (ins := .iload 5) (len := 2) (by decide +kernel) rfl rfl rfl rfl ?_
        cases h
        exact xe_ret_i (ty := .int) (by decide +kernel) rfl rfl ⟨rfl, rfl, hx5⟩
def f323_3   (f : Nat) : Nat → Nat → Nat → Int → Nat → Int → Int → xj_M → Option (Int × xj_M)
  | 0, _, _, _, _, _, _, _ => none
  | n + 1, x0, x1, x2, x3, x4, x5, M => f323_3b   (f323_3   f n) f x0 x1 x2 x3 x4 x5 M
theorem k323_3 {d f : Nat}     : ∀ {n : Nat} {x0 : Nat} {x1 : Nat} {x2 : Int} {x3 : Nat} {x4 : Int} {x5 : Int} {M : xj_M} {R : Int × xj_M}, xin x2 → xin x4 → xin x5 → f323_3   f n x0 x1 x2 x3 x4 x5 M = some R → xW (d + 1) (none, d + 1, none) xr_323 (3, [(0, xR_ x0), (1, xR_ x1), (2, xI x2), (3, xR_ x3), (4, xI x4), (5, xI x5)], [], M) (xQi R) := by
  intro n
  induction n with
  | zero => intros; rename_i h; cases h
  | succ n ih => intros; rename_i h; exact k323_3b   ih (by assumption) (by assumption) (by assumption) h
def f323  (f : Nat) (a0 : Nat) (a1 : Nat) (a2 : Int) (a3 : Nat) (a4 : Int) (M : xj_M) : Option (Int × xj_M) := f323_3   f f (a0) (a1) (a2) (a3) (a4) (0) M
theorem k323 {d f : Nat}   {a0 : Nat} {a1 : Nat} {a2 : Int} {a3 : Nat} {a4 : Int} {M : xj_M} {R : Int × xj_M} (ha2 : xin a2) (ha4 : xin a4) (h : f323  f a0 a1 a2 a3 a4 M = some R) : xT (d + 2) 323 [xR_ a0, xR_ a1, xI a2, xR_ a3, xI a4] M (xQi R) := by
  refine xT_m xr_323_e (X := (none, d + 1, none)) rfl (xa_1 (xR_cat _) (xa_1 (xR_cat _) (xa_1 (xI_cat _) (xa_1 (xR_cat _) (xa_1 (xI_cat _) xa_n))))) (by decide) ?_
  unfold f323 at h
  refine xe_iconst (n := 0) (by decide +kernel) rfl ?_
  refine xe_isr (ins := .istore 5) (len := 2) (i := 5) (by decide +kernel) rfl rfl rfl (by decide) (xk_k (show ¬ (0 : Nat) = 5 by decide) (Or.inl (show ¬ (0 + 1 : Nat) = 5 by decide)) (xk_k (show ¬ (1 : Nat) = 5 by decide) (Or.inl (show ¬ (1 + 1 : Nat) = 5 by decide)) (xk_k (show ¬ (2 : Nat) = 5 by decide) (Or.inl (show ¬ (2 + 1 : Nat) = 5 by decide)) (xk_k (show ¬ (3 : Nat) = 5 by decide) (Or.inl (show ¬ (3 + 1 : Nat) = 5 by decide)) (xk_k (show ¬ (4 : Nat) = 5 by decide) (Or.inr (xI_cat _)) xk_n))))) rfl ?_
  refine xW_lv rfl (l := [(0, xR_ (a0)), (1, xR_ (a1)), (2, xI (a2)), (3, xR_ (a3)), (4, xI (a4)), (5, xI (0))]) (xsb_of ⟨rfl, rfl, rfl, rfl, rfl, rfl, trivial⟩ (show [5, 0, 1, 2, 3, 4].Nodup by decide)) ?_
  exact k323_3   ha2 ha4 (show xin (0) by decide) h
-- ChangeHouseModel.isSame
def xr_324 : xj_mR := (15, yX15_isSame, cX15_isSame, 5, (Option.some Jvm.ClassFile.FieldType.boolean), 4, false, (11, 9), (1, 12))
set_option maxRecDepth 20000 in
theorem xr_324_e : xj_row 324 = some xr_324 := rfl
def f324_57   (f : Nat) (y0 : Int) (M : xj_M) : Option (Int × xj_M) := (if (y0) = 0 ∨ (y0) = 1 then some (y0, M) else none)
theorem k324_57 {d f : Nat}     {y0 : Int} {M : xj_M} {R : Int × xj_M} (hy0 : xin y0) (h : f324_57   f y0 M = some R) : xW (d + 1) (none, d + 1, none) xr_324 (57, [], [xI y0], M) (xQi R) := by
  unfold f324_57 at h
  by_cases c101 : (y0) = 0 ∨ (y0) = 1
  · rw [if_pos c101] at h; cases h; exact xe_ret_i (ty := .boolean) (by decide +kernel) rfl (xbool c101) ⟨rfl, rfl, hy0⟩
  · rw [if_neg c101] at h; cases h
def f324_11   (f : Nat) (x2 : Int) (x4 : Int) (M : xj_M) : Option (Int × xj_M) := (if ¬ (x2) = (x4) then f324_57   f (0) M else f324_57   f (1) M)
theorem k324_11 {d f : Nat}     {x2 : Int} {x4 : Int} {M : xj_M} {R : Int × xj_M} (hx2 : xin x2) (hx4 : xin x4) (h : f324_11   f x2 x4 M = some R) : xW (d + 1) (none, d + 1, none) xr_324 (11, [(2, xI x2), (4, xI x4)], [], M) (xQi R) := by
  unfold f324_11 at h
  refine xe_ldn (ins := .iload_n 2) (len := 1) (by decide +kernel) rfl rfl rfl rfl ?_
  refine xe_ldn (ins := .iload 4) (len := 2) (by decide +kernel) rfl rfl rfl rfl ?_
  refine xe_icmpne (off := 7) (t := 21) (by decide +kernel) (by decide) rfl hx2 hx4 (fun c102 => ?_) (fun c102 => ?_)
  · rw [if_pos c102] at h
    refine xe_iconst (n := 0) (by decide +kernel) rfl ?_
    refine xe_goto (off := 35) (nx := 57) (by decide +kernel) (by decide) ?_
    refine xW_lv rfl (l := []) (xsb_of trivial (show [2, 4].Nodup by decide)) ?_
    exact k324_57   (show xin (0) by decide) h
  · rw [if_neg c102] at h
    refine xe_iconst (n := 1) (by decide +kernel) rfl ?_
    refine xe_goto (off := 39) (nx := 57) (by decide +kernel) (by decide) ?_
    refine xW_lv rfl (l := []) (xsb_of trivial (show [2, 4].Nodup by decide)) ?_
    exact k324_57   (show xin (1) by decide) h
def f324  (f : Nat) (a0 : Nat) (a1 : Nat) (a2 : Int) (a3 : Nat) (a4 : Int) (M : xj_M) : Option (Int × xj_M) := (if (a2) = (-1) then f324_11   f (a2) (a4) M else (if ¬ (a4) = (-1) then ((xq_gr 12 1 (a1) M).bind fun v105 => ((xq_gr 12 1 (a3) M).bind fun v107 => ((xq_gr 12 2 (a1) M).bind fun v109 => ((xq_ai 3 (v109) (a2) M).bind fun v111 => ((f262  f (v105) (xwr ((4) * (a2))) (v107) (xwr ((4) * (a4))) (v111) M).bind fun R114 => (if ¬ (R114.1) = 0 then f324_57   f (0) R114.2 else f324_57   f (1) R114.2)))))) else f324_11   f (a2) (a4) M))
theorem k324 {d f : Nat}   {a0 : Nat} {a1 : Nat} {a2 : Int} {a3 : Nat} {a4 : Int} {M : xj_M} {R : Int × xj_M} (ha2 : xin a2) (ha4 : xin a4) (h : f324  f a0 a1 a2 a3 a4 M = some R) : xT (d + 2) 324 [xR_ a0, xR_ a1, xI a2, xR_ a3, xI a4] M (xQi R) := by
  refine xT_m xr_324_e (X := (none, d + 1, none)) rfl (xa_1 (xR_cat _) (xa_1 (xR_cat _) (xa_1 (xI_cat _) (xa_1 (xR_cat _) (xa_1 (xI_cat _) xa_n))))) (by decide) ?_
  unfold f324 at h
  refine xe_ldn (ins := .iload_n 2) (len := 1) (by decide +kernel) rfl rfl rfl rfl ?_
  refine xe_iconst (n := -1) (by decide +kernel) rfl ?_
  refine xe_icmpeq (off := 9) (t := 11) (by decide +kernel) (by decide) rfl ha2 (show xin (-1) by decide) (fun c103 => ?_) (fun c103 => ?_)
  · rw [if_pos c103] at h
    refine xW_lv rfl (l := [(2, xI (a2)), (4, xI (a4))]) (xsb_of ⟨rfl, rfl, trivial⟩ (show [0, 1, 2, 3, 4].Nodup by decide)) ?_
    exact k324_11   ha2 ha4 h
  · rw [if_neg c103] at h
    refine xe_ldn (ins := .iload 4) (len := 2) (by decide +kernel) rfl rfl rfl rfl ?_
    refine xe_iconst (n := -1) (by decide +kernel) rfl ?_
    refine xe_icmpne (off := 17) (t := 25) (by decide +kernel) (by decide) rfl ha4 (show xin (-1) by decide) (fun c104 => ?_) (fun c104 => ?_)
    · rw [if_pos c104] at h
      refine xe_alr (ins := .aload_n 1) (len := 1) (i := 1) (by decide +kernel) rfl rfl rfl rfl rfl ?_
      obtain ⟨v105, e106, h⟩ := xbnd h
      refine xs_gr (i := 696) (c := 12) (k := 1) (by decide +kernel) (by decide) (by decide +kernel) e106 rfl ?_
      refine xe_iconst (n := 4) (by decide +kernel) rfl ?_
      refine xe_ldn (ins := .iload_n 2) (len := 1) (by decide +kernel) rfl rfl rfl rfl ?_
      refine xe_imul (by decide +kernel) rfl ?_
      refine xe_alr (ins := .aload_n 3) (len := 1) (i := 3) (by decide +kernel) rfl rfl rfl rfl rfl ?_
      obtain ⟨v107, e108, h⟩ := xbnd h
      refine xs_gr (i := 696) (c := 12) (k := 1) (by decide +kernel) (by decide) (by decide +kernel) e108 rfl ?_
      refine xe_iconst (n := 4) (by decide +kernel) rfl ?_
      refine xe_ldn (ins := .iload 4) (len := 2) (by decide +kernel) rfl rfl rfl rfl ?_
      refine xe_imul (by decide +kernel) rfl ?_
      refine xe_alr (ins := .aload_n 1) (len := 1) (i := 1) (by decide +kernel) rfl rfl rfl rfl rfl ?_
      obtain ⟨v109, e110, h⟩ := xbnd h
      refine xs_gr (i := 695) (c := 12) (k := 2) (by decide +kernel) (by decide) (by decide +kernel) e110 rfl ?_
      refine xe_ldn (ins := .iload_n 2) (len := 1) (by decide +kernel) rfl rfl rfl rfl ?_
      obtain ⟨v111, e112, h⟩ := xbnd h
      refine xs_iald rfl (by decide +kernel) ha2 e112 rfl ?_
      obtain ⟨R114, e113, h⟩ := xbnd h
      refine xs_cs (kd := 2) (by decide) (i := 442) (j := 262) (ar := [xI (v111), xI (xwr ((4) * (a4))), xR_ (v107), xI (xwr ((4) * (a2))), xR_ (v105)]) (rest := []) (r2 := xr_262) (by decide +kernel) (by decide +kernel) (by decide +kernel) xr_262_e rfl (by decide) ?_
      refine xc_i (k262 (d := d + 0)  (xin_wr _) (xin_wr _) (xq_ai_in e112) e113) rfl (fun hi115 => ?_)
      refine xe_ifne (off := 7) (t := 56) (by decide +kernel) (by decide) rfl hi115 (fun c116 => ?_) (fun c116 => ?_)
      · rw [if_pos c116] at h
        refine xe_iconst (n := 0) (by decide +kernel) rfl ?_
        refine xW_lv rfl (l := []) (xsb_of trivial (show [0, 1, 2, 3, 4].Nodup by decide)) ?_
        exact k324_57   (show xin (0) by decide) h
      · rw [if_neg c116] at h
        refine xe_iconst (n := 1) (by decide +kernel) rfl ?_
        refine xe_goto (off := 4) (nx := 57) (by decide +kernel) (by decide) ?_
        refine xW_lv rfl (l := []) (xsb_of trivial (show [0, 1, 2, 3, 4].Nodup by decide)) ?_
        exact k324_57   (show xin (1) by decide) h
    · rw [if_neg c104] at h
      refine xW_lv rfl (l := [(2, xI (a2)), (4, xI (a4))]) (xsb_of ⟨rfl, rfl, trivial⟩ (show [0, 1, 2, 3, 4].Nodup by decide)) ?_
      exact k324_11   ha2 ha4 h
-- ChangeHouseModel.meets
def xr_325 : xj_mR := (15, yX15_meets, cX15_meets, 9, (Option.some Jvm.ClassFile.FieldType.boolean), 5, false, (11, 5), (1, 12))
set_option maxRecDepth 20000 in
theorem xr_325_e : xj_row 325 = some xr_325 := rfl
def f325_107   (f : Nat) (y0 : Int) (M : xj_M) : Option (Int × xj_M) := (if (y0) = 0 ∨ (y0) = 1 then some (y0, M) else none)
theorem k325_107 {d f : Nat}     {y0 : Int} {M : xj_M} {R : Int × xj_M} (hy0 : xin y0) (h : f325_107   f y0 M = some R) : xW (d + 2) (none, d + 2, none) xr_325 (107, [], [xI y0], M) (xQi R) := by
  unfold f325_107 at h
  by_cases c101 : (y0) = 0 ∨ (y0) = 1
  · rw [if_pos c101] at h; cases h; exact xe_ret_i (ty := .boolean) (by decide +kernel) rfl (xbool c101) ⟨rfl, rfl, hy0⟩
  · rw [if_neg c101] at h; cases h
def f325_106   (f : Nat)  (M : xj_M) : Option (Int × xj_M) := f325_107   f (0) M
theorem k325_106 {d f : Nat}      {M : xj_M} {R : Int × xj_M}  (h : f325_106   f  M = some R) : xW (d + 2) (none, d + 2, none) xr_325 (106, [], [], M) (xQi R) := by
  unfold f325_106 at h
  refine xe_iconst (n := 0) (by decide +kernel) rfl ?_
  refine xW_lv rfl (l := []) (xsb_of trivial (show [].Nodup by decide)) ?_
  exact k325_107   (show xin (0) by decide) h
def f325  (f : Nat) (a0 : Nat) (a1 : Nat) (a2 : Nat) (a3 : Int) (a4 : Nat) (a5 : Int) (M : xj_M) : Option (Int × xj_M) := ((xq_gr 13 0 (a1) M).bind fun v102 => ((xq_is 15 (a0) M).bind fun _ => ((f323  f (a0) (v102) (a3) (a4) (a5) M).bind fun R106 => ((xq_gr 13 0 (a2) R106.2).bind fun v108 => ((xq_is 15 (a0) R106.2).bind fun _ => ((f323  f (a0) (v108) (a3) (a4) (a5) R106.2).bind fun R112 => ((xq_gr 15 80 (a0) R112.2).bind fun v114 => ((xq_is 15 (a0) R112.2).bind fun _ => ((f323  f (a0) (v114) (a3) (a4) (a5) R112.2).bind fun R118 => ((xq_gr 13 0 (a1) R118.2).bind fun v120 => ((xq_gr 15 80 (a0) R118.2).bind fun v122 => ((xq_is 15 (a0) R118.2).bind fun _ => ((f324  f (a0) (v120) (R106.1) (v122) (R118.1) R118.2).bind fun R126 => (if ¬ (R126.1) = 0 then f325_106   f  R126.2 else ((xq_gr 13 0 (a2) R126.2).bind fun v129 => ((xq_gr 15 80 (a0) R126.2).bind fun v131 => ((xq_is 15 (a0) R126.2).bind fun _ => ((f324  f (a0) (v129) (R112.1) (v131) (R118.1) R126.2).bind fun R135 => (if ¬ (R135.1) = 0 then f325_106   f  R135.2 else ((xq_gr 13 0 (a1) R135.2).bind fun v138 => ((xq_gr 13 0 (a2) R135.2).bind fun v140 => ((xq_is 15 (a0) R135.2).bind fun _ => ((f324  f (a0) (v138) (R106.1) (v140) (R112.1) R135.2).bind fun R144 => (if ¬ (R144.1) = 0 then f325_106   f  R144.2 else f325_107   f (1) R144.2))))))))))))))))))))))))
theorem k325 {d f : Nat}   {a0 : Nat} {a1 : Nat} {a2 : Nat} {a3 : Int} {a4 : Nat} {a5 : Int} {M : xj_M} {R : Int × xj_M} (ha3 : xin a3) (ha5 : xin a5) (h : f325  f a0 a1 a2 a3 a4 a5 M = some R) : xT (d + 3) 325 [xR_ a0, xR_ a1, xR_ a2, xI a3, xR_ a4, xI a5] M (xQi R) := by
  refine xT_m xr_325_e (X := (none, d + 2, none)) rfl (xa_1 (xR_cat _) (xa_1 (xR_cat _) (xa_1 (xR_cat _) (xa_1 (xI_cat _) (xa_1 (xR_cat _) (xa_1 (xI_cat _) xa_n)))))) (by decide) ?_
  unfold f325 at h
  refine xe_alr (ins := .aload_n 0) (len := 1) (i := 0) (by decide +kernel) rfl rfl rfl rfl rfl ?_
  refine xe_alr (ins := .aload_n 1) (len := 1) (i := 1) (by decide +kernel) rfl rfl rfl rfl rfl ?_
  obtain ⟨v102, e103, h⟩ := xbnd h
  refine xs_gr (i := 679) (c := 13) (k := 0) (by decide +kernel) (by decide) (by decide +kernel) e103 rfl ?_
  refine xe_ldn (ins := .iload_n 3) (len := 1) (by decide +kernel) rfl rfl rfl rfl ?_
  refine xe_alr (ins := .aload 4) (len := 2) (i := 4) (by decide +kernel) rfl rfl rfl rfl rfl ?_
  refine xe_ldn (ins := .iload 5) (len := 2) (by decide +kernel) rfl rfl rfl rfl ?_
  obtain ⟨_, e105, h⟩ := xbnd h
  obtain ⟨R106, e104, h⟩ := xbnd h
  refine xs_cv (i := 906) (j := 323) (ar := [xI (a5), xR_ (a4), xI (a3), xR_ (v102)]) (rest := []) (r2 := xr_323) (by decide +kernel) (by decide +kernel) (by decide +kernel) xr_323_e rfl (by decide) (by decide) e105 ?_
  refine xc_i (k323 (d := d + 0)  ha3 ha5 e104) rfl (fun hi107 => ?_)
  refine xe_isr (ins := .istore 6) (len := 2) (i := 6) (by decide +kernel) rfl rfl rfl (by decide) (xk_k (show ¬ (0 : Nat) = 6 by decide) (Or.inl (show ¬ (0 + 1 : Nat) = 6 by decide)) (xk_k (show ¬ (1 : Nat) = 6 by decide) (Or.inl (show ¬ (1 + 1 : Nat) = 6 by decide)) (xk_k (show ¬ (2 : Nat) = 6 by decide) (Or.inl (show ¬ (2 + 1 : Nat) = 6 by decide)) (xk_k (show ¬ (3 : Nat) = 6 by decide) (Or.inl (show ¬ (3 + 1 : Nat) = 6 by decide)) (xk_k (show ¬ (4 : Nat) = 6 by decide) (Or.inl (show ¬ (4 + 1 : Nat) = 6 by decide)) (xk_k (show ¬ (5 : Nat) = 6 by decide) (Or.inr (xI_cat _)) xk_n)))))) rfl ?_
  refine xe_alr (ins := .aload_n 0) (len := 1) (i := 0) (by decide +kernel) rfl rfl rfl rfl rfl ?_
  refine xe_alr (ins := .aload_n 2) (len := 1) (i := 2) (by decide +kernel) rfl rfl rfl rfl rfl ?_
  obtain ⟨v108, e109, h⟩ := xbnd h
  refine xs_gr (i := 679) (c := 13) (k := 0) (by decide +kernel) (by decide) (by decide +kernel) e109 rfl ?_
  refine xe_ldn (ins := .iload_n 3) (len := 1) (by decide +kernel) rfl rfl rfl rfl ?_
  refine xe_alr (ins := .aload 4) (len := 2) (i := 4) (by decide +kernel) rfl rfl rfl rfl rfl ?_
  refine xe_ldn (ins := .iload 5) (len := 2) (by decide +kernel) rfl rfl rfl rfl ?_
  obtain ⟨_, e111, h⟩ := xbnd h
  obtain ⟨R112, e110, h⟩ := xbnd h
  refine xs_cv (i := 906) (j := 323) (ar := [xI (a5), xR_ (a4), xI (a3), xR_ (v108)]) (rest := []) (r2 := xr_323) (by decide +kernel) (by decide +kernel) (by decide +kernel) xr_323_e rfl (by decide) (by decide) e111 ?_
  refine xc_i (k323 (d := d + 0)  ha3 ha5 e110) rfl (fun hi113 => ?_)
  refine xe_isr (ins := .istore 7) (len := 2) (i := 7) (by decide +kernel) rfl rfl rfl (by decide) (xk_k (show ¬ (6 : Nat) = 7 by decide) (Or.inr (xI_cat _)) (xk_k (show ¬ (0 : Nat) = 7 by decide) (Or.inl (show ¬ (0 + 1 : Nat) = 7 by decide)) (xk_k (show ¬ (1 : Nat) = 7 by decide) (Or.inl (show ¬ (1 + 1 : Nat) = 7 by decide)) (xk_k (show ¬ (2 : Nat) = 7 by decide) (Or.inl (show ¬ (2 + 1 : Nat) = 7 by decide)) (xk_k (show ¬ (3 : Nat) = 7 by decide) (Or.inl (show ¬ (3 + 1 : Nat) = 7 by decide)) (xk_k (show ¬ (4 : Nat) = 7 by decide) (Or.inl (show ¬ (4 + 1 : Nat) = 7 by decide)) (xk_k (show ¬ (5 : Nat) = 7 by decide) (Or.inl (show ¬ (5 + 1 : Nat) = 7 by decide)) xk_n))))))) rfl ?_
  refine xe_alr (ins := .aload_n 0) (len := 1) (i := 0) (by decide +kernel) rfl rfl rfl rfl rfl ?_
  refine xe_alr (ins := .aload_n 0) (len := 1) (i := 0) (by decide +kernel) rfl rfl rfl rfl rfl ?_
  obtain ⟨v114, e115, h⟩ := xbnd h
  refine xs_gr (i := 858) (c := 15) (k := 80) (by decide +kernel) (by decide) (by decide +kernel) e115 rfl ?_
  refine xe_ldn (ins := .iload_n 3) (len := 1) (by decide +kernel) rfl rfl rfl rfl ?_
  refine xe_alr (ins := .aload 4) (len := 2) (i := 4) (by decide +kernel) rfl rfl rfl rfl rfl ?_
  refine xe_ldn (ins := .iload 5) (len := 2) (by decide +kernel) rfl rfl rfl rfl ?_
  obtain ⟨_, e117, h⟩ := xbnd h
  obtain ⟨R118, e116, h⟩ := xbnd h
  refine xs_cv (i := 906) (j := 323) (ar := [xI (a5), xR_ (a4), xI (a3), xR_ (v114)]) (rest := []) (r2 := xr_323) (by decide +kernel) (by decide +kernel) (by decide +kernel) xr_323_e rfl (by decide) (by decide) e117 ?_
  refine xc_i (k323 (d := d + 0)  ha3 ha5 e116) rfl (fun hi119 => ?_)
  refine xe_isr (ins := .istore 8) (len := 2) (i := 8) (by decide +kernel) rfl rfl rfl (by decide) (xk_k (show ¬ (7 : Nat) = 8 by decide) (Or.inr (xI_cat _)) (xk_k (show ¬ (6 : Nat) = 8 by decide) (Or.inl (show ¬ (6 + 1 : Nat) = 8 by decide)) (xk_k (show ¬ (0 : Nat) = 8 by decide) (Or.inl (show ¬ (0 + 1 : Nat) = 8 by decide)) (xk_k (show ¬ (1 : Nat) = 8 by decide) (Or.inl (show ¬ (1 + 1 : Nat) = 8 by decide)) (xk_k (show ¬ (2 : Nat) = 8 by decide) (Or.inl (show ¬ (2 + 1 : Nat) = 8 by decide)) (xk_k (show ¬ (3 : Nat) = 8 by decide) (Or.inl (show ¬ (3 + 1 : Nat) = 8 by decide)) (xk_k (show ¬ (4 : Nat) = 8 by decide) (Or.inl (show ¬ (4 + 1 : Nat) = 8 by decide)) (xk_k (show ¬ (5 : Nat) = 8 by decide) (Or.inl (show ¬ (5 + 1 : Nat) = 8 by decide)) xk_n)))))))) rfl ?_
  refine xe_alr (ins := .aload_n 0) (len := 1) (i := 0) (by decide +kernel) rfl rfl rfl rfl rfl ?_
  refine xe_alr (ins := .aload_n 1) (len := 1) (i := 1) (by decide +kernel) rfl rfl rfl rfl rfl ?_
  obtain ⟨v120, e121, h⟩ := xbnd h
  refine xs_gr (i := 679) (c := 13) (k := 0) (by decide +kernel) (by decide) (by decide +kernel) e121 rfl ?_
  refine xe_ldn (ins := .iload 6) (len := 2) (by decide +kernel) rfl rfl rfl rfl ?_
  refine xe_alr (ins := .aload_n 0) (len := 1) (i := 0) (by decide +kernel) rfl rfl rfl rfl rfl ?_
  obtain ⟨v122, e123, h⟩ := xbnd h
  refine xs_gr (i := 858) (c := 15) (k := 80) (by decide +kernel) (by decide) (by decide +kernel) e123 rfl ?_
  refine xe_ldn (ins := .iload 8) (len := 2) (by decide +kernel) rfl rfl rfl rfl ?_
  obtain ⟨_, e125, h⟩ := xbnd h
  obtain ⟨R126, e124, h⟩ := xbnd h
  refine xs_cv (i := 910) (j := 324) (ar := [xI (R118.1), xR_ (v122), xI (R106.1), xR_ (v120)]) (rest := []) (r2 := xr_324) (by decide +kernel) (by decide +kernel) (by decide +kernel) xr_324_e rfl (by decide) (by decide) e125 ?_
  refine xc_i (k324 (d := d + 0)  hi107 hi119 e124) rfl (fun hi127 => ?_)
  refine xe_ifne (off := 45) (t := 106) (by decide +kernel) (by decide) rfl hi127 (fun c128 => ?_) (fun c128 => ?_)
  · rw [if_pos c128] at h
    refine xW_lv rfl (l := []) (xsb_of trivial (show [8, 7, 6, 0, 1, 2, 3, 4, 5].Nodup by decide)) ?_
    exact k325_106    h
  · rw [if_neg c128] at h
    refine xe_alr (ins := .aload_n 0) (len := 1) (i := 0) (by decide +kernel) rfl rfl rfl rfl rfl ?_
    refine xe_alr (ins := .aload_n 2) (len := 1) (i := 2) (by decide +kernel) rfl rfl rfl rfl rfl ?_
    obtain ⟨v129, e130, h⟩ := xbnd h
    refine xs_gr (i := 679) (c := 13) (k := 0) (by decide +kernel) (by decide) (by decide +kernel) e130 rfl ?_
    refine xe_ldn (ins := .iload 7) (len := 2) (by decide +kernel) rfl rfl rfl rfl ?_
    refine xe_alr (ins := .aload_n 0) (len := 1) (i := 0) (by decide +kernel) rfl rfl rfl rfl rfl ?_
    obtain ⟨v131, e132, h⟩ := xbnd h
    refine xs_gr (i := 858) (c := 15) (k := 80) (by decide +kernel) (by decide) (by decide +kernel) e132 rfl ?_
    refine xe_ldn (ins := .iload 8) (len := 2) (by decide +kernel) rfl rfl rfl rfl ?_
    obtain ⟨_, e134, h⟩ := xbnd h
    obtain ⟨R135, e133, h⟩ := xbnd h
    refine xs_cv (i := 910) (j := 324) (ar := [xI (R118.1), xR_ (v131), xI (R112.1), xR_ (v129)]) (rest := []) (r2 := xr_324) (by decide +kernel) (by decide +kernel) (by decide +kernel) xr_324_e rfl (by decide) (by decide) e134 ?_
    refine xc_i (k324 (d := d + 0)  hi113 hi119 e133) rfl (fun hi136 => ?_)
    refine xe_ifne (off := 26) (t := 106) (by decide +kernel) (by decide) rfl hi136 (fun c137 => ?_) (fun c137 => ?_)
    · rw [if_pos c137] at h
      refine xW_lv rfl (l := []) (xsb_of trivial (show [8, 7, 6, 0, 1, 2, 3, 4, 5].Nodup by decide)) ?_
      exact k325_106    h
    · rw [if_neg c137] at h
      refine xe_alr (ins := .aload_n 0) (len := 1) (i := 0) (by decide +kernel) rfl rfl rfl rfl rfl ?_
      refine xe_alr (ins := .aload_n 1) (len := 1) (i := 1) (by decide +kernel) rfl rfl rfl rfl rfl ?_
      obtain ⟨v138, e139, h⟩ := xbnd h
      refine xs_gr (i := 679) (c := 13) (k := 0) (by decide +kernel) (by decide) (by decide +kernel) e139 rfl ?_
      refine xe_ldn (ins := .iload 6) (len := 2) (by decide +kernel) rfl rfl rfl rfl ?_
      refine xe_alr (ins := .aload_n 2) (len := 1) (i := 2) (by decide +kernel) rfl rfl rfl rfl rfl ?_
      obtain ⟨v140, e141, h⟩ := xbnd h
      refine xs_gr (i := 679) (c := 13) (k := 0) (by decide +kernel) (by decide) (by decide +kernel) e141 rfl ?_
      refine xe_ldn (ins := .iload 7) (len := 2) (by decide +kernel) rfl rfl rfl rfl ?_
      obtain ⟨_, e143, h⟩ := xbnd h
      obtain ⟨R144, e142, h⟩ := xbnd h
      refine xs_cv (i := 910) (j := 324) (ar := [xI (R112.1), xR_ (v140), xI (R106.1), xR_ (v138)]) (rest := []) (r2 := xr_324) (by decide +kernel) (by decide +kernel) (by decide +kernel) xr_324_e rfl (by decide) (by decide) e143 ?_
      refine xc_i (k324 (d := d + 0)  hi107 hi113 e142) rfl (fun hi145 => ?_)
      refine xe_ifne (off := 7) (t := 106) (by decide +kernel) (by decide) rfl hi145 (fun c146 => ?_) (fun c146 => ?_)
      · rw [if_pos c146] at h
        refine xW_lv rfl (l := []) (xsb_of trivial (show [8, 7, 6, 0, 1, 2, 3, 4, 5].Nodup by decide)) ?_
        exact k325_106    h
      · rw [if_neg c146] at h
        refine xe_iconst (n := 1) (by decide +kernel) rfl ?_
        refine xe_goto (off := 4) (nx := 107) (by decide +kernel) (by decide) ?_
        refine xW_lv rfl (l := []) (xsb_of trivial (show [8, 7, 6, 0, 1, 2, 3, 4, 5].Nodup by decide)) ?_
        exact k325_107   (show xin (1) by decide) h
