/-! Mirrors (written by mk_mir.py) -/
-- ChangeHouse$Sheet.findRings
def xr_100 : xj_mR := (7, yX7_findRings, cX7_findRings, 4, (Option.none : Option Jvm.ClassFile.FieldType), 0, false, (7, 67), (1, 7))
set_option maxRecDepth 20000 in
theorem xr_100_e : xj_row 100 = some xr_100 := rfl
def f100_53  (r2 : Nat → Int → xj_M → Option (xj_M)) (f : Nat) (x0 : Nat) (x1 : Int) (y0 : Int) (y1 : Int) (y2 : Nat) (M : xj_M) : Option (xj_M) := ((xq_sl (y2) (y1) (y0) M).bind fun M101 => r2 (x0) (xwr ((x1) + (1))) M101)
theorem k100_53 {d f : Nat}  {r2 : Nat → Int → xj_M → Option (xj_M)}  (hr2 : ∀ {x0 : Nat} {x1 : Int} {M : xj_M} {R : xj_M}, xin x1 → r2 x0 x1 M = some R → xW (d + 1) (none, d + 1, none) xr_100 (2, [(0, xR_ x0), (1, xI x1)], [], M) (xQv R)) {x0 : Nat} {x1 : Int} {y0 : Int} {y1 : Int} {y2 : Nat} {M : xj_M} {R : xj_M} (hx1 : xin x1) (hy0 : xiN y0) (hy1 : xin y1) (h : f100_53  r2 f x0 x1 y0 y1 y2 M = some R) : xW (d + 1) (none, d + 1, none) xr_100 (53, [(0, xR_ x0), (1, xI x1)], [xZ y0, xI y1, xR_ y2], M) (xQv R) := by
  unfold f100_53 at h
  obtain ⟨M101, e102, h⟩ := xbnd h
  refine xs_last (by decide +kernel) hy1 e102 rfl ?_
  refine xe_iincr (i := 1) (n := 1) (by decide +kernel) (by decide) rfl (xk_k (show ¬ (0 : Nat) = 1 by decide) (Or.inr (xR_cat _)) (xk_d rfl xk_n)) rfl ?_
  refine xe_goto (off := -55) (nx := 2) (by decide +kernel) (by decide) ?_
  refine xW_lv rfl (l := [(0, xR_ (x0)), (1, xI (xwr ((x1) + (1))))]) (xsb_of ⟨rfl, rfl, trivial⟩ (show [1, 0].Nodup by decide)) ?_
  exact hr2 (xin_wr _) h
def f100_35  (r2 : Nat → Int → xj_M → Option (xj_M)) (f : Nat) (x0 : Nat) (x1 : Int) (x2 : Nat) (y0 : Int) (y1 : Int) (y2 : Nat) (M : xj_M) : Option (xj_M) := ((xq_sl (y2) (y1) (y0) M).bind fun M103 => ((xq_gr 7 3 (x0) M103).bind fun v105 => (if (x2) = 0 then f100_53  r2 f (x0) (x1) (0) (x1) (v105) M103 else ((xq_gl 0 3 (x2) M103).bind fun v108 => f100_53  r2 f (x0) (x1) (v108) (x1) (v105) M103))))
theorem k100_35 {d f : Nat}  {r2 : Nat → Int → xj_M → Option (xj_M)}  (hr2 : ∀ {x0 : Nat} {x1 : Int} {M : xj_M} {R : xj_M}, xin x1 → r2 x0 x1 M = some R → xW (d + 1) (none, d + 1, none) xr_100 (2, [(0, xR_ x0), (1, xI x1)], [], M) (xQv R)) {x0 : Nat} {x1 : Int} {x2 : Nat} {y0 : Int} {y1 : Int} {y2 : Nat} {M : xj_M} {R : xj_M} (hx1 : xin x1) (hy0 : xiN y0) (hy1 : xin y1) (h : f100_35  r2 f x0 x1 x2 y0 y1 y2 M = some R) : xW (d + 1) (none, d + 1, none) xr_100 (35, [(0, xR_ x0), (1, xI x1), (2, xR_ x2)], [xZ y0, xI y1, xR_ y2], M) (xQv R) := by
  unfold f100_35 at h
  obtain ⟨M103, e104, h⟩ := xbnd h
  refine xs_last (by decide +kernel) hy1 e104 rfl ?_
  refine xe_alr (ins := .aload_n 0) (len := 1) (i := 0) (by decide +kernel) rfl rfl rfl rfl rfl ?_
  obtain ⟨v105, e106, h⟩ := xbnd h
  refine xs_gr (i := 15) (c := 7) (k := 3) (by decide +kernel) (by decide) (by decide +kernel) e106 rfl ?_
  refine xe_ldn (ins := .iload_n 1) (len := 1) (by decide +kernel) rfl rfl rfl rfl ?_
  refine xe_alr (ins := .aload_n 2) (len := 1) (i := 2) (by decide +kernel) rfl rfl rfl rfl rfl ?_
  refine xe_ifnonnull (off := 7) (t := 49) (by decide +kernel) (by decide) rfl (fun c107 => ?_) (fun c107 => ?_)
  · rw [if_neg c107] at h
    refine xe_alr (ins := .aload_n 2) (len := 1) (i := 2) (by decide +kernel) rfl rfl rfl rfl rfl ?_
    obtain ⟨v108, e109, h⟩ := xbnd h
    refine xs_gl (i := 72) (c := 0) (k := 3) (by decide +kernel) (by decide) (by decide +kernel) e109 rfl ?_
    refine xW_lv rfl (l := [(0, xR_ (x0)), (1, xI (x1))]) (xsb_of ⟨rfl, rfl, trivial⟩ (show [0, 1, 2].Nodup by decide)) ?_
    exact k100_53  hr2 hx1 (xq_gl_in e109) hx1 h
  · rw [if_pos c107] at h
    refine xe_lconst (n := 0) (z := 0) (by decide +kernel) rfl rfl ?_
    refine xe_goto (off := 7) (nx := 53) (by decide +kernel) (by decide) ?_
    refine xW_lv rfl (l := [(0, xR_ (x0)), (1, xI (x1))]) (xsb_of ⟨rfl, rfl, trivial⟩ (show [0, 1, 2].Nodup by decide)) ?_
    exact k100_53  hr2 hx1 (show xiN (0) by decide) hx1 h
def f100_157  (r62 : Nat → Int → xj_M → Option (xj_M)) (r98 : Nat → Int → Int → Int → xj_M → Option (xj_M)) (f : Nat) (x0 : Nat) (x1 : Int) (x2 : Int) (x3 : Int) (M : xj_M) : Option (xj_M) := r98 (x0) (x1) (x2) (xwr ((x3) + (1))) M
theorem k100_157 {d f : Nat}  {r62 : Nat → Int → xj_M → Option (xj_M)} {r98 : Nat → Int → Int → Int → xj_M → Option (xj_M)}  (hr62 : ∀ {x0 : Nat} {x1 : Int} {M : xj_M} {R : xj_M}, xin x1 → r62 x0 x1 M = some R → xW (d + 1) (none, d + 1, none) xr_100 (62, [(0, xR_ x0), (1, xI x1)], [], M) (xQv R)) (hr98 : ∀ {x0 : Nat} {x1 : Int} {x2 : Int} {x3 : Int} {M : xj_M} {R : xj_M}, xin x1 → xin x2 → xin x3 → r98 x0 x1 x2 x3 M = some R → xW (d + 1) (none, d + 1, none) xr_100 (98, [(0, xR_ x0), (1, xI x1), (2, xI x2), (3, xI x3)], [], M) (xQv R)) {x0 : Nat} {x1 : Int} {x2 : Int} {x3 : Int} {M : xj_M} {R : xj_M} (hx1 : xin x1) (hx2 : xin x2) (hx3 : xin x3) (h : f100_157  r62 r98 f x0 x1 x2 x3 M = some R) : xW (d + 1) (none, d + 1, none) xr_100 (157, [(0, xR_ x0), (1, xI x1), (2, xI x2), (3, xI x3)], [], M) (xQv R) := by
  unfold f100_157 at h
  refine xe_iincr (i := 3) (n := 1) (by decide +kernel) (by decide) rfl (xk_k (show ¬ (0 : Nat) = 3 by decide) (Or.inl (show ¬ (0 + 1 : Nat) = 3 by decide)) (xk_k (show ¬ (1 : Nat) = 3 by decide) (Or.inl (show ¬ (1 + 1 : Nat) = 3 by decide)) (xk_k (show ¬ (2 : Nat) = 3 by decide) (Or.inr (xI_cat _)) (xk_d rfl xk_n)))) rfl ?_
  refine xe_goto (off := -62) (nx := 98) (by decide +kernel) (by decide) ?_
  refine xW_lv rfl (l := [(0, xR_ (x0)), (1, xI (x1)), (2, xI (x2)), (3, xI (xwr ((x3) + (1))))]) (xsb_of ⟨rfl, rfl, rfl, rfl, trivial⟩ (show [3, 0, 1, 2].Nodup by decide)) ?_
  exact hr98 hx1 hx2 (xin_wr _) h
def f100_163  (r62 : Nat → Int → xj_M → Option (xj_M)) (f : Nat) (x0 : Nat) (x1 : Int) (M : xj_M) : Option (xj_M) := r62 (x0) (xwr ((x1) + (1))) M
theorem k100_163 {d f : Nat}  {r62 : Nat → Int → xj_M → Option (xj_M)}  (hr62 : ∀ {x0 : Nat} {x1 : Int} {M : xj_M} {R : xj_M}, xin x1 → r62 x0 x1 M = some R → xW (d + 1) (none, d + 1, none) xr_100 (62, [(0, xR_ x0), (1, xI x1)], [], M) (xQv R)) {x0 : Nat} {x1 : Int} {M : xj_M} {R : xj_M} (hx1 : xin x1) (h : f100_163  r62 f x0 x1 M = some R) : xW (d + 1) (none, d + 1, none) xr_100 (163, [(0, xR_ x0), (1, xI x1)], [], M) (xQv R) := by
  unfold f100_163 at h
  refine xe_iincr (i := 1) (n := 1) (by decide +kernel) (by decide) rfl (xk_k (show ¬ (0 : Nat) = 1 by decide) (Or.inr (xR_cat _)) (xk_d rfl xk_n)) rfl ?_
  refine xe_goto (off := -104) (nx := 62) (by decide +kernel) (by decide) ?_
  refine xW_lv rfl (l := [(0, xR_ (x0)), (1, xI (xwr ((x1) + (1))))]) (xsb_of ⟨rfl, rfl, trivial⟩ (show [1, 0].Nodup by decide)) ?_
  exact hr62 (xin_wr _) h
def f100_98b  (r62 : Nat → Int → xj_M → Option (xj_M)) (r98 : Nat → Int → Int → Int → xj_M → Option (xj_M)) (f : Nat) (x0 : Nat) (x1 : Int) (x2 : Int) (x3 : Int) (M : xj_M) : Option (xj_M) := (if (x2) = 0 then f100_163  r62 f (x0) (x1) M else (if (72) ≤ (x3) then f100_163  r62 f (x0) (x1) M else ((xq_gr 7 2 (x0) M).bind fun v112 => ((xq_al (v112) (x3) M).bind fun v114 => ((xq_gr 7 3 (x0) M).bind fun v116 => ((xq_al (v116) (x3) M).bind fun v118 => ((f101  f (x1) (v114) (v118) M).bind fun R121 => (if (R121.1) = 0 then f100_157  r62 r98 f (x0) (x1) (x2) (x3) R121.2 else ((xq_gr 7 2 (x0) R121.2).bind fun v124 => ((xq_al (v124) (x3) R121.2).bind fun v126 => ((xq_gr 7 2 (x0) R121.2).bind fun v128 => ((xq_al (v128) (x1) R121.2).bind fun v130 => ((xq_sl (v124) (x3) (xor8 (v126) (v130)) R121.2).bind fun M132 => ((xq_gr 7 3 (x0) M132).bind fun v134 => ((xq_al (v134) (x3) M132).bind fun v136 => ((xq_gr 7 3 (x0) M132).bind fun v138 => ((xq_al (v138) (x1) M132).bind fun v140 => ((xq_sl (v134) (x3) (xor8 (v136) (v140)) M132).bind fun M142 => f100_157  r62 r98 f (x0) (x1) (x2) (x3) M142))))))))))))))))))
theorem k100_98b {d f : Nat}  {r62 : Nat → Int → xj_M → Option (xj_M)} {r98 : Nat → Int → Int → Int → xj_M → Option (xj_M)}  (hr62 : ∀ {x0 : Nat} {x1 : Int} {M : xj_M} {R : xj_M}, xin x1 → r62 x0 x1 M = some R → xW (d + 1) (none, d + 1, none) xr_100 (62, [(0, xR_ x0), (1, xI x1)], [], M) (xQv R)) (hr98 : ∀ {x0 : Nat} {x1 : Int} {x2 : Int} {x3 : Int} {M : xj_M} {R : xj_M}, xin x1 → xin x2 → xin x3 → r98 x0 x1 x2 x3 M = some R → xW (d + 1) (none, d + 1, none) xr_100 (98, [(0, xR_ x0), (1, xI x1), (2, xI x2), (3, xI x3)], [], M) (xQv R)) {x0 : Nat} {x1 : Int} {x2 : Int} {x3 : Int} {M : xj_M} {R : xj_M} (hx1 : xin x1) (hx2 : xin x2) (hx3 : xin x3) (h : f100_98b  r62 r98 f x0 x1 x2 x3 M = some R) : xW (d + 1) (none, d + 1, none) xr_100 (98, [(0, xR_ x0), (1, xI x1), (2, xI x2), (3, xI x3)], [], M) (xQv R) := by
  unfold f100_98b at h
  refine xe_ldn (ins := .iload_n 2) (len := 1) (by decide +kernel) rfl rfl rfl rfl ?_
  refine xe_ifeq (off := 64) (t := 163) (by decide +kernel) (by decide) rfl hx2 (fun c110 => ?_) (fun c110 => ?_)
  · rw [if_pos c110] at h
    refine xW_lv rfl (l := [(0, xR_ (x0)), (1, xI (x1))]) (xsb_of ⟨rfl, rfl, trivial⟩ (show [0, 1, 2, 3].Nodup by decide)) ?_
    exact k100_163  hr62 hx1 h
  · rw [if_neg c110] at h
    refine xe_ldn (ins := .iload_n 3) (len := 1) (by decide +kernel) rfl rfl rfl rfl ?_
    refine xe_bipush (n := 72) (by decide +kernel) (by decide) rfl ?_
    refine xe_icmpge (off := 58) (t := 163) (by decide +kernel) (by decide) rfl hx3 (show xin (72) by decide) (fun c111 => ?_) (fun c111 => ?_)
    · rw [if_pos c111] at h
      refine xW_lv rfl (l := [(0, xR_ (x0)), (1, xI (x1))]) (xsb_of ⟨rfl, rfl, trivial⟩ (show [0, 1, 2, 3].Nodup by decide)) ?_
      exact k100_163  hr62 hx1 h
    · rw [if_neg c111] at h
      refine xe_ldn (ins := .iload_n 1) (len := 1) (by decide +kernel) rfl rfl rfl rfl ?_
      refine xe_alr (ins := .aload_n 0) (len := 1) (i := 0) (by decide +kernel) rfl rfl rfl rfl rfl ?_
      obtain ⟨v112, e113, h⟩ := xbnd h
      refine xs_gr (i := 9) (c := 7) (k := 2) (by decide +kernel) (by decide) (by decide +kernel) e113 rfl ?_
      refine xe_ldn (ins := .iload_n 3) (len := 1) (by decide +kernel) rfl rfl rfl rfl ?_
      obtain ⟨v114, e115, h⟩ := xbnd h
      refine xs_lald (by decide +kernel) hx3 e115 rfl ?_
      refine xe_alr (ins := .aload_n 0) (len := 1) (i := 0) (by decide +kernel) rfl rfl rfl rfl rfl ?_
      obtain ⟨v116, e117, h⟩ := xbnd h
      refine xs_gr (i := 15) (c := 7) (k := 3) (by decide +kernel) (by decide) (by decide +kernel) e117 rfl ?_
      refine xe_ldn (ins := .iload_n 3) (len := 1) (by decide +kernel) rfl rfl rfl rfl ?_
      obtain ⟨v118, e119, h⟩ := xbnd h
      refine xs_lald (by decide +kernel) hx3 e119 rfl ?_
      obtain ⟨R121, e120, h⟩ := xbnd h
      refine xs_cs (kd := 2) (by decide) (i := 75) (j := 101) (ar := [xZ (v118), xZ (v114), xI (x1)]) (rest := []) (r2 := xr_101) (by decide +kernel) (by decide +kernel) (by decide +kernel) xr_101_e rfl (by decide) ?_
      refine xc_i (k101 (d := d + 0)  hx1 (xq_al_in e115) (xq_al_in e119) e120) rfl (fun hi122 => ?_)
      refine xe_ifeq (off := 33) (t := 157) (by decide +kernel) (by decide) rfl hi122 (fun c123 => ?_) (fun c123 => ?_)
      · rw [if_pos c123] at h
        refine xW_lv rfl (l := [(0, xR_ (x0)), (1, xI (x1)), (2, xI (x2)), (3, xI (x3))]) (xsb_of ⟨rfl, rfl, rfl, rfl, trivial⟩ (show [0, 1, 2, 3].Nodup by decide)) ?_
        exact k100_157  hr62 hr98 hx1 hx2 hx3 h
      · rw [if_neg c123] at h
        refine xe_alr (ins := .aload_n 0) (len := 1) (i := 0) (by decide +kernel) rfl rfl rfl rfl rfl ?_
        obtain ⟨v124, e125, h⟩ := xbnd h
        refine xs_gr (i := 9) (c := 7) (k := 2) (by decide +kernel) (by decide) (by decide +kernel) e125 rfl ?_
        refine xe_ldn (ins := .iload_n 3) (len := 1) (by decide +kernel) rfl rfl rfl rfl ?_
        refine xe_dup2r (xI_cat _) (xR_cat _) (by decide +kernel) rfl ?_
        obtain ⟨v126, e127, h⟩ := xbnd h
        refine xs_lald (by decide +kernel) hx3 e127 rfl ?_
        refine xe_alr (ins := .aload_n 0) (len := 1) (i := 0) (by decide +kernel) rfl rfl rfl rfl rfl ?_
        obtain ⟨v128, e129, h⟩ := xbnd h
        refine xs_gr (i := 9) (c := 7) (k := 2) (by decide +kernel) (by decide) (by decide +kernel) e129 rfl ?_
        refine xe_ldn (ins := .iload_n 1) (len := 1) (by decide +kernel) rfl rfl rfl rfl ?_
        obtain ⟨v130, e131, h⟩ := xbnd h
        refine xs_lald (by decide +kernel) hx1 e131 rfl ?_
        refine xe_lor (by decide +kernel) rfl ?_
        obtain ⟨M132, e133, h⟩ := xbnd h
        refine xs_last (by decide +kernel) hx3 e133 rfl ?_
        refine xe_alr (ins := .aload_n 0) (len := 1) (i := 0) (by decide +kernel) rfl rfl rfl rfl rfl ?_
        obtain ⟨v134, e135, h⟩ := xbnd h
        refine xs_gr (i := 15) (c := 7) (k := 3) (by decide +kernel) (by decide) (by decide +kernel) e135 rfl ?_
        refine xe_ldn (ins := .iload_n 3) (len := 1) (by decide +kernel) rfl rfl rfl rfl ?_
        refine xe_dup2r (xI_cat _) (xR_cat _) (by decide +kernel) rfl ?_
        obtain ⟨v136, e137, h⟩ := xbnd h
        refine xs_lald (by decide +kernel) hx3 e137 rfl ?_
        refine xe_alr (ins := .aload_n 0) (len := 1) (i := 0) (by decide +kernel) rfl rfl rfl rfl rfl ?_
        obtain ⟨v138, e139, h⟩ := xbnd h
        refine xs_gr (i := 15) (c := 7) (k := 3) (by decide +kernel) (by decide) (by decide +kernel) e139 rfl ?_
        refine xe_ldn (ins := .iload_n 1) (len := 1) (by decide +kernel) rfl rfl rfl rfl ?_
        obtain ⟨v140, e141, h⟩ := xbnd h
        refine xs_lald (by decide +kernel) hx1 e141 rfl ?_
        refine xe_lor (by decide +kernel) rfl ?_
        obtain ⟨M142, e143, h⟩ := xbnd h
        refine xs_last (by decide +kernel) hx3 e143 rfl ?_
        refine xW_lv rfl (l := [(0, xR_ (x0)), (1, xI (x1)), (2, xI (x2)), (3, xI (x3))]) (xsb_of ⟨rfl, rfl, rfl, rfl, trivial⟩ (show [0, 1, 2, 3].Nodup by decide)) ?_
        exact k100_157  hr62 hr98 hx1 hx2 hx3 h
def f100_98  (r62 : Nat → Int → xj_M → Option (xj_M)) (f : Nat) : Nat → Nat → Int → Int → Int → xj_M → Option (xj_M)
  | 0, _, _, _, _, _ => none
  | n + 1, x0, x1, x2, x3, M => f100_98b  r62 (f100_98  r62 f n) f x0 x1 x2 x3 M
theorem k100_98 {d f : Nat}  {r62 : Nat → Int → xj_M → Option (xj_M)}  (hr62 : ∀ {x0 : Nat} {x1 : Int} {M : xj_M} {R : xj_M}, xin x1 → r62 x0 x1 M = some R → xW (d + 1) (none, d + 1, none) xr_100 (62, [(0, xR_ x0), (1, xI x1)], [], M) (xQv R)) : ∀ {n : Nat} {x0 : Nat} {x1 : Int} {x2 : Int} {x3 : Int} {M : xj_M} {R : xj_M}, xin x1 → xin x2 → xin x3 → f100_98  r62 f n x0 x1 x2 x3 M = some R → xW (d + 1) (none, d + 1, none) xr_100 (98, [(0, xR_ x0), (1, xI x1), (2, xI x2), (3, xI x3)], [], M) (xQv R) := by
  intro n
  induction n with
  | zero => intros; rename_i h; cases h
  | succ n ih => intros; rename_i h; exact k100_98b  hr62 ih (by assumption) (by assumption) (by assumption) h
def f100_95  (r62 : Nat → Int → xj_M → Option (xj_M)) (f : Nat) (x0 : Nat) (x1 : Int) (y0 : Int) (M : xj_M) : Option (xj_M) := f100_98  r62 f f (x0) (x1) (y0) (0) M
theorem k100_95 {d f : Nat}  {r62 : Nat → Int → xj_M → Option (xj_M)}  (hr62 : ∀ {x0 : Nat} {x1 : Int} {M : xj_M} {R : xj_M}, xin x1 → r62 x0 x1 M = some R → xW (d + 1) (none, d + 1, none) xr_100 (62, [(0, xR_ x0), (1, xI x1)], [], M) (xQv R)) {x0 : Nat} {x1 : Int} {y0 : Int} {M : xj_M} {R : xj_M} (hx1 : xin x1) (hy0 : xin y0) (h : f100_95  r62 f x0 x1 y0 M = some R) : xW (d + 1) (none, d + 1, none) xr_100 (95, [(0, xR_ x0), (1, xI x1)], [xI y0], M) (xQv R) := by
  unfold f100_95 at h
  refine xe_isr (ins := .istore_n 2) (len := 1) (i := 2) (by decide +kernel) rfl rfl rfl (by decide) (xk_k (show ¬ (0 : Nat) = 2 by decide) (Or.inl (show ¬ (0 + 1 : Nat) = 2 by decide)) (xk_k (show ¬ (1 : Nat) = 2 by decide) (Or.inr (xI_cat _)) xk_n)) rfl ?_
  refine xe_iconst (n := 0) (by decide +kernel) rfl ?_
  refine xe_isr (ins := .istore_n 3) (len := 1) (i := 3) (by decide +kernel) rfl rfl rfl (by decide) (xk_k (show ¬ (2 : Nat) = 3 by decide) (Or.inr (xI_cat _)) (xk_k (show ¬ (0 : Nat) = 3 by decide) (Or.inl (show ¬ (0 + 1 : Nat) = 3 by decide)) (xk_k (show ¬ (1 : Nat) = 3 by decide) (Or.inl (show ¬ (1 + 1 : Nat) = 3 by decide)) xk_n))) rfl ?_
  refine xW_lv rfl (l := [(0, xR_ (x0)), (1, xI (x1)), (2, xI (y0)), (3, xI (0))]) (xsb_of ⟨rfl, rfl, rfl, rfl, trivial⟩ (show [3, 2, 0, 1].Nodup by decide)) ?_
  exact k100_98  hr62 hx1 hy0 (show xin (0) by decide) h
def f100_90  (r62 : Nat → Int → xj_M → Option (xj_M)) (f : Nat) (x0 : Nat) (x1 : Int) (M : xj_M) : Option (xj_M) := f100_95  r62 f (x0) (x1) (1) M
theorem k100_90 {d f : Nat}  {r62 : Nat → Int → xj_M → Option (xj_M)}  (hr62 : ∀ {x0 : Nat} {x1 : Int} {M : xj_M} {R : xj_M}, xin x1 → r62 x0 x1 M = some R → xW (d + 1) (none, d + 1, none) xr_100 (62, [(0, xR_ x0), (1, xI x1)], [], M) (xQv R)) {x0 : Nat} {x1 : Int} {M : xj_M} {R : xj_M} (hx1 : xin x1) (h : f100_90  r62 f x0 x1 M = some R) : xW (d + 1) (none, d + 1, none) xr_100 (90, [(0, xR_ x0), (1, xI x1)], [], M) (xQv R) := by
  unfold f100_90 at h
  refine xe_iconst (n := 1) (by decide +kernel) rfl ?_
  refine xe_goto (off := 4) (nx := 95) (by decide +kernel) (by decide) ?_
  refine xW_lv rfl (l := [(0, xR_ (x0)), (1, xI (x1))]) (xsb_of ⟨rfl, rfl, trivial⟩ (show [0, 1].Nodup by decide)) ?_
  exact k100_95  hr62 hx1 (show xin (1) by decide) h
def f100_62b  (r62 : Nat → Int → xj_M → Option (xj_M)) (f : Nat) (x0 : Nat) (x1 : Int) (M : xj_M) : Option (xj_M) := (if (72) ≤ (x1) then (some M) else ((xq_gr 7 2 (x0) M).bind fun v145 => ((xq_al (v145) (x1) M).bind fun v147 => (if ¬ (v147) = (0) then f100_90  r62 f (x0) (x1) M else ((xq_gr 7 3 (x0) M).bind fun v150 => ((xq_al (v150) (x1) M).bind fun v152 => (if (v152) = (0) then f100_95  r62 f (x0) (x1) (0) M else f100_90  r62 f (x0) (x1) M)))))))
theorem k100_62b {d f : Nat}  {r62 : Nat → Int → xj_M → Option (xj_M)}  (hr62 : ∀ {x0 : Nat} {x1 : Int} {M : xj_M} {R : xj_M}, xin x1 → r62 x0 x1 M = some R → xW (d + 1) (none, d + 1, none) xr_100 (62, [(0, xR_ x0), (1, xI x1)], [], M) (xQv R)) {x0 : Nat} {x1 : Int} {M : xj_M} {R : xj_M} (hx1 : xin x1) (h : f100_62b  r62 f x0 x1 M = some R) : xW (d + 1) (none, d + 1, none) xr_100 (62, [(0, xR_ x0), (1, xI x1)], [], M) (xQv R) := by
  unfold f100_62b at h
  refine xe_ldn (ins := .iload_n 1) (len := 1) (by decide +kernel) rfl rfl rfl rfl ?_
  refine xe_bipush (n := 72) (by decide +kernel) (by decide) rfl ?_
  refine xe_icmpge (off := 104) (t := 169) (by decide +kernel) (by decide) rfl hx1 (show xin (72) by decide) (fun c144 => ?_) (fun c144 => ?_)
  · rw [if_pos c144] at h
    cases h
    exact xe_ret_v (by decide +kernel) rfl ⟨rfl, rfl⟩
  · rw [if_neg c144] at h
    refine xe_alr (ins := .aload_n 0) (len := 1) (i := 0) (by decide +kernel) rfl rfl rfl rfl rfl ?_
    obtain ⟨v145, e146, h⟩ := xbnd h
    refine xs_gr (i := 9) (c := 7) (k := 2) (by decide +kernel) (by decide) (by decide +kernel) e146 rfl ?_
    refine xe_ldn (ins := .iload_n 1) (len := 1) (by decide +kernel) rfl rfl rfl rfl ?_
    obtain ⟨v147, e148, h⟩ := xbnd h
    refine xs_lald (by decide +kernel) hx1 e148 rfl ?_
    refine xe_lconst (n := 0) (z := 0) (by decide +kernel) rfl rfl ?_
    refine xe_lcmp (by decide +kernel) rfl (xq_al_in e148) (show xiN (0) by decide) ?_
    refine xe_ifne (off := 14) (t := 90) (by decide +kernel) (by decide) rfl (xin_cmp8 _ _) (fun c149 => ?_) (fun c149 => ?_)
    · have c149 := xcmp8_ne.mp c149; rw [if_pos c149] at h
      refine xW_lv rfl (l := [(0, xR_ (x0)), (1, xI (x1))]) (xsb_of ⟨rfl, rfl, trivial⟩ (show [0, 1].Nodup by decide)) ?_
      exact k100_90  hr62 hx1 h
    · have c149 := (not_congr xcmp8_ne).mp c149; rw [if_neg c149] at h
      refine xe_alr (ins := .aload_n 0) (len := 1) (i := 0) (by decide +kernel) rfl rfl rfl rfl rfl ?_
      obtain ⟨v150, e151, h⟩ := xbnd h
      refine xs_gr (i := 15) (c := 7) (k := 3) (by decide +kernel) (by decide) (by decide +kernel) e151 rfl ?_
      refine xe_ldn (ins := .iload_n 1) (len := 1) (by decide +kernel) rfl rfl rfl rfl ?_
      obtain ⟨v152, e153, h⟩ := xbnd h
      refine xs_lald (by decide +kernel) hx1 e153 rfl ?_
      refine xe_lconst (n := 0) (z := 0) (by decide +kernel) rfl rfl ?_
      refine xe_lcmp (by decide +kernel) rfl (xq_al_in e153) (show xiN (0) by decide) ?_
      refine xe_ifeq (off := 7) (t := 94) (by decide +kernel) (by decide) rfl (xin_cmp8 _ _) (fun c154 => ?_) (fun c154 => ?_)
      · have c154 := xcmp8_eq.mp c154; rw [if_pos c154] at h
        refine xe_iconst (n := 0) (by decide +kernel) rfl ?_
        refine xW_lv rfl (l := [(0, xR_ (x0)), (1, xI (x1))]) (xsb_of ⟨rfl, rfl, trivial⟩ (show [0, 1].Nodup by decide)) ?_
        exact k100_95  hr62 hx1 (show xin (0) by decide) h
      · have c154 := (not_congr xcmp8_eq).mp c154; rw [if_neg c154] at h
        refine xW_lv rfl (l := [(0, xR_ (x0)), (1, xI (x1))]) (xsb_of ⟨rfl, rfl, trivial⟩ (show [0, 1].Nodup by decide)) ?_
        exact k100_90  hr62 hx1 h
def f100_62   (f : Nat) : Nat → Nat → Int → xj_M → Option (xj_M)
  | 0, _, _, _ => none
  | n + 1, x0, x1, M => f100_62b   (f100_62   f n) f x0 x1 M
theorem k100_62 {d f : Nat}     : ∀ {n : Nat} {x0 : Nat} {x1 : Int} {M : xj_M} {R : xj_M}, xin x1 → f100_62   f n x0 x1 M = some R → xW (d + 1) (none, d + 1, none) xr_100 (62, [(0, xR_ x0), (1, xI x1)], [], M) (xQv R) := by
  intro n
  induction n with
  | zero => intros; rename_i h; cases h
  | succ n ih => intros; rename_i h; exact k100_62b   ih (by assumption) h
def f100_2b  (r2 : Nat → Int → xj_M → Option (xj_M)) (f : Nat) (x0 : Nat) (x1 : Int) (M : xj_M) : Option (xj_M) := (if (72) ≤ (x1) then f100_62   f f (x0) (0) M else ((xq_gr 7 0 (x0) M).bind fun v156 => ((xq_gr 2 2 (v156) M).bind fun v158 => ((xq_ar (v158) (x1) M).bind fun v160 => ((xq_gr 7 2 (x0) M).bind fun v162 => (if (v160) = 0 then f100_35  r2 f (x0) (x1) (v160) (0) (x1) (v162) M else ((xq_gl 0 2 (v160) M).bind fun v165 => f100_35  r2 f (x0) (x1) (v160) (v165) (x1) (v162) M)))))))
theorem k100_2b {d f : Nat}  {r2 : Nat → Int → xj_M → Option (xj_M)}  (hr2 : ∀ {x0 : Nat} {x1 : Int} {M : xj_M} {R : xj_M}, xin x1 → r2 x0 x1 M = some R → xW (d + 1) (none, d + 1, none) xr_100 (2, [(0, xR_ x0), (1, xI x1)], [], M) (xQv R)) {x0 : Nat} {x1 : Int} {M : xj_M} {R : xj_M} (hx1 : xin x1) (h : f100_2b  r2 f x0 x1 M = some R) : xW (d + 1) (none, d + 1, none) xr_100 (2, [(0, xR_ x0), (1, xI x1)], [], M) (xQv R) := by
  unfold f100_2b at h
  refine xe_ldn (ins := .iload_n 1) (len := 1) (by decide +kernel) rfl rfl rfl rfl ?_
  refine xe_bipush (n := 72) (by decide +kernel) (by decide) rfl ?_
  refine xe_icmpge (off := 55) (t := 60) (by decide +kernel) (by decide) rfl hx1 (show xin (72) by decide) (fun c155 => ?_) (fun c155 => ?_)
  · rw [if_pos c155] at h
    refine xe_iconst (n := 0) (by decide +kernel) rfl ?_
    refine xe_isr (ins := .istore_n 1) (len := 1) (i := 1) (by decide +kernel) rfl rfl rfl (by decide) (xk_k (show ¬ (0 : Nat) = 1 by decide) (Or.inr (xR_cat _)) (xk_d rfl xk_n)) rfl ?_
    refine xW_lv rfl (l := [(0, xR_ (x0)), (1, xI (0))]) (xsb_of ⟨rfl, rfl, trivial⟩ (show [1, 0].Nodup by decide)) ?_
    exact k100_62   (show xin (0) by decide) h
  · rw [if_neg c155] at h
    refine xe_alr (ins := .aload_n 0) (len := 1) (i := 0) (by decide +kernel) rfl rfl rfl rfl rfl ?_
    obtain ⟨v156, e157, h⟩ := xbnd h
    refine xs_gr (i := 21) (c := 7) (k := 0) (by decide +kernel) (by decide) (by decide +kernel) e157 rfl ?_
    obtain ⟨v158, e159, h⟩ := xbnd h
    refine xs_gr (i := 25) (c := 2) (k := 2) (by decide +kernel) (by decide) (by decide +kernel) e159 rfl ?_
    refine xe_ldn (ins := .iload_n 1) (len := 1) (by decide +kernel) rfl rfl rfl rfl ?_
    obtain ⟨v160, e161, h⟩ := xbnd h
    refine xs_aald (by decide +kernel) hx1 e161 rfl ?_
    refine xe_asr (ins := .astore_n 2) (len := 1) (i := 2) (by decide +kernel) rfl rfl rfl (by decide) (xk_k (show ¬ (0 : Nat) = 2 by decide) (Or.inl (show ¬ (0 + 1 : Nat) = 2 by decide)) (xk_k (show ¬ (1 : Nat) = 2 by decide) (Or.inr (xI_cat _)) xk_n)) rfl ?_
    refine xe_alr (ins := .aload_n 0) (len := 1) (i := 0) (by decide +kernel) rfl rfl rfl rfl rfl ?_
    obtain ⟨v162, e163, h⟩ := xbnd h
    refine xs_gr (i := 9) (c := 7) (k := 2) (by decide +kernel) (by decide) (by decide +kernel) e163 rfl ?_
    refine xe_ldn (ins := .iload_n 1) (len := 1) (by decide +kernel) rfl rfl rfl rfl ?_
    refine xe_alr (ins := .aload_n 2) (len := 1) (i := 2) (by decide +kernel) rfl rfl rfl rfl rfl ?_
    refine xe_ifnonnull (off := 7) (t := 31) (by decide +kernel) (by decide) rfl (fun c164 => ?_) (fun c164 => ?_)
    · rw [if_neg c164] at h
      refine xe_alr (ins := .aload_n 2) (len := 1) (i := 2) (by decide +kernel) rfl rfl rfl rfl rfl ?_
      obtain ⟨v165, e166, h⟩ := xbnd h
      refine xs_gl (i := 66) (c := 0) (k := 2) (by decide +kernel) (by decide) (by decide +kernel) e166 rfl ?_
      refine xW_lv rfl (l := [(0, xR_ (x0)), (1, xI (x1)), (2, xR_ (v160))]) (xsb_of ⟨rfl, rfl, rfl, trivial⟩ (show [2, 0, 1].Nodup by decide)) ?_
      exact k100_35  hr2 hx1 (xq_gl_in e166) hx1 h
    · rw [if_pos c164] at h
      refine xe_lconst (n := 0) (z := 0) (by decide +kernel) rfl rfl ?_
      refine xe_goto (off := 7) (nx := 35) (by decide +kernel) (by decide) ?_
      refine xW_lv rfl (l := [(0, xR_ (x0)), (1, xI (x1)), (2, xR_ (v160))]) (xsb_of ⟨rfl, rfl, rfl, trivial⟩ (show [2, 0, 1].Nodup by decide)) ?_
      exact k100_35  hr2 hx1 (show xiN (0) by decide) hx1 h
def f100_2   (f : Nat) : Nat → Nat → Int → xj_M → Option (xj_M)
  | 0, _, _, _ => none
  | n + 1, x0, x1, M => f100_2b   (f100_2   f n) f x0 x1 M
theorem k100_2 {d f : Nat}     : ∀ {n : Nat} {x0 : Nat} {x1 : Int} {M : xj_M} {R : xj_M}, xin x1 → f100_2   f n x0 x1 M = some R → xW (d + 1) (none, d + 1, none) xr_100 (2, [(0, xR_ x0), (1, xI x1)], [], M) (xQv R) := by
  intro n
  induction n with
  | zero => intros; rename_i h; cases h
  | succ n ih => intros; rename_i h; exact k100_2b   ih (by assumption) h
def f100  (f : Nat) (a0 : Nat) (M : xj_M) : Option (xj_M) := f100_2   f f (a0) (0) M
theorem k100 {d f : Nat}   {a0 : Nat} {M : xj_M} {R : xj_M}  (h : f100  f a0 M = some R) : xT (d + 2) 100 [xR_ a0] M (xQv R) := by
  refine xT_m xr_100_e (X := (none, d + 1, none)) rfl (xa_1 (xR_cat _) xa_n) (by decide) ?_
  unfold f100 at h
  refine xe_iconst (n := 0) (by decide +kernel) rfl ?_
  refine xe_isr (ins := .istore_n 1) (len := 1) (i := 1) (by decide +kernel) rfl rfl rfl (by decide) (xk_k (show ¬ (0 : Nat) = 1 by decide) (Or.inr (xR_cat _)) xk_n) rfl ?_
  refine xW_lv rfl (l := [(0, xR_ (a0)), (1, xI (0))]) (xsb_of ⟨rfl, rfl, trivial⟩ (show [1, 0].Nodup by decide)) ?_
  exact k100_2   (show xin (0) by decide) h
-- ChangeHouse$Sheet.countWorked
def xr_103 : xj_mR := (7, yX7_countWorked, cX7_countWorked, 10, (Option.none : Option Jvm.ClassFile.FieldType), 3, false, (7, 114), (1, 7))
set_option maxRecDepth 20000 in
theorem xr_103_e : xj_row 103 = some xr_103 := rfl
def f103_91  (r9 : Nat → Nat → Nat → Int → Int → Int → Int → xj_M → Option (xj_M)) (f : Nat) (x0 : Nat) (x1 : Nat) (x2 : Nat) (x3 : Int) (x4 : Int) (x8 : Int) (y0 : Int) (y1 : Int) (M : xj_M) : Option (xj_M) := r9 (x0) (x1) (x2) (x3) (x4) (xor8 (y1) (y0)) (xwr ((x8) + (1))) M
theorem k103_91 {d f : Nat}  {r9 : Nat → Nat → Nat → Int → Int → Int → Int → xj_M → Option (xj_M)}  (hr9 : ∀ {x0 : Nat} {x1 : Nat} {x2 : Nat} {x3 : Int} {x4 : Int} {x6 : Int} {x8 : Int} {M : xj_M} {R : xj_M}, xin x3 → xiN x4 → xiN x6 → xin x8 → r9 x0 x1 x2 x3 x4 x6 x8 M = some R → xW (d + 2) (none, d + 2, none) xr_103 (9, [(0, xR_ x0), (1, xR_ x1), (2, xR_ x2), (3, xI x3), (4, xZ x4), (6, xZ x6), (8, xI x8)], [], M) (xQv R)) {x0 : Nat} {x1 : Nat} {x2 : Nat} {x3 : Int} {x4 : Int} {x8 : Int} {y0 : Int} {y1 : Int} {M : xj_M} {R : xj_M} (hx3 : xin x3) (hx4 : xiN x4) (hx8 : xin x8) (hy0 : xiN y0) (hy1 : xiN y1) (h : f103_91  r9 f x0 x1 x2 x3 x4 x8 y0 y1 M = some R) : xW (d + 2) (none, d + 2, none) xr_103 (91, [(0, xR_ x0), (1, xR_ x1), (2, xR_ x2), (3, xI x3), (4, xZ x4), (8, xI x8)], [xZ y0, xZ y1], M) (xQv R) := by
  unfold f103_91 at h
  refine xe_lor (by decide +kernel) rfl ?_
  refine xe_lsr (ins := .lstore 6) (len := 2) (i := 6) (by decide +kernel) rfl rfl rfl (by decide) (xk2_k (show ¬ (0 : Nat) = 6 by decide) (show ¬ (0 : Nat) = 6 + 1 by decide) (Or.inl (show ¬ (0 + 1 : Nat) = 6 by decide)) (xk2_k (show ¬ (1 : Nat) = 6 by decide) (show ¬ (1 : Nat) = 6 + 1 by decide) (Or.inl (show ¬ (1 + 1 : Nat) = 6 by decide)) (xk2_k (show ¬ (2 : Nat) = 6 by decide) (show ¬ (2 : Nat) = 6 + 1 by decide) (Or.inl (show ¬ (2 + 1 : Nat) = 6 by decide)) (xk2_k (show ¬ (3 : Nat) = 6 by decide) (show ¬ (3 : Nat) = 6 + 1 by decide) (Or.inl (show ¬ (3 + 1 : Nat) = 6 by decide)) (xk2_k (show ¬ (4 : Nat) = 6 by decide) (show ¬ (4 : Nat) = 6 + 1 by decide) (Or.inl (show ¬ (4 + 1 : Nat) = 6 by decide)) (xk2_k (show ¬ (8 : Nat) = 6 by decide) (show ¬ (8 : Nat) = 6 + 1 by decide) (Or.inl (show ¬ (8 + 1 : Nat) = 6 by decide)) xk2_n)))))) rfl ?_
  refine xe_iincr (i := 8) (n := 1) (by decide +kernel) (by decide) rfl (xk_k (show ¬ (6 : Nat) = 8 by decide) (Or.inl (show ¬ (6 + 1 : Nat) = 8 by decide)) (xk_k (show ¬ (0 : Nat) = 8 by decide) (Or.inl (show ¬ (0 + 1 : Nat) = 8 by decide)) (xk_k (show ¬ (1 : Nat) = 8 by decide) (Or.inl (show ¬ (1 + 1 : Nat) = 8 by decide)) (xk_k (show ¬ (2 : Nat) = 8 by decide) (Or.inl (show ¬ (2 + 1 : Nat) = 8 by decide)) (xk_k (show ¬ (3 : Nat) = 8 by decide) (Or.inl (show ¬ (3 + 1 : Nat) = 8 by decide)) (xk_k (show ¬ (4 : Nat) = 8 by decide) (Or.inl (show ¬ (4 + 1 : Nat) = 8 by decide)) (xk_d rfl xk_n))))))) rfl ?_
  refine xe_goto (off := -88) (nx := 9) (by decide +kernel) (by decide) ?_
  refine xW_lv rfl (l := [(0, xR_ (x0)), (1, xR_ (x1)), (2, xR_ (x2)), (3, xI (x3)), (4, xZ (x4)), (6, xZ (xor8 (y1) (y0))), (8, xI (xwr ((x8) + (1))))]) (xsb_of ⟨rfl, rfl, rfl, rfl, rfl, rfl, rfl, trivial⟩ (show [8, 6, 0, 1, 2, 3, 4].Nodup by decide)) ?_
  exact hr9 hx3 hx4 (xiN_of _) (xin_wr _) h
def f103_90  (r9 : Nat → Nat → Nat → Int → Int → Int → Int → xj_M → Option (xj_M)) (f : Nat) (x0 : Nat) (x1 : Nat) (x2 : Nat) (x3 : Int) (x4 : Int) (x8 : Int) (y0 : Int) (M : xj_M) : Option (xj_M) := f103_91  r9 f (x0) (x1) (x2) (x3) (x4) (x8) (0) (y0) M
theorem k103_90 {d f : Nat}  {r9 : Nat → Nat → Nat → Int → Int → Int → Int → xj_M → Option (xj_M)}  (hr9 : ∀ {x0 : Nat} {x1 : Nat} {x2 : Nat} {x3 : Int} {x4 : Int} {x6 : Int} {x8 : Int} {M : xj_M} {R : xj_M}, xin x3 → xiN x4 → xiN x6 → xin x8 → r9 x0 x1 x2 x3 x4 x6 x8 M = some R → xW (d + 2) (none, d + 2, none) xr_103 (9, [(0, xR_ x0), (1, xR_ x1), (2, xR_ x2), (3, xI x3), (4, xZ x4), (6, xZ x6), (8, xI x8)], [], M) (xQv R)) {x0 : Nat} {x1 : Nat} {x2 : Nat} {x3 : Int} {x4 : Int} {x8 : Int} {y0 : Int} {M : xj_M} {R : xj_M} (hx3 : xin x3) (hx4 : xiN x4) (hx8 : xin x8) (hy0 : xiN y0) (h : f103_90  r9 f x0 x1 x2 x3 x4 x8 y0 M = some R) : xW (d + 2) (none, d + 2, none) xr_103 (90, [(0, xR_ x0), (1, xR_ x1), (2, xR_ x2), (3, xI x3), (4, xZ x4), (8, xI x8)], [xZ y0], M) (xQv R) := by
  unfold f103_90 at h
  refine xe_lconst (n := 0) (z := 0) (by decide +kernel) rfl rfl ?_
  refine xW_lv rfl (l := [(0, xR_ (x0)), (1, xR_ (x1)), (2, xR_ (x2)), (3, xI (x3)), (4, xZ (x4)), (8, xI (x8))]) (xsb_of ⟨rfl, rfl, rfl, rfl, rfl, rfl, trivial⟩ (show [0, 1, 2, 3, 4, 8].Nodup by decide)) ?_
  exact k103_91  hr9 hx3 hx4 hx8 (show xiN (0) by decide) hy0 h
def f103_63  (r9 : Nat → Nat → Nat → Int → Int → Int → Int → xj_M → Option (xj_M)) (f : Nat) (x0 : Nat) (x1 : Nat) (x2 : Nat) (x3 : Int) (x6 : Int) (x8 : Int) (x9 : Int) (y0 : Int) (y1 : Int) (M : xj_M) : Option (xj_M) := (if (x9) = 0 then f103_90  r9 f (x0) (x1) (x2) (x3) (xor8 (y1) (y0)) (x8) (x6) M else (if (x8) < (64) then f103_90  r9 f (x0) (x1) (x2) (x3) (xor8 (y1) (y0)) (x8) (x6) M else f103_91  r9 f (x0) (x1) (x2) (x3) (xor8 (y1) (y0)) (x8) (xshl8 (1) (xwr ((x8) - (64)))) (x6) M))
theorem k103_63 {d f : Nat}  {r9 : Nat → Nat → Nat → Int → Int → Int → Int → xj_M → Option (xj_M)}  (hr9 : ∀ {x0 : Nat} {x1 : Nat} {x2 : Nat} {x3 : Int} {x4 : Int} {x6 : Int} {x8 : Int} {M : xj_M} {R : xj_M}, xin x3 → xiN x4 → xiN x6 → xin x8 → r9 x0 x1 x2 x3 x4 x6 x8 M = some R → xW (d + 2) (none, d + 2, none) xr_103 (9, [(0, xR_ x0), (1, xR_ x1), (2, xR_ x2), (3, xI x3), (4, xZ x4), (6, xZ x6), (8, xI x8)], [], M) (xQv R)) {x0 : Nat} {x1 : Nat} {x2 : Nat} {x3 : Int} {x6 : Int} {x8 : Int} {x9 : Int} {y0 : Int} {y1 : Int} {M : xj_M} {R : xj_M} (hx3 : xin x3) (hx6 : xiN x6) (hx8 : xin x8) (hx9 : xin x9) (hy0 : xiN y0) (hy1 : xiN y1) (h : f103_63  r9 f x0 x1 x2 x3 x6 x8 x9 y0 y1 M = some R) : xW (d + 2) (none, d + 2, none) xr_103 (63, [(0, xR_ x0), (1, xR_ x1), (2, xR_ x2), (3, xI x3), (6, xZ x6), (8, xI x8), (9, xI x9)], [xZ y0, xZ y1], M) (xQv R) := by
  unfold f103_63 at h
  refine xe_lor (by decide +kernel) rfl ?_
  refine xe_lsr (ins := .lstore 4) (len := 2) (i := 4) (by decide +kernel) rfl rfl rfl (by decide) (xk2_k (show ¬ (0 : Nat) = 4 by decide) (show ¬ (0 : Nat) = 4 + 1 by decide) (Or.inl (show ¬ (0 + 1 : Nat) = 4 by decide)) (xk2_k (show ¬ (1 : Nat) = 4 by decide) (show ¬ (1 : Nat) = 4 + 1 by decide) (Or.inl (show ¬ (1 + 1 : Nat) = 4 by decide)) (xk2_k (show ¬ (2 : Nat) = 4 by decide) (show ¬ (2 : Nat) = 4 + 1 by decide) (Or.inl (show ¬ (2 + 1 : Nat) = 4 by decide)) (xk2_k (show ¬ (3 : Nat) = 4 by decide) (show ¬ (3 : Nat) = 4 + 1 by decide) (Or.inr (xI_cat _)) (xk2_k (show ¬ (6 : Nat) = 4 by decide) (show ¬ (6 : Nat) = 4 + 1 by decide) (Or.inl (show ¬ (6 + 1 : Nat) = 4 by decide)) (xk2_k (show ¬ (8 : Nat) = 4 by decide) (show ¬ (8 : Nat) = 4 + 1 by decide) (Or.inl (show ¬ (8 + 1 : Nat) = 4 by decide)) (xk2_k (show ¬ (9 : Nat) = 4 by decide) (show ¬ (9 : Nat) = 4 + 1 by decide) (Or.inl (show ¬ (9 + 1 : Nat) = 4 by decide)) xk2_n))))))) rfl ?_
  refine xe_ldn (ins := .lload 6) (len := 2) (by decide +kernel) rfl rfl rfl rfl ?_
  refine xe_ldn (ins := .iload 9) (len := 2) (by decide +kernel) rfl rfl rfl rfl ?_
  refine xe_ifeq (off := 20) (t := 90) (by decide +kernel) (by decide) rfl hx9 (fun c101 => ?_) (fun c101 => ?_)
  · rw [if_pos c101] at h
    refine xW_lv rfl (l := [(0, xR_ (x0)), (1, xR_ (x1)), (2, xR_ (x2)), (3, xI (x3)), (4, xZ (xor8 (y1) (y0))), (8, xI (x8))]) (xsb_of ⟨rfl, rfl, rfl, rfl, rfl, rfl, trivial⟩ (show [4, 0, 1, 2, 3, 6, 8, 9].Nodup by decide)) ?_
    exact k103_90  hr9 hx3 (xiN_of _) hx8 hx6 h
  · rw [if_neg c101] at h
    refine xe_ldn (ins := .iload 8) (len := 2) (by decide +kernel) rfl rfl rfl rfl ?_
    refine xe_bipush (n := 64) (by decide +kernel) (by decide) rfl ?_
    refine xe_icmplt (off := 13) (t := 90) (by decide +kernel) (by decide) rfl hx8 (show xin (64) by decide) (fun c102 => ?_) (fun c102 => ?_)
    · rw [if_pos c102] at h
      refine xW_lv rfl (l := [(0, xR_ (x0)), (1, xR_ (x1)), (2, xR_ (x2)), (3, xI (x3)), (4, xZ (xor8 (y1) (y0))), (8, xI (x8))]) (xsb_of ⟨rfl, rfl, rfl, rfl, rfl, rfl, trivial⟩ (show [4, 0, 1, 2, 3, 6, 8, 9].Nodup by decide)) ?_
      exact k103_90  hr9 hx3 (xiN_of _) hx8 hx6 h
    · rw [if_neg c102] at h
      refine xe_lconst (n := 1) (z := 1) (by decide +kernel) rfl rfl ?_
      refine xe_ldn (ins := .iload 8) (len := 2) (by decide +kernel) rfl rfl rfl rfl ?_
      refine xe_bipush (n := 64) (by decide +kernel) (by decide) rfl ?_
      refine xe_isub (by decide +kernel) rfl ?_
      refine xe_lshl (by decide +kernel) rfl ?_
      refine xe_goto (off := 4) (nx := 91) (by decide +kernel) (by decide) ?_
      refine xW_lv rfl (l := [(0, xR_ (x0)), (1, xR_ (x1)), (2, xR_ (x2)), (3, xI (x3)), (4, xZ (xor8 (y1) (y0))), (8, xI (x8))]) (xsb_of ⟨rfl, rfl, rfl, rfl, rfl, rfl, trivial⟩ (show [4, 0, 1, 2, 3, 6, 8, 9].Nodup by decide)) ?_
      exact k103_91  hr9 hx3 (xiN_of _) hx8 (xiN_of _) hx6 h
def f103_62  (r9 : Nat → Nat → Nat → Int → Int → Int → Int → xj_M → Option (xj_M)) (f : Nat) (x0 : Nat) (x1 : Nat) (x2 : Nat) (x3 : Int) (x6 : Int) (x8 : Int) (x9 : Int) (y0 : Int) (M : xj_M) : Option (xj_M) := f103_63  r9 f (x0) (x1) (x2) (x3) (x6) (x8) (x9) (0) (y0) M
theorem k103_62 {d f : Nat}  {r9 : Nat → Nat → Nat → Int → Int → Int → Int → xj_M → Option (xj_M)}  (hr9 : ∀ {x0 : Nat} {x1 : Nat} {x2 : Nat} {x3 : Int} {x4 : Int} {x6 : Int} {x8 : Int} {M : xj_M} {R : xj_M}, xin x3 → xiN x4 → xiN x6 → xin x8 → r9 x0 x1 x2 x3 x4 x6 x8 M = some R → xW (d + 2) (none, d + 2, none) xr_103 (9, [(0, xR_ x0), (1, xR_ x1), (2, xR_ x2), (3, xI x3), (4, xZ x4), (6, xZ x6), (8, xI x8)], [], M) (xQv R)) {x0 : Nat} {x1 : Nat} {x2 : Nat} {x3 : Int} {x6 : Int} {x8 : Int} {x9 : Int} {y0 : Int} {M : xj_M} {R : xj_M} (hx3 : xin x3) (hx6 : xiN x6) (hx8 : xin x8) (hx9 : xin x9) (hy0 : xiN y0) (h : f103_62  r9 f x0 x1 x2 x3 x6 x8 x9 y0 M = some R) : xW (d + 2) (none, d + 2, none) xr_103 (62, [(0, xR_ x0), (1, xR_ x1), (2, xR_ x2), (3, xI x3), (6, xZ x6), (8, xI x8), (9, xI x9)], [xZ y0], M) (xQv R) := by
  unfold f103_62 at h
  refine xe_lconst (n := 0) (z := 0) (by decide +kernel) rfl rfl ?_
  refine xW_lv rfl (l := [(0, xR_ (x0)), (1, xR_ (x1)), (2, xR_ (x2)), (3, xI (x3)), (6, xZ (x6)), (8, xI (x8)), (9, xI (x9))]) (xsb_of ⟨rfl, rfl, rfl, rfl, rfl, rfl, rfl, trivial⟩ (show [0, 1, 2, 3, 6, 8, 9].Nodup by decide)) ?_
  exact k103_63  hr9 hx3 hx6 hx8 hx9 (show xiN (0) by decide) hy0 h
def f103_39  (r9 : Nat → Nat → Nat → Int → Int → Int → Int → xj_M → Option (xj_M)) (f : Nat) (x0 : Nat) (x1 : Nat) (x2 : Nat) (x3 : Int) (x4 : Int) (x6 : Int) (x8 : Int) (y0 : Int) (M : xj_M) : Option (xj_M) := (if (y0) = 0 then f103_62  r9 f (x0) (x1) (x2) (x3) (x6) (x8) (y0) (x4) M else (if (64) ≤ (x8) then f103_62  r9 f (x0) (x1) (x2) (x3) (x6) (x8) (y0) (x4) M else f103_63  r9 f (x0) (x1) (x2) (x3) (x6) (x8) (y0) (xshl8 (1) (x8)) (x4) M))
theorem k103_39 {d f : Nat}  {r9 : Nat → Nat → Nat → Int → Int → Int → Int → xj_M → Option (xj_M)}  (hr9 : ∀ {x0 : Nat} {x1 : Nat} {x2 : Nat} {x3 : Int} {x4 : Int} {x6 : Int} {x8 : Int} {M : xj_M} {R : xj_M}, xin x3 → xiN x4 → xiN x6 → xin x8 → r9 x0 x1 x2 x3 x4 x6 x8 M = some R → xW (d + 2) (none, d + 2, none) xr_103 (9, [(0, xR_ x0), (1, xR_ x1), (2, xR_ x2), (3, xI x3), (4, xZ x4), (6, xZ x6), (8, xI x8)], [], M) (xQv R)) {x0 : Nat} {x1 : Nat} {x2 : Nat} {x3 : Int} {x4 : Int} {x6 : Int} {x8 : Int} {y0 : Int} {M : xj_M} {R : xj_M} (hx3 : xin x3) (hx4 : xiN x4) (hx6 : xiN x6) (hx8 : xin x8) (hy0 : xin y0) (h : f103_39  r9 f x0 x1 x2 x3 x4 x6 x8 y0 M = some R) : xW (d + 2) (none, d + 2, none) xr_103 (39, [(0, xR_ x0), (1, xR_ x1), (2, xR_ x2), (3, xI x3), (4, xZ x4), (6, xZ x6), (8, xI x8)], [xI y0], M) (xQv R) := by
  unfold f103_39 at h
  refine xe_isr (ins := .istore 9) (len := 2) (i := 9) (by decide +kernel) rfl rfl rfl (by decide) (xk_k (show ¬ (0 : Nat) = 9 by decide) (Or.inl (show ¬ (0 + 1 : Nat) = 9 by decide)) (xk_k (show ¬ (1 : Nat) = 9 by decide) (Or.inl (show ¬ (1 + 1 : Nat) = 9 by decide)) (xk_k (show ¬ (2 : Nat) = 9 by decide) (Or.inl (show ¬ (2 + 1 : Nat) = 9 by decide)) (xk_k (show ¬ (3 : Nat) = 9 by decide) (Or.inl (show ¬ (3 + 1 : Nat) = 9 by decide)) (xk_k (show ¬ (4 : Nat) = 9 by decide) (Or.inl (show ¬ (4 + 1 : Nat) = 9 by decide)) (xk_k (show ¬ (6 : Nat) = 9 by decide) (Or.inl (show ¬ (6 + 1 : Nat) = 9 by decide)) (xk_k (show ¬ (8 : Nat) = 9 by decide) (Or.inr (xI_cat _)) xk_n))))))) rfl ?_
  refine xe_ldn (ins := .lload 4) (len := 2) (by decide +kernel) rfl rfl rfl rfl ?_
  refine xe_ldn (ins := .iload 9) (len := 2) (by decide +kernel) rfl rfl rfl rfl ?_
  refine xe_ifeq (off := 17) (t := 62) (by decide +kernel) (by decide) rfl hy0 (fun c103 => ?_) (fun c103 => ?_)
  · rw [if_pos c103] at h
    refine xW_lv rfl (l := [(0, xR_ (x0)), (1, xR_ (x1)), (2, xR_ (x2)), (3, xI (x3)), (6, xZ (x6)), (8, xI (x8)), (9, xI (y0))]) (xsb_of ⟨rfl, rfl, rfl, rfl, rfl, rfl, rfl, trivial⟩ (show [9, 0, 1, 2, 3, 4, 6, 8].Nodup by decide)) ?_
    exact k103_62  hr9 hx3 hx6 hx8 hy0 hx4 h
  · rw [if_neg c103] at h
    refine xe_ldn (ins := .iload 8) (len := 2) (by decide +kernel) rfl rfl rfl rfl ?_
    refine xe_bipush (n := 64) (by decide +kernel) (by decide) rfl ?_
    refine xe_icmpge (off := 10) (t := 62) (by decide +kernel) (by decide) rfl hx8 (show xin (64) by decide) (fun c104 => ?_) (fun c104 => ?_)
    · rw [if_pos c104] at h
      refine xW_lv rfl (l := [(0, xR_ (x0)), (1, xR_ (x1)), (2, xR_ (x2)), (3, xI (x3)), (6, xZ (x6)), (8, xI (x8)), (9, xI (y0))]) (xsb_of ⟨rfl, rfl, rfl, rfl, rfl, rfl, rfl, trivial⟩ (show [9, 0, 1, 2, 3, 4, 6, 8].Nodup by decide)) ?_
      exact k103_62  hr9 hx3 hx6 hx8 hy0 hx4 h
    · rw [if_neg c104] at h
      refine xe_lconst (n := 1) (z := 1) (by decide +kernel) rfl rfl ?_
      refine xe_ldn (ins := .iload 8) (len := 2) (by decide +kernel) rfl rfl rfl rfl ?_
      refine xe_lshl (by decide +kernel) rfl ?_
      refine xe_goto (off := 4) (nx := 63) (by decide +kernel) (by decide) ?_
      refine xW_lv rfl (l := [(0, xR_ (x0)), (1, xR_ (x1)), (2, xR_ (x2)), (3, xI (x3)), (6, xZ (x6)), (8, xI (x8)), (9, xI (y0))]) (xsb_of ⟨rfl, rfl, rfl, rfl, rfl, rfl, rfl, trivial⟩ (show [9, 0, 1, 2, 3, 4, 6, 8].Nodup by decide)) ?_
      exact k103_63  hr9 hx3 hx6 hx8 hy0 (xiN_of _) hx4 h
def f103_170  (r103 : Nat → Nat → Int → Int → Int → Int → xj_M → Option (xj_M)) (f : Nat) (x0 : Nat) (x2 : Nat) (x3 : Int) (x4 : Int) (x6 : Int) (x8 : Int) (M : xj_M) : Option (xj_M) := r103 (x0) (x2) (x3) (x4) (x6) (xwr ((x8) + (1))) M
theorem k103_170 {d f : Nat}  {r103 : Nat → Nat → Int → Int → Int → Int → xj_M → Option (xj_M)}  (hr103 : ∀ {x0 : Nat} {x2 : Nat} {x3 : Int} {x4 : Int} {x6 : Int} {x8 : Int} {M : xj_M} {R : xj_M}, xin x3 → xiN x4 → xiN x6 → xin x8 → r103 x0 x2 x3 x4 x6 x8 M = some R → xW (d + 2) (none, d + 2, none) xr_103 (103, [(0, xR_ x0), (2, xR_ x2), (3, xI x3), (4, xZ x4), (6, xZ x6), (8, xI x8)], [], M) (xQv R)) {x0 : Nat} {x2 : Nat} {x3 : Int} {x4 : Int} {x6 : Int} {x8 : Int} {M : xj_M} {R : xj_M} (hx3 : xin x3) (hx4 : xiN x4) (hx6 : xiN x6) (hx8 : xin x8) (h : f103_170  r103 f x0 x2 x3 x4 x6 x8 M = some R) : xW (d + 2) (none, d + 2, none) xr_103 (170, [(0, xR_ x0), (2, xR_ x2), (3, xI x3), (4, xZ x4), (6, xZ x6), (8, xI x8)], [], M) (xQv R) := by
  unfold f103_170 at h
  refine xe_iincr (i := 8) (n := 1) (by decide +kernel) (by decide) rfl (xk_k (show ¬ (0 : Nat) = 8 by decide) (Or.inl (show ¬ (0 + 1 : Nat) = 8 by decide)) (xk_k (show ¬ (2 : Nat) = 8 by decide) (Or.inl (show ¬ (2 + 1 : Nat) = 8 by decide)) (xk_k (show ¬ (3 : Nat) = 8 by decide) (Or.inl (show ¬ (3 + 1 : Nat) = 8 by decide)) (xk_k (show ¬ (4 : Nat) = 8 by decide) (Or.inl (show ¬ (4 + 1 : Nat) = 8 by decide)) (xk_k (show ¬ (6 : Nat) = 8 by decide) (Or.inl (show ¬ (6 + 1 : Nat) = 8 by decide)) (xk_d rfl xk_n)))))) rfl ?_
  refine xe_goto (off := -70) (nx := 103) (by decide +kernel) (by decide) ?_
  refine xW_lv rfl (l := [(0, xR_ (x0)), (2, xR_ (x2)), (3, xI (x3)), (4, xZ (x4)), (6, xZ (x6)), (8, xI (xwr ((x8) + (1))))]) (xsb_of ⟨rfl, rfl, rfl, rfl, rfl, rfl, trivial⟩ (show [8, 0, 2, 3, 4, 6].Nodup by decide)) ?_
  exact hr103 hx3 hx4 hx6 (xin_wr _) h
def f103_159  (r103 : Nat → Nat → Int → Int → Int → Int → xj_M → Option (xj_M)) (f : Nat) (x0 : Nat) (x2 : Nat) (x3 : Int) (x4 : Int) (x6 : Int) (x8 : Int) (M : xj_M) : Option (xj_M) := ((xq_gr 1 6 (x2) M).bind fun v105 => ((xq_ai 3 (v105) (x8) M).bind fun v107 => ((xq_si (v105) (x8) (xwr ((v107) + (1))) M).bind fun M109 => f103_170  r103 f (x0) (x2) (x3) (x4) (x6) (x8) M109)))
theorem k103_159 {d f : Nat}  {r103 : Nat → Nat → Int → Int → Int → Int → xj_M → Option (xj_M)}  (hr103 : ∀ {x0 : Nat} {x2 : Nat} {x3 : Int} {x4 : Int} {x6 : Int} {x8 : Int} {M : xj_M} {R : xj_M}, xin x3 → xiN x4 → xiN x6 → xin x8 → r103 x0 x2 x3 x4 x6 x8 M = some R → xW (d + 2) (none, d + 2, none) xr_103 (103, [(0, xR_ x0), (2, xR_ x2), (3, xI x3), (4, xZ x4), (6, xZ x6), (8, xI x8)], [], M) (xQv R)) {x0 : Nat} {x2 : Nat} {x3 : Int} {x4 : Int} {x6 : Int} {x8 : Int} {M : xj_M} {R : xj_M} (hx3 : xin x3) (hx4 : xiN x4) (hx6 : xiN x6) (hx8 : xin x8) (h : f103_159  r103 f x0 x2 x3 x4 x6 x8 M = some R) : xW (d + 2) (none, d + 2, none) xr_103 (159, [(0, xR_ x0), (2, xR_ x2), (3, xI x3), (4, xZ x4), (6, xZ x6), (8, xI x8)], [], M) (xQv R) := by
  unfold f103_159 at h
  refine xe_alr (ins := .aload_n 2) (len := 1) (i := 2) (by decide +kernel) rfl rfl rfl rfl rfl ?_
  obtain ⟨v105, e106, h⟩ := xbnd h
  refine xs_gr (i := 97) (c := 1) (k := 6) (by decide +kernel) (by decide) (by decide +kernel) e106 rfl ?_
  refine xe_ldn (ins := .iload 8) (len := 2) (by decide +kernel) rfl rfl rfl rfl ?_
  refine xe_dup2r (xI_cat _) (xR_cat _) (by decide +kernel) rfl ?_
  obtain ⟨v107, e108, h⟩ := xbnd h
  refine xs_iald rfl (by decide +kernel) hx8 e108 rfl ?_
  refine xe_iconst (n := 1) (by decide +kernel) rfl ?_
  refine xe_iadd (by decide +kernel) rfl ?_
  obtain ⟨M109, e110, h⟩ := xbnd h
  refine xs_iast (by decide +kernel) hx8 e110 rfl ?_
  refine xW_lv rfl (l := [(0, xR_ (x0)), (2, xR_ (x2)), (3, xI (x3)), (4, xZ (x4)), (6, xZ (x6)), (8, xI (x8))]) (xsb_of ⟨rfl, rfl, rfl, rfl, rfl, rfl, trivial⟩ (show [0, 2, 3, 4, 6, 8].Nodup by decide)) ?_
  exact k103_170  hr103 hx3 hx4 hx6 hx8 h
def f103_103b  (r103 : Nat → Nat → Int → Int → Int → Int → xj_M → Option (xj_M)) (f : Nat) (x0 : Nat) (x2 : Nat) (x3 : Int) (x4 : Int) (x6 : Int) (x8 : Int) (M : xj_M) : Option (xj_M) := (if (72) ≤ (x8) then (some M) else ((xq_gr 7 0 (x0) M).bind fun v112 => ((xq_gr 2 2 (v112) M).bind fun v114 => ((xq_ar (v114) (x8) M).bind fun v116 => (if (v116) = 0 then f103_170  r103 f (x0) (x2) (x3) (x4) (x6) (x8) M else ((xq_gr 1 12 (x2) M).bind fun v119 => ((xq_ab (v119) (x8) M).bind fun v121 => (if ¬ (v121) = 0 then f103_159  r103 f (x0) (x2) (x3) (x4) (x6) (x8) M else ((xq_is 0 (v116) M).bind fun _ => ((f3  f (v116) (x4) (x6) M).bind fun R126 => (if ¬ (R126.1) = 0 then f103_159  r103 f (x0) (x2) (x3) (x4) (x6) (x8) R126.2 else ((xq_is 7 (x0) R126.2).bind fun _ => ((f104  f (x0) (v116) (x3) R126.2).bind fun R131 => (if (R131.1) = 0 then f103_170  r103 f (x0) (x2) (x3) (x4) (x6) (x8) R131.2 else f103_159  r103 f (x0) (x2) (x3) (x4) (x6) (x8) R131.2))))))))))))))
theorem k103_103b {d f : Nat}  {r103 : Nat → Nat → Int → Int → Int → Int → xj_M → Option (xj_M)}  (hr103 : ∀ {x0 : Nat} {x2 : Nat} {x3 : Int} {x4 : Int} {x6 : Int} {x8 : Int} {M : xj_M} {R : xj_M}, xin x3 → xiN x4 → xiN x6 → xin x8 → r103 x0 x2 x3 x4 x6 x8 M = some R → xW (d + 2) (none, d + 2, none) xr_103 (103, [(0, xR_ x0), (2, xR_ x2), (3, xI x3), (4, xZ x4), (6, xZ x6), (8, xI x8)], [], M) (xQv R)) {x0 : Nat} {x2 : Nat} {x3 : Int} {x4 : Int} {x6 : Int} {x8 : Int} {M : xj_M} {R : xj_M} (hx3 : xin x3) (hx4 : xiN x4) (hx6 : xiN x6) (hx8 : xin x8) (h : f103_103b  r103 f x0 x2 x3 x4 x6 x8 M = some R) : xW (d + 2) (none, d + 2, none) xr_103 (103, [(0, xR_ x0), (2, xR_ x2), (3, xI x3), (4, xZ x4), (6, xZ x6), (8, xI x8)], [], M) (xQv R) := by
  unfold f103_103b at h
  refine xe_ldn (ins := .iload 8) (len := 2) (by decide +kernel) rfl rfl rfl rfl ?_
  refine xe_bipush (n := 72) (by decide +kernel) (by decide) rfl ?_
  refine xe_icmpge (off := 69) (t := 176) (by decide +kernel) (by decide) rfl hx8 (show xin (72) by decide) (fun c111 => ?_) (fun c111 => ?_)
  · rw [if_pos c111] at h
    cases h
    exact xe_ret_v (by decide +kernel) rfl ⟨rfl, rfl⟩
  · rw [if_neg c111] at h
    refine xe_alr (ins := .aload_n 0) (len := 1) (i := 0) (by decide +kernel) rfl rfl rfl rfl rfl ?_
    obtain ⟨v112, e113, h⟩ := xbnd h
    refine xs_gr (i := 21) (c := 7) (k := 0) (by decide +kernel) (by decide) (by decide +kernel) e113 rfl ?_
    obtain ⟨v114, e115, h⟩ := xbnd h
    refine xs_gr (i := 25) (c := 2) (k := 2) (by decide +kernel) (by decide) (by decide +kernel) e115 rfl ?_
    refine xe_ldn (ins := .iload 8) (len := 2) (by decide +kernel) rfl rfl rfl rfl ?_
    obtain ⟨v116, e117, h⟩ := xbnd h
    refine xs_aald (by decide +kernel) hx8 e117 rfl ?_
    refine xe_asr (ins := .astore 9) (len := 2) (i := 9) (by decide +kernel) rfl rfl rfl (by decide) (xk_k (show ¬ (0 : Nat) = 9 by decide) (Or.inl (show ¬ (0 + 1 : Nat) = 9 by decide)) (xk_k (show ¬ (2 : Nat) = 9 by decide) (Or.inl (show ¬ (2 + 1 : Nat) = 9 by decide)) (xk_k (show ¬ (3 : Nat) = 9 by decide) (Or.inl (show ¬ (3 + 1 : Nat) = 9 by decide)) (xk_k (show ¬ (4 : Nat) = 9 by decide) (Or.inl (show ¬ (4 + 1 : Nat) = 9 by decide)) (xk_k (show ¬ (6 : Nat) = 9 by decide) (Or.inl (show ¬ (6 + 1 : Nat) = 9 by decide)) (xk_k (show ¬ (8 : Nat) = 9 by decide) (Or.inr (xI_cat _)) xk_n)))))) rfl ?_
    refine xe_alr (ins := .aload 9) (len := 2) (i := 9) (by decide +kernel) rfl rfl rfl rfl rfl ?_
    refine xe_ifnull (off := 46) (t := 170) (by decide +kernel) (by decide) rfl (fun c118 => ?_) (fun c118 => ?_)
    · rw [if_pos c118] at h
      refine xW_lv rfl (l := [(0, xR_ (x0)), (2, xR_ (x2)), (3, xI (x3)), (4, xZ (x4)), (6, xZ (x6)), (8, xI (x8))]) (xsb_of ⟨rfl, rfl, rfl, rfl, rfl, rfl, trivial⟩ (show [9, 0, 2, 3, 4, 6, 8].Nodup by decide)) ?_
      exact k103_170  hr103 hx3 hx4 hx6 hx8 h
    · rw [if_neg c118] at h
      refine xe_alr (ins := .aload_n 2) (len := 1) (i := 2) (by decide +kernel) rfl rfl rfl rfl rfl ?_
      obtain ⟨v119, e120, h⟩ := xbnd h
      refine xs_gr (i := 34) (c := 1) (k := 12) (by decide +kernel) (by decide) (by decide +kernel) e120 rfl ?_
      refine xe_ldn (ins := .iload 8) (len := 2) (by decide +kernel) rfl rfl rfl rfl ?_
      obtain ⟨v121, e122, h⟩ := xbnd h
      refine xs_bald (by decide +kernel) hx8 e122 rfl ?_
      refine xe_ifne (off := 25) (t := 159) (by decide +kernel) (by decide) rfl (xq_ab_in e122) (fun c123 => ?_) (fun c123 => ?_)
      · rw [if_pos c123] at h
        refine xW_lv rfl (l := [(0, xR_ (x0)), (2, xR_ (x2)), (3, xI (x3)), (4, xZ (x4)), (6, xZ (x6)), (8, xI (x8))]) (xsb_of ⟨rfl, rfl, rfl, rfl, rfl, rfl, trivial⟩ (show [9, 0, 2, 3, 4, 6, 8].Nodup by decide)) ?_
        exact k103_159  hr103 hx3 hx4 hx6 hx8 h
      · rw [if_neg c123] at h
        refine xe_alr (ins := .aload 9) (len := 2) (i := 9) (by decide +kernel) rfl rfl rfl rfl rfl ?_
        refine xe_ldn (ins := .lload 4) (len := 2) (by decide +kernel) rfl rfl rfl rfl ?_
        refine xe_ldn (ins := .lload 6) (len := 2) (by decide +kernel) rfl rfl rfl rfl ?_
        obtain ⟨_, e125, h⟩ := xbnd h
        obtain ⟨R126, e124, h⟩ := xbnd h
        refine xs_cv (i := 81) (j := 3) (ar := [xZ (x6), xZ (x4)]) (rest := []) (r2 := xr_3) (by decide +kernel) (by decide +kernel) (by decide +kernel) xr_3_e rfl (by decide) (by decide) e125 ?_
        refine xc_i (k3 (d := d + 1)  hx4 hx6 e124) rfl (fun hi127 => ?_)
        refine xe_ifne (off := 13) (t := 159) (by decide +kernel) (by decide) rfl hi127 (fun c128 => ?_) (fun c128 => ?_)
        · rw [if_pos c128] at h
          refine xW_lv rfl (l := [(0, xR_ (x0)), (2, xR_ (x2)), (3, xI (x3)), (4, xZ (x4)), (6, xZ (x6)), (8, xI (x8))]) (xsb_of ⟨rfl, rfl, rfl, rfl, rfl, rfl, trivial⟩ (show [9, 0, 2, 3, 4, 6, 8].Nodup by decide)) ?_
          exact k103_159  hr103 hx3 hx4 hx6 hx8 h
        · rw [if_neg c128] at h
          refine xe_alr (ins := .aload_n 0) (len := 1) (i := 0) (by decide +kernel) rfl rfl rfl rfl rfl ?_
          refine xe_alr (ins := .aload 9) (len := 2) (i := 9) (by decide +kernel) rfl rfl rfl rfl rfl ?_
          refine xe_ldn (ins := .iload_n 3) (len := 1) (by decide +kernel) rfl rfl rfl rfl ?_
          obtain ⟨_, e130, h⟩ := xbnd h
          obtain ⟨R131, e129, h⟩ := xbnd h
          refine xs_cv (i := 93) (j := 104) (ar := [xI (x3), xR_ (v116)]) (rest := []) (r2 := xr_104) (by decide +kernel) (by decide +kernel) (by decide +kernel) xr_104_e rfl (by decide) (by decide) e130 ?_
          refine xc_i (k104 (d := d + 0)  hx3 e129) rfl (fun hi132 => ?_)
          refine xe_ifeq (off := 14) (t := 170) (by decide +kernel) (by decide) rfl hi132 (fun c133 => ?_) (fun c133 => ?_)
          · rw [if_pos c133] at h
            refine xW_lv rfl (l := [(0, xR_ (x0)), (2, xR_ (x2)), (3, xI (x3)), (4, xZ (x4)), (6, xZ (x6)), (8, xI (x8))]) (xsb_of ⟨rfl, rfl, rfl, rfl, rfl, rfl, trivial⟩ (show [9, 0, 2, 3, 4, 6, 8].Nodup by decide)) ?_
            exact k103_170  hr103 hx3 hx4 hx6 hx8 h
          · rw [if_neg c133] at h
            refine xW_lv rfl (l := [(0, xR_ (x0)), (2, xR_ (x2)), (3, xI (x3)), (4, xZ (x4)), (6, xZ (x6)), (8, xI (x8))]) (xsb_of ⟨rfl, rfl, rfl, rfl, rfl, rfl, trivial⟩ (show [9, 0, 2, 3, 4, 6, 8].Nodup by decide)) ?_
            exact k103_159  hr103 hx3 hx4 hx6 hx8 h
def f103_103   (f : Nat) : Nat → Nat → Nat → Int → Int → Int → Int → xj_M → Option (xj_M)
  | 0, _, _, _, _, _, _, _ => none
  | n + 1, x0, x2, x3, x4, x6, x8, M => f103_103b   (f103_103   f n) f x0 x2 x3 x4 x6 x8 M
theorem k103_103 {d f : Nat}     : ∀ {n : Nat} {x0 : Nat} {x2 : Nat} {x3 : Int} {x4 : Int} {x6 : Int} {x8 : Int} {M : xj_M} {R : xj_M}, xin x3 → xiN x4 → xiN x6 → xin x8 → f103_103   f n x0 x2 x3 x4 x6 x8 M = some R → xW (d + 2) (none, d + 2, none) xr_103 (103, [(0, xR_ x0), (2, xR_ x2), (3, xI x3), (4, xZ x4), (6, xZ x6), (8, xI x8)], [], M) (xQv R) := by
  intro n
  induction n with
  | zero => intros; rename_i h; cases h
  | succ n ih => intros; rename_i h; exact k103_103b   ih (by assumption) (by assumption) (by assumption) (by assumption) h
def f103_9b  (r9 : Nat → Nat → Nat → Int → Int → Int → Int → xj_M → Option (xj_M)) (f : Nat) (x0 : Nat) (x1 : Nat) (x2 : Nat) (x3 : Int) (x4 : Int) (x6 : Int) (x8 : Int) (M : xj_M) : Option (xj_M) := (if (72) ≤ (x8) then f103_103   f f (x0) (x2) (x3) (x4) (x6) (0) M else ((xq_gr 7 1 (x0) M).bind fun v135 => ((xq_al (v135) (x8) M).bind fun v137 => ((xq_gr 2 3 (x1) M).bind fun v139 => ((xq_al (v139) (x8) M).bind fun v141 => (if (v137) = (v141) then f103_39  r9 f (x0) (x1) (x2) (x3) (x4) (x6) (x8) (0) M else f103_39  r9 f (x0) (x1) (x2) (x3) (x4) (x6) (x8) (1) M))))))
theorem k103_9b {d f : Nat}  {r9 : Nat → Nat → Nat → Int → Int → Int → Int → xj_M → Option (xj_M)}  (hr9 : ∀ {x0 : Nat} {x1 : Nat} {x2 : Nat} {x3 : Int} {x4 : Int} {x6 : Int} {x8 : Int} {M : xj_M} {R : xj_M}, xin x3 → xiN x4 → xiN x6 → xin x8 → r9 x0 x1 x2 x3 x4 x6 x8 M = some R → xW (d + 2) (none, d + 2, none) xr_103 (9, [(0, xR_ x0), (1, xR_ x1), (2, xR_ x2), (3, xI x3), (4, xZ x4), (6, xZ x6), (8, xI x8)], [], M) (xQv R)) {x0 : Nat} {x1 : Nat} {x2 : Nat} {x3 : Int} {x4 : Int} {x6 : Int} {x8 : Int} {M : xj_M} {R : xj_M} (hx3 : xin x3) (hx4 : xiN x4) (hx6 : xiN x6) (hx8 : xin x8) (h : f103_9b  r9 f x0 x1 x2 x3 x4 x6 x8 M = some R) : xW (d + 2) (none, d + 2, none) xr_103 (9, [(0, xR_ x0), (1, xR_ x1), (2, xR_ x2), (3, xI x3), (4, xZ x4), (6, xZ x6), (8, xI x8)], [], M) (xQv R) := by
  unfold f103_9b at h
  refine xe_ldn (ins := .iload 8) (len := 2) (by decide +kernel) rfl rfl rfl rfl ?_
  refine xe_bipush (n := 72) (by decide +kernel) (by decide) rfl ?_
  refine xe_icmpge (off := 87) (t := 100) (by decide +kernel) (by decide) rfl hx8 (show xin (72) by decide) (fun c134 => ?_) (fun c134 => ?_)
  · rw [if_pos c134] at h
    refine xe_iconst (n := 0) (by decide +kernel) rfl ?_
    refine xe_isr (ins := .istore 8) (len := 2) (i := 8) (by decide +kernel) rfl rfl rfl (by decide) (xk_k (show ¬ (0 : Nat) = 8 by decide) (Or.inl (show ¬ (0 + 1 : Nat) = 8 by decide)) (xk_k (show ¬ (1 : Nat) = 8 by decide) (Or.inl (show ¬ (1 + 1 : Nat) = 8 by decide)) (xk_k (show ¬ (2 : Nat) = 8 by decide) (Or.inl (show ¬ (2 + 1 : Nat) = 8 by decide)) (xk_k (show ¬ (3 : Nat) = 8 by decide) (Or.inl (show ¬ (3 + 1 : Nat) = 8 by decide)) (xk_k (show ¬ (4 : Nat) = 8 by decide) (Or.inl (show ¬ (4 + 1 : Nat) = 8 by decide)) (xk_k (show ¬ (6 : Nat) = 8 by decide) (Or.inl (show ¬ (6 + 1 : Nat) = 8 by decide)) (xk_d rfl xk_n))))))) rfl ?_
    refine xW_lv rfl (l := [(0, xR_ (x0)), (2, xR_ (x2)), (3, xI (x3)), (4, xZ (x4)), (6, xZ (x6)), (8, xI (0))]) (xsb_of ⟨rfl, rfl, rfl, rfl, rfl, rfl, trivial⟩ (show [8, 0, 1, 2, 3, 4, 6].Nodup by decide)) ?_
    exact k103_103   hx3 hx4 hx6 (show xin (0) by decide) h
  · rw [if_neg c134] at h
    refine xe_alr (ins := .aload_n 0) (len := 1) (i := 0) (by decide +kernel) rfl rfl rfl rfl rfl ?_
    obtain ⟨v135, e136, h⟩ := xbnd h
    refine xs_gr (i := 55) (c := 7) (k := 1) (by decide +kernel) (by decide) (by decide +kernel) e136 rfl ?_
    refine xe_ldn (ins := .iload 8) (len := 2) (by decide +kernel) rfl rfl rfl rfl ?_
    obtain ⟨v137, e138, h⟩ := xbnd h
    refine xs_lald (by decide +kernel) hx8 e138 rfl ?_
    refine xe_alr (ins := .aload_n 1) (len := 1) (i := 1) (by decide +kernel) rfl rfl rfl rfl rfl ?_
    obtain ⟨v139, e140, h⟩ := xbnd h
    refine xs_gr (i := 31) (c := 2) (k := 3) (by decide +kernel) (by decide) (by decide +kernel) e140 rfl ?_
    refine xe_ldn (ins := .iload 8) (len := 2) (by decide +kernel) rfl rfl rfl rfl ?_
    obtain ⟨v141, e142, h⟩ := xbnd h
    refine xs_lald (by decide +kernel) hx8 e142 rfl ?_
    refine xe_lcmp (by decide +kernel) rfl (xq_al_in e138) (xq_al_in e142) ?_
    refine xe_ifeq (off := 7) (t := 38) (by decide +kernel) (by decide) rfl (xin_cmp8 _ _) (fun c143 => ?_) (fun c143 => ?_)
    · have c143 := xcmp8_eq.mp c143; rw [if_pos c143] at h
      refine xe_iconst (n := 0) (by decide +kernel) rfl ?_
      refine xW_lv rfl (l := [(0, xR_ (x0)), (1, xR_ (x1)), (2, xR_ (x2)), (3, xI (x3)), (4, xZ (x4)), (6, xZ (x6)), (8, xI (x8))]) (xsb_of ⟨rfl, rfl, rfl, rfl, rfl, rfl, rfl, trivial⟩ (show [0, 1, 2, 3, 4, 6, 8].Nodup by decide)) ?_
      exact k103_39  hr9 hx3 hx4 hx6 hx8 (show xin (0) by decide) h
    · have c143 := (not_congr xcmp8_eq).mp c143; rw [if_neg c143] at h
      refine xe_iconst (n := 1) (by decide +kernel) rfl ?_
      refine xe_goto (off := 4) (nx := 39) (by decide +kernel) (by decide) ?_
      refine xW_lv rfl (l := [(0, xR_ (x0)), (1, xR_ (x1)), (2, xR_ (x2)), (3, xI (x3)), (4, xZ (x4)), (6, xZ (x6)), (8, xI (x8))]) (xsb_of ⟨rfl, rfl, rfl, rfl, rfl, rfl, rfl, trivial⟩ (show [0, 1, 2, 3, 4, 6, 8].Nodup by decide)) ?_
      exact k103_39  hr9 hx3 hx4 hx6 hx8 (show xin (1) by decide) h
def f103_9   (f : Nat) : Nat → Nat → Nat → Nat → Int → Int → Int → Int → xj_M → Option (xj_M)
  | 0, _, _, _, _, _, _, _, _ => none
  | n + 1, x0, x1, x2, x3, x4, x6, x8, M => f103_9b   (f103_9   f n) f x0 x1 x2 x3 x4 x6 x8 M
theorem k103_9 {d f : Nat}     : ∀ {n : Nat} {x0 : Nat} {x1 : Nat} {x2 : Nat} {x3 : Int} {x4 : Int} {x6 : Int} {x8 : Int} {M : xj_M} {R : xj_M}, xin x3 → xiN x4 → xiN x6 → xin x8 → f103_9   f n x0 x1 x2 x3 x4 x6 x8 M = some R → xW (d + 2) (none, d + 2, none) xr_103 (9, [(0, xR_ x0), (1, xR_ x1), (2, xR_ x2), (3, xI x3), (4, xZ x4), (6, xZ x6), (8, xI x8)], [], M) (xQv R) := by
  intro n
  induction n with
  | zero => intros; rename_i h; cases h
  | succ n ih => intros; rename_i h; exact k103_9b   ih (by assumption) (by assumption) (by assumption) (by assumption) h
def f103  (f : Nat) (a0 : Nat) (a1 : Nat) (a2 : Nat) (a3 : Int) (M : xj_M) : Option (xj_M) := f103_9   f f (a0) (a1) (a2) (a3) (0) (0) (0) M
theorem k103 {d f : Nat}   {a0 : Nat} {a1 : Nat} {a2 : Nat} {a3 : Int} {M : xj_M} {R : xj_M} (ha3 : xin a3) (h : f103  f a0 a1 a2 a3 M = some R) : xT (d + 3) 103 [xR_ a0, xR_ a1, xR_ a2, xI a3] M (xQv R) := by
  refine xT_m xr_103_e (X := (none, d + 2, none)) rfl (xa_1 (xR_cat _) (xa_1 (xR_cat _) (xa_1 (xR_cat _) (xa_1 (xI_cat _) xa_n)))) (by decide) ?_
  unfold f103 at h
  refine xe_lconst (n := 0) (z := 0) (by decide +kernel) rfl rfl ?_
  refine xe_lsr (ins := .lstore 4) (len := 2) (i := 4) (by decide +kernel) rfl rfl rfl (by decide) (xk2_k (show ¬ (0 : Nat) = 4 by decide) (show ¬ (0 : Nat) = 4 + 1 by decide) (Or.inl (show ¬ (0 + 1 : Nat) = 4 by decide)) (xk2_k (show ¬ (1 : Nat) = 4 by decide) (show ¬ (1 : Nat) = 4 + 1 by decide) (Or.inl (show ¬ (1 + 1 : Nat) = 4 by decide)) (xk2_k (show ¬ (2 : Nat) = 4 by decide) (show ¬ (2 : Nat) = 4 + 1 by decide) (Or.inl (show ¬ (2 + 1 : Nat) = 4 by decide)) (xk2_k (show ¬ (3 : Nat) = 4 by decide) (show ¬ (3 : Nat) = 4 + 1 by decide) (Or.inr (xI_cat _)) xk2_n)))) rfl ?_
  refine xe_lconst (n := 0) (z := 0) (by decide +kernel) rfl rfl ?_
  refine xe_lsr (ins := .lstore 6) (len := 2) (i := 6) (by decide +kernel) rfl rfl rfl (by decide) (xk2_k (show ¬ (4 : Nat) = 6 by decide) (show ¬ (4 : Nat) = 6 + 1 by decide) (Or.inl (show ¬ (4 + 1 : Nat) = 6 by decide)) (xk2_k (show ¬ (0 : Nat) = 6 by decide) (show ¬ (0 : Nat) = 6 + 1 by decide) (Or.inl (show ¬ (0 + 1 : Nat) = 6 by decide)) (xk2_k (show ¬ (1 : Nat) = 6 by decide) (show ¬ (1 : Nat) = 6 + 1 by decide) (Or.inl (show ¬ (1 + 1 : Nat) = 6 by decide)) (xk2_k (show ¬ (2 : Nat) = 6 by decide) (show ¬ (2 : Nat) = 6 + 1 by decide) (Or.inl (show ¬ (2 + 1 : Nat) = 6 by decide)) (xk2_k (show ¬ (3 : Nat) = 6 by decide) (show ¬ (3 : Nat) = 6 + 1 by decide) (Or.inl (show ¬ (3 + 1 : Nat) = 6 by decide)) xk2_n))))) rfl ?_
  refine xe_iconst (n := 0) (by decide +kernel) rfl ?_
  refine xe_isr (ins := .istore 8) (len := 2) (i := 8) (by decide +kernel) rfl rfl rfl (by decide) (xk_k (show ¬ (6 : Nat) = 8 by decide) (Or.inl (show ¬ (6 + 1 : Nat) = 8 by decide)) (xk_k (show ¬ (4 : Nat) = 8 by decide) (Or.inl (show ¬ (4 + 1 : Nat) = 8 by decide)) (xk_k (show ¬ (0 : Nat) = 8 by decide) (Or.inl (show ¬ (0 + 1 : Nat) = 8 by decide)) (xk_k (show ¬ (1 : Nat) = 8 by decide) (Or.inl (show ¬ (1 + 1 : Nat) = 8 by decide)) (xk_k (show ¬ (2 : Nat) = 8 by decide) (Or.inl (show ¬ (2 + 1 : Nat) = 8 by decide)) (xk_k (show ¬ (3 : Nat) = 8 by decide) (Or.inl (show ¬ (3 + 1 : Nat) = 8 by decide)) xk_n)))))) rfl ?_
  refine xW_lv rfl (l := [(0, xR_ (a0)), (1, xR_ (a1)), (2, xR_ (a2)), (3, xI (a3)), (4, xZ (0)), (6, xZ (0)), (8, xI (0))]) (xsb_of ⟨rfl, rfl, rfl, rfl, rfl, rfl, rfl, trivial⟩ (show [8, 6, 4, 0, 1, 2, 3].Nodup by decide)) ?_
  exact k103_9   ha3 (show xiN (0) by decide) (show xiN (0) by decide) (show xin (0) by decide) h
-- ChangeHouse$Sheet.overCells
def xr_107 : xj_mR := (7, yX7_overCells, cX7_overCells, 9, (Option.some Jvm.ClassFile.FieldType.long), 3, false, (7, 94), (1, 7))
set_option maxRecDepth 20000 in
theorem xr_107_e : xj_row 107 = some xr_107 := rfl
def f107_120  (r9 : Nat → Int → Int → Int → Int → Int → Int → xj_M → Option (Int × xj_M)) (f : Nat) (x0 : Nat) (x1 : Int) (x2 : Int) (x3 : Int) (x4 : Int) (x6 : Int) (x7 : Int) (M : xj_M) : Option (Int × xj_M) := r9 (x0) (x1) (x2) (x3) (x4) (x6) (xwr ((x7) + (1))) M
theorem k107_120 {d f : Nat}  {r9 : Nat → Int → Int → Int → Int → Int → Int → xj_M → Option (Int × xj_M)}  (hr9 : ∀ {x0 : Nat} {x1 : Int} {x2 : Int} {x3 : Int} {x4 : Int} {x6 : Int} {x7 : Int} {M : xj_M} {R : Int × xj_M}, xin x1 → xin x2 → xin x3 → xiN x4 → xin x6 → xin x7 → r9 x0 x1 x2 x3 x4 x6 x7 M = some R → xW (d + 1) (none, d + 1, none) xr_107 (9, [(0, xR_ x0), (1, xI x1), (2, xI x2), (3, xI x3), (4, xZ x4), (6, xI x6), (7, xI x7)], [], M) (xQl R)) {x0 : Nat} {x1 : Int} {x2 : Int} {x3 : Int} {x4 : Int} {x6 : Int} {x7 : Int} {M : xj_M} {R : Int × xj_M} (hx1 : xin x1) (hx2 : xin x2) (hx3 : xin x3) (hx4 : xiN x4) (hx6 : xin x6) (hx7 : xin x7) (h : f107_120  r9 f x0 x1 x2 x3 x4 x6 x7 M = some R) : xW (d + 1) (none, d + 1, none) xr_107 (120, [(0, xR_ x0), (1, xI x1), (2, xI x2), (3, xI x3), (4, xZ x4), (6, xI x6), (7, xI x7)], [], M) (xQl R) := by
  unfold f107_120 at h
  refine xe_iincr (i := 7) (n := 1) (by decide +kernel) (by decide) rfl (xk_k (show ¬ (0 : Nat) = 7 by decide) (Or.inl (show ¬ (0 + 1 : Nat) = 7 by decide)) (xk_k (show ¬ (1 : Nat) = 7 by decide) (Or.inl (show ¬ (1 + 1 : Nat) = 7 by decide)) (xk_k (show ¬ (2 : Nat) = 7 by decide) (Or.inl (show ¬ (2 + 1 : Nat) = 7 by decide)) (xk_k (show ¬ (3 : Nat) = 7 by decide) (Or.inl (show ¬ (3 + 1 : Nat) = 7 by decide)) (xk_k (show ¬ (4 : Nat) = 7 by decide) (Or.inl (show ¬ (4 + 1 : Nat) = 7 by decide)) (xk_k (show ¬ (6 : Nat) = 7 by decide) (Or.inr (xI_cat _)) (xk_d rfl xk_n))))))) rfl ?_
  refine xe_goto (off := -114) (nx := 9) (by decide +kernel) (by decide) ?_
  refine xW_lv rfl (l := [(0, xR_ (x0)), (1, xI (x1)), (2, xI (x2)), (3, xI (x3)), (4, xZ (x4)), (6, xI (x6)), (7, xI (xwr ((x7) + (1))))]) (xsb_of ⟨rfl, rfl, rfl, rfl, rfl, rfl, rfl, trivial⟩ (show [7, 0, 1, 2, 3, 4, 6].Nodup by decide)) ?_
  exact hr9 hx1 hx2 hx3 hx4 hx6 (xin_wr _) h
def f107_114  (r9 : Nat → Int → Int → Int → Int → Int → Int → xj_M → Option (Int × xj_M)) (f : Nat) (x0 : Nat) (x1 : Int) (x2 : Int) (x3 : Int) (x6 : Int) (x7 : Int) (y0 : Int) (y1 : Int) (M : xj_M) : Option (Int × xj_M) := f107_120  r9 f (x0) (x1) (x2) (x3) (xwl ((y1) + (y0))) (xwr ((x6) + (1))) (x7) M
theorem k107_114 {d f : Nat}  {r9 : Nat → Int → Int → Int → Int → Int → Int → xj_M → Option (Int × xj_M)}  (hr9 : ∀ {x0 : Nat} {x1 : Int} {x2 : Int} {x3 : Int} {x4 : Int} {x6 : Int} {x7 : Int} {M : xj_M} {R : Int × xj_M}, xin x1 → xin x2 → xin x3 → xiN x4 → xin x6 → xin x7 → r9 x0 x1 x2 x3 x4 x6 x7 M = some R → xW (d + 1) (none, d + 1, none) xr_107 (9, [(0, xR_ x0), (1, xI x1), (2, xI x2), (3, xI x3), (4, xZ x4), (6, xI x6), (7, xI x7)], [], M) (xQl R)) {x0 : Nat} {x1 : Int} {x2 : Int} {x3 : Int} {x6 : Int} {x7 : Int} {y0 : Int} {y1 : Int} {M : xj_M} {R : Int × xj_M} (hx1 : xin x1) (hx2 : xin x2) (hx3 : xin x3) (hx6 : xin x6) (hx7 : xin x7) (hy0 : xiN y0) (hy1 : xiN y1) (h : f107_114  r9 f x0 x1 x2 x3 x6 x7 y0 y1 M = some R) : xW (d + 1) (none, d + 1, none) xr_107 (114, [(0, xR_ x0), (1, xI x1), (2, xI x2), (3, xI x3), (6, xI x6), (7, xI x7)], [xZ y0, xZ y1], M) (xQl R) := by
  unfold f107_114 at h
  refine xe_ladd (by decide +kernel) rfl ?_
  refine xe_lsr (ins := .lstore 4) (len := 2) (i := 4) (by decide +kernel) rfl rfl rfl (by decide) (xk2_k (show ¬ (0 : Nat) = 4 by decide) (show ¬ (0 : Nat) = 4 + 1 by decide) (Or.inl (show ¬ (0 + 1 : Nat) = 4 by decide)) (xk2_k (show ¬ (1 : Nat) = 4 by decide) (show ¬ (1 : Nat) = 4 + 1 by decide) (Or.inl (show ¬ (1 + 1 : Nat) = 4 by decide)) (xk2_k (show ¬ (2 : Nat) = 4 by decide) (show ¬ (2 : Nat) = 4 + 1 by decide) (Or.inl (show ¬ (2 + 1 : Nat) = 4 by decide)) (xk2_k (show ¬ (3 : Nat) = 4 by decide) (show ¬ (3 : Nat) = 4 + 1 by decide) (Or.inr (xI_cat _)) (xk2_k (show ¬ (6 : Nat) = 4 by decide) (show ¬ (6 : Nat) = 4 + 1 by decide) (Or.inl (show ¬ (6 + 1 : Nat) = 4 by decide)) (xk2_k (show ¬ (7 : Nat) = 4 by decide) (show ¬ (7 : Nat) = 4 + 1 by decide) (Or.inl (show ¬ (7 + 1 : Nat) = 4 by decide)) xk2_n)))))) rfl ?_
  refine xe_iincr (i := 6) (n := 1) (by decide +kernel) (by decide) rfl (xk_k (show ¬ (4 : Nat) = 6 by decide) (Or.inl (show ¬ (4 + 1 : Nat) = 6 by decide)) (xk_k (show ¬ (0 : Nat) = 6 by decide) (Or.inl (show ¬ (0 + 1 : Nat) = 6 by decide)) (xk_k (show ¬ (1 : Nat) = 6 by decide) (Or.inl (show ¬ (1 + 1 : Nat) = 6 by decide)) (xk_k (show ¬ (2 : Nat) = 6 by decide) (Or.inl (show ¬ (2 + 1 : Nat) = 6 by decide)) (xk_k (show ¬ (3 : Nat) = 6 by decide) (Or.inl (show ¬ (3 + 1 : Nat) = 6 by decide)) (xk_d rfl (xk_k (show ¬ (7 : Nat) = 6 by decide) (Or.inl (show ¬ (7 + 1 : Nat) = 6 by decide)) xk_n))))))) rfl ?_
  refine xW_lv rfl (l := [(0, xR_ (x0)), (1, xI (x1)), (2, xI (x2)), (3, xI (x3)), (4, xZ (xwl ((y1) + (y0)))), (6, xI (xwr ((x6) + (1)))), (7, xI (x7))]) (xsb_of ⟨rfl, rfl, rfl, rfl, rfl, rfl, rfl, trivial⟩ (show [6, 4, 0, 1, 2, 3, 7].Nodup by decide)) ?_
  exact k107_120  hr9 hx1 hx2 hx3 (xiN_wl _) (xin_wr _) hx7 h
def f107_44  (r9 : Nat → Int → Int → Int → Int → Int → Int → xj_M → Option (Int × xj_M)) (f : Nat) (x0 : Nat) (x1 : Int) (x2 : Int) (x3 : Int) (x4 : Int) (x6 : Int) (x7 : Int) (y0 : Int) (M : xj_M) : Option (Int × xj_M) := (if (y0) = 0 then f107_120  r9 f (x0) (x1) (x2) (x3) (x4) (x6) (x7) M else ((xq_gr 7 1 (x0) M).bind fun v102 => ((xq_al (v102) (x7) M).bind fun v104 => (if (v104) = (9000000000000000000) then f107_120  r9 f (x0) (x1) (x2) (x3) (x4) (x6) (x7) M else ((xq_gr 7 1 (x0) M).bind fun v107 => ((xq_al (v107) (x7) M).bind fun v109 => (if (-1000000000000) ≤ (v109) then ((xq_gr 7 1 (x0) M).bind fun v112 => ((xq_al (v112) (x7) M).bind fun v114 => (if (v114) ≤ (1000000000000) then ((xq_gr 7 1 (x0) M).bind fun v117 => ((xq_al (v117) (x7) M).bind fun v119 => f107_114  r9 f (x0) (x1) (x2) (x3) (x6) (x7) (v119) (x4) M)) else f107_114  r9 f (x0) (x1) (x2) (x3) (x6) (x7) (0) (x4) M))) else ((xq_gr 7 1 (x0) M).bind fun v121 => ((xq_al (v121) (x7) M).bind fun v123 => (some (v123, M)))))))))))
theorem k107_44 {d f : Nat}  {r9 : Nat → Int → Int → Int → Int → Int → Int → xj_M → Option (Int × xj_M)}  (hr9 : ∀ {x0 : Nat} {x1 : Int} {x2 : Int} {x3 : Int} {x4 : Int} {x6 : Int} {x7 : Int} {M : xj_M} {R : Int × xj_M}, xin x1 → xin x2 → xin x3 → xiN x4 → xin x6 → xin x7 → r9 x0 x1 x2 x3 x4 x6 x7 M = some R → xW (d + 1) (none, d + 1, none) xr_107 (9, [(0, xR_ x0), (1, xI x1), (2, xI x2), (3, xI x3), (4, xZ x4), (6, xI x6), (7, xI x7)], [], M) (xQl R)) {x0 : Nat} {x1 : Int} {x2 : Int} {x3 : Int} {x4 : Int} {x6 : Int} {x7 : Int} {y0 : Int} {M : xj_M} {R : Int × xj_M} (hx1 : xin x1) (hx2 : xin x2) (hx3 : xin x3) (hx4 : xiN x4) (hx6 : xin x6) (hx7 : xin x7) (hy0 : xin y0) (h : f107_44  r9 f x0 x1 x2 x3 x4 x6 x7 y0 M = some R) : xW (d + 1) (none, d + 1, none) xr_107 (44, [(0, xR_ x0), (1, xI x1), (2, xI x2), (3, xI x3), (4, xZ x4), (6, xI x6), (7, xI x7)], [xI y0], M) (xQl R) := by
  unfold f107_44 at h
  refine xe_isr (ins := .istore 8) (len := 2) (i := 8) (by decide +kernel) rfl rfl rfl (by decide) (xk_k (show ¬ (0 : Nat) = 8 by decide) (Or.inl (show ¬ (0 + 1 : Nat) = 8 by decide)) (xk_k (show ¬ (1 : Nat) = 8 by decide) (Or.inl (show ¬ (1 + 1 : Nat) = 8 by decide)) (xk_k (show ¬ (2 : Nat) = 8 by decide) (Or.inl (show ¬ (2 + 1 : Nat) = 8 by decide)) (xk_k (show ¬ (3 : Nat) = 8 by decide) (Or.inl (show ¬ (3 + 1 : Nat) = 8 by decide)) (xk_k (show ¬ (4 : Nat) = 8 by decide) (Or.inl (show ¬ (4 + 1 : Nat) = 8 by decide)) (xk_k (show ¬ (6 : Nat) = 8 by decide) (Or.inl (show ¬ (6 + 1 : Nat) = 8 by decide)) (xk_k (show ¬ (7 : Nat) = 8 by decide) (Or.inr (xI_cat _)) xk_n))))))) rfl ?_
  refine xe_ldn (ins := .iload 8) (len := 2) (by decide +kernel) rfl rfl rfl rfl ?_
  refine xe_ifeq (off := 72) (t := 120) (by decide +kernel) (by decide) rfl hy0 (fun c101 => ?_) (fun c101 => ?_)
  · rw [if_pos c101] at h
    refine xW_lv rfl (l := [(0, xR_ (x0)), (1, xI (x1)), (2, xI (x2)), (3, xI (x3)), (4, xZ (x4)), (6, xI (x6)), (7, xI (x7))]) (xsb_of ⟨rfl, rfl, rfl, rfl, rfl, rfl, rfl, trivial⟩ (show [8, 0, 1, 2, 3, 4, 6, 7].Nodup by decide)) ?_
    exact k107_120  hr9 hx1 hx2 hx3 hx4 hx6 hx7 h
  · rw [if_neg c101] at h
    refine xe_alr (ins := .aload_n 0) (len := 1) (i := 0) (by decide +kernel) rfl rfl rfl rfl rfl ?_
    obtain ⟨v102, e103, h⟩ := xbnd h
    refine xs_gr (i := 55) (c := 7) (k := 1) (by decide +kernel) (by decide) (by decide +kernel) e103 rfl ?_
    refine xe_ldn (ins := .iload 7) (len := 2) (by decide +kernel) rfl rfl rfl rfl ?_
    obtain ⟨v104, e105, h⟩ := xbnd h
    refine xs_lald (by decide +kernel) hx7 e105 rfl ?_
    refine xe_ldc2 (i := 85) (n := 9000000000000000000) (by decide +kernel) (by decide +kernel) rfl ?_
    refine xe_lcmp (by decide +kernel) rfl (xq_al_in e105) (show xiN (9000000000000000000) by decide) ?_
    refine xe_ifeq (off := 58) (t := 120) (by decide +kernel) (by decide) rfl (xin_cmp8 _ _) (fun c106 => ?_) (fun c106 => ?_)
    · have c106 := xcmp8_eq.mp c106; rw [if_pos c106] at h
      refine xW_lv rfl (l := [(0, xR_ (x0)), (1, xI (x1)), (2, xI (x2)), (3, xI (x3)), (4, xZ (x4)), (6, xI (x6)), (7, xI (x7))]) (xsb_of ⟨rfl, rfl, rfl, rfl, rfl, rfl, rfl, trivial⟩ (show [8, 0, 1, 2, 3, 4, 6, 7].Nodup by decide)) ?_
      exact k107_120  hr9 hx1 hx2 hx3 hx4 hx6 hx7 h
    · have c106 := (not_congr xcmp8_eq).mp c106; rw [if_neg c106] at h
      refine xe_alr (ins := .aload_n 0) (len := 1) (i := 0) (by decide +kernel) rfl rfl rfl rfl rfl ?_
      obtain ⟨v107, e108, h⟩ := xbnd h
      refine xs_gr (i := 55) (c := 7) (k := 1) (by decide +kernel) (by decide) (by decide +kernel) e108 rfl ?_
      refine xe_ldn (ins := .iload 7) (len := 2) (by decide +kernel) rfl rfl rfl rfl ?_
      obtain ⟨v109, e110, h⟩ := xbnd h
      refine xs_lald (by decide +kernel) hx7 e110 rfl ?_
      refine xe_ldc2 (i := 121) (n := -1000000000000) (by decide +kernel) (by decide +kernel) rfl ?_
      refine xe_lcmp (by decide +kernel) rfl (xq_al_in e110) (show xiN (-1000000000000) by decide) ?_
      refine xe_ifge (off := 11) (t := 87) (by decide +kernel) (by decide) rfl (xin_cmp8 _ _) (fun c111 => ?_) (fun c111 => ?_)
      · have c111 := xcmp8_ge.mp c111; rw [if_pos c111] at h
        refine xe_ldn (ins := .lload 4) (len := 2) (by decide +kernel) rfl rfl rfl rfl ?_
        refine xe_alr (ins := .aload_n 0) (len := 1) (i := 0) (by decide +kernel) rfl rfl rfl rfl rfl ?_
        obtain ⟨v112, e113, h⟩ := xbnd h
        refine xs_gr (i := 55) (c := 7) (k := 1) (by decide +kernel) (by decide) (by decide +kernel) e113 rfl ?_
        refine xe_ldn (ins := .iload 7) (len := 2) (by decide +kernel) rfl rfl rfl rfl ?_
        obtain ⟨v114, e115, h⟩ := xbnd h
        refine xs_lald (by decide +kernel) hx7 e115 rfl ?_
        refine xe_ldc2 (i := 144) (n := 1000000000000) (by decide +kernel) (by decide +kernel) rfl ?_
        refine xe_lcmp (by decide +kernel) rfl (xq_al_in e115) (show xiN (1000000000000) by decide) ?_
        refine xe_ifle (off := 7) (t := 107) (by decide +kernel) (by decide) rfl (xin_cmp8 _ _) (fun c116 => ?_) (fun c116 => ?_)
        · have c116 := xcmp8_le.mp c116; rw [if_pos c116] at h
          refine xe_alr (ins := .aload_n 0) (len := 1) (i := 0) (by decide +kernel) rfl rfl rfl rfl rfl ?_
          obtain ⟨v117, e118, h⟩ := xbnd h
          refine xs_gr (i := 55) (c := 7) (k := 1) (by decide +kernel) (by decide) (by decide +kernel) e118 rfl ?_
          refine xe_ldn (ins := .iload 7) (len := 2) (by decide +kernel) rfl rfl rfl rfl ?_
          obtain ⟨v119, e120, h⟩ := xbnd h
          refine xs_lald (by decide +kernel) hx7 e120 rfl ?_
          refine xW_lv rfl (l := [(0, xR_ (x0)), (1, xI (x1)), (2, xI (x2)), (3, xI (x3)), (6, xI (x6)), (7, xI (x7))]) (xsb_of ⟨rfl, rfl, rfl, rfl, rfl, rfl, trivial⟩ (show [8, 0, 1, 2, 3, 4, 6, 7].Nodup by decide)) ?_
          exact k107_114  hr9 hx1 hx2 hx3 hx6 hx7 (xq_al_in e120) hx4 h
        · have c116 := (not_congr xcmp8_le).mp c116; rw [if_neg c116] at h
          refine xe_lconst (n := 0) (z := 0) (by decide +kernel) rfl rfl ?_
          refine xe_goto (off := 10) (nx := 114) (by decide +kernel) (by decide) ?_
          refine xW_lv rfl (l := [(0, xR_ (x0)), (1, xI (x1)), (2, xI (x2)), (3, xI (x3)), (6, xI (x6)), (7, xI (x7))]) (xsb_of ⟨rfl, rfl, rfl, rfl, rfl, rfl, trivial⟩ (show [8, 0, 1, 2, 3, 4, 6, 7].Nodup by decide)) ?_
          exact k107_114  hr9 hx1 hx2 hx3 hx6 hx7 (show xiN (0) by decide) hx4 h
      · have c111 := (not_congr xcmp8_ge).mp c111; rw [if_neg c111] at h
        refine xe_alr (ins := .aload_n 0) (len := 1) (i := 0) (by decide +kernel) rfl rfl rfl rfl rfl ?_
        obtain ⟨v121, e122, h⟩ := xbnd h
        refine xs_gr (i := 55) (c := 7) (k := 1) (by decide +kernel) (by decide) (by decide +kernel) e122 rfl ?_
        refine xe_ldn (ins := .iload 7) (len := 2) (by decide +kernel) rfl rfl rfl rfl ?_
        obtain ⟨v123, e124, h⟩ := xbnd h
        refine xs_lald (by decide +kernel) hx7 e124 rfl ?_
        cases h
        exact xe_ret_l (by decide +kernel) rfl ⟨rfl, rfl, (xq_al_in e124)⟩
def f107_43  (r9 : Nat → Int → Int → Int → Int → Int → Int → xj_M → Option (Int × xj_M)) (f : Nat) (x0 : Nat) (x1 : Int) (x2 : Int) (x3 : Int) (x4 : Int) (x6 : Int) (x7 : Int) (M : xj_M) : Option (Int × xj_M) := f107_44  r9 f (x0) (x1) (x2) (x3) (x4) (x6) (x7) (0) M
theorem k107_43 {d f : Nat}  {r9 : Nat → Int → Int → Int → Int → Int → Int → xj_M → Option (Int × xj_M)}  (hr9 : ∀ {x0 : Nat} {x1 : Int} {x2 : Int} {x3 : Int} {x4 : Int} {x6 : Int} {x7 : Int} {M : xj_M} {R : Int × xj_M}, xin x1 → xin x2 → xin x3 → xiN x4 → xin x6 → xin x7 → r9 x0 x1 x2 x3 x4 x6 x7 M = some R → xW (d + 1) (none, d + 1, none) xr_107 (9, [(0, xR_ x0), (1, xI x1), (2, xI x2), (3, xI x3), (4, xZ x4), (6, xI x6), (7, xI x7)], [], M) (xQl R)) {x0 : Nat} {x1 : Int} {x2 : Int} {x3 : Int} {x4 : Int} {x6 : Int} {x7 : Int} {M : xj_M} {R : Int × xj_M} (hx1 : xin x1) (hx2 : xin x2) (hx3 : xin x3) (hx4 : xiN x4) (hx6 : xin x6) (hx7 : xin x7) (h : f107_43  r9 f x0 x1 x2 x3 x4 x6 x7 M = some R) : xW (d + 1) (none, d + 1, none) xr_107 (43, [(0, xR_ x0), (1, xI x1), (2, xI x2), (3, xI x3), (4, xZ x4), (6, xI x6), (7, xI x7)], [], M) (xQl R) := by
  unfold f107_43 at h
  refine xe_iconst (n := 0) (by decide +kernel) rfl ?_
  refine xW_lv rfl (l := [(0, xR_ (x0)), (1, xI (x1)), (2, xI (x2)), (3, xI (x3)), (4, xZ (x4)), (6, xI (x6)), (7, xI (x7))]) (xsb_of ⟨rfl, rfl, rfl, rfl, rfl, rfl, rfl, trivial⟩ (show [0, 1, 2, 3, 4, 6, 7].Nodup by decide)) ?_
  exact k107_44  hr9 hx1 hx2 hx3 hx4 hx6 hx7 (show xin (0) by decide) h
def f107_141   (f : Nat) (y0 : Int) (M : xj_M) : Option (Int × xj_M) := (some (y0, M))
theorem k107_141 {d f : Nat}     {y0 : Int} {M : xj_M} {R : Int × xj_M} (hy0 : xiN y0) (h : f107_141   f y0 M = some R) : xW (d + 1) (none, d + 1, none) xr_107 (141, [], [xZ y0], M) (xQl R) := by
  unfold f107_141 at h
  cases h
  exact xe_ret_l (by decide +kernel) rfl ⟨rfl, rfl, hy0⟩
def f107_9b  (r9 : Nat → Int → Int → Int → Int → Int → Int → xj_M → Option (Int × xj_M)) (f : Nat) (x0 : Nat) (x1 : Int) (x2 : Int) (x3 : Int) (x4 : Int) (x6 : Int) (x7 : Int) (M : xj_M) : Option (Int × xj_M) := (if (x3) < (x7) then (if (x1) = 0 then f107_141   f (x6) M else ((f108  f (x4) M).bind fun R128 => f107_141   f (R128.1) R128.2)) else (if (xrem (x7) (6)) < (xrem (x2) (6)) then f107_43  r9 f (x0) (x1) (x2) (x3) (x4) (x6) (x7) M else (if (xrem (x3) (6)) < (xrem (x7) (6)) then f107_43  r9 f (x0) (x1) (x2) (x3) (x4) (x6) (x7) M else f107_44  r9 f (x0) (x1) (x2) (x3) (x4) (x6) (x7) (1) M)))
theorem k107_9b {d f : Nat}  {r9 : Nat → Int → Int → Int → Int → Int → Int → xj_M → Option (Int × xj_M)}  (hr9 : ∀ {x0 : Nat} {x1 : Int} {x2 : Int} {x3 : Int} {x4 : Int} {x6 : Int} {x7 : Int} {M : xj_M} {R : Int × xj_M}, xin x1 → xin x2 → xin x3 → xiN x4 → xin x6 → xin x7 → r9 x0 x1 x2 x3 x4 x6 x7 M = some R → xW (d + 1) (none, d + 1, none) xr_107 (9, [(0, xR_ x0), (1, xI x1), (2, xI x2), (3, xI x3), (4, xZ x4), (6, xI x6), (7, xI x7)], [], M) (xQl R)) {x0 : Nat} {x1 : Int} {x2 : Int} {x3 : Int} {x4 : Int} {x6 : Int} {x7 : Int} {M : xj_M} {R : Int × xj_M} (hx1 : xin x1) (hx2 : xin x2) (hx3 : xin x3) (hx4 : xiN x4) (hx6 : xin x6) (hx7 : xin x7) (h : f107_9b  r9 f x0 x1 x2 x3 x4 x6 x7 M = some R) : xW (d + 1) (none, d + 1, none) xr_107 (9, [(0, xR_ x0), (1, xI x1), (2, xI x2), (3, xI x3), (4, xZ x4), (6, xI x6), (7, xI x7)], [], M) (xQl R) := by
  unfold f107_9b at h
  refine xe_ldn (ins := .iload 7) (len := 2) (by decide +kernel) rfl rfl rfl rfl ?_
  refine xe_ldn (ins := .iload_n 3) (len := 1) (by decide +kernel) rfl rfl rfl rfl ?_
  refine xe_icmpgt (off := 114) (t := 126) (by decide +kernel) (by decide) rfl hx7 hx3 (fun c125 => ?_) (fun c125 => ?_)
  · rw [if_pos c125] at h
    refine xe_ldn (ins := .iload_n 1) (len := 1) (by decide +kernel) rfl rfl rfl rfl ?_
    refine xe_ifeq (off := 11) (t := 138) (by decide +kernel) (by decide) rfl hx1 (fun c126 => ?_) (fun c126 => ?_)
    · rw [if_pos c126] at h
      refine xe_ldn (ins := .iload 6) (len := 2) (by decide +kernel) rfl rfl rfl rfl ?_
      refine xe_i2l (by decide +kernel) rfl hx6 ?_
      refine xW_lv rfl (l := []) (xsb_of trivial (show [0, 1, 2, 3, 4, 6, 7].Nodup by decide)) ?_
      exact k107_141   (xin_N hx6) h
    · rw [if_neg c126] at h
      refine xe_ldn (ins := .lload 4) (len := 2) (by decide +kernel) rfl rfl rfl rfl ?_
      obtain ⟨R128, e127, h⟩ := xbnd h
      refine xs_cs (kd := 2) (by decide) (i := 146) (j := 108) (ar := [xZ (x4)]) (rest := []) (r2 := xr_108) (by decide +kernel) (by decide +kernel) (by decide +kernel) xr_108_e rfl (by decide) ?_
      refine xc_l (k108 (d := d + 0)  hx4 e127) rfl (fun hi129 => ?_)
      refine xe_goto (off := 6) (nx := 141) (by decide +kernel) (by decide) ?_
      refine xW_lv rfl (l := []) (xsb_of trivial (show [0, 1, 2, 3, 4, 6, 7].Nodup by decide)) ?_
      exact k107_141   hi129 h
  · rw [if_neg c125] at h
    refine xe_ldn (ins := .iload 7) (len := 2) (by decide +kernel) rfl rfl rfl rfl ?_
    refine xe_bipush (n := 6) (by decide +kernel) (by decide) rfl ?_
    refine xe_irem (by decide +kernel) rfl (show xin (6) by decide) (by decide) ?_
    refine xe_ldn (ins := .iload_n 2) (len := 1) (by decide +kernel) rfl rfl rfl rfl ?_
    refine xe_bipush (n := 6) (by decide +kernel) (by decide) rfl ?_
    refine xe_irem (by decide +kernel) rfl (show xin (6) by decide) (by decide) ?_
    refine xe_icmplt (off := 19) (t := 43) (by decide +kernel) (by decide) rfl (xin_of _) (xin_of _) (fun c132 => ?_) (fun c132 => ?_)
    · rw [if_pos c132] at h
      refine xW_lv rfl (l := [(0, xR_ (x0)), (1, xI (x1)), (2, xI (x2)), (3, xI (x3)), (4, xZ (x4)), (6, xI (x6)), (7, xI (x7))]) (xsb_of ⟨rfl, rfl, rfl, rfl, rfl, rfl, rfl, trivial⟩ (show [0, 1, 2, 3, 4, 6, 7].Nodup by decide)) ?_
      exact k107_43  hr9 hx1 hx2 hx3 hx4 hx6 hx7 h
    · rw [if_neg c132] at h
      refine xe_ldn (ins := .iload 7) (len := 2) (by decide +kernel) rfl rfl rfl rfl ?_
      refine xe_bipush (n := 6) (by decide +kernel) (by decide) rfl ?_
      refine xe_irem (by decide +kernel) rfl (show xin (6) by decide) (by decide) ?_
      refine xe_ldn (ins := .iload_n 3) (len := 1) (by decide +kernel) rfl rfl rfl rfl ?_
      refine xe_bipush (n := 6) (by decide +kernel) (by decide) rfl ?_
      refine xe_irem (by decide +kernel) rfl (show xin (6) by decide) (by decide) ?_
      refine xe_icmpgt (off := 7) (t := 43) (by decide +kernel) (by decide) rfl (xin_of _) (xin_of _) (fun c135 => ?_) (fun c135 => ?_)
      · rw [if_pos c135] at h
        refine xW_lv rfl (l := [(0, xR_ (x0)), (1, xI (x1)), (2, xI (x2)), (3, xI (x3)), (4, xZ (x4)), (6, xI (x6)), (7, xI (x7))]) (xsb_of ⟨rfl, rfl, rfl, rfl, rfl, rfl, rfl, trivial⟩ (show [0, 1, 2, 3, 4, 6, 7].Nodup by decide)) ?_
        exact k107_43  hr9 hx1 hx2 hx3 hx4 hx6 hx7 h
      · rw [if_neg c135] at h
        refine xe_iconst (n := 1) (by decide +kernel) rfl ?_
        refine xe_goto (off := 4) (nx := 44) (by decide +kernel) (by decide) ?_
        refine xW_lv rfl (l := [(0, xR_ (x0)), (1, xI (x1)), (2, xI (x2)), (3, xI (x3)), (4, xZ (x4)), (6, xI (x6)), (7, xI (x7))]) (xsb_of ⟨rfl, rfl, rfl, rfl, rfl, rfl, rfl, trivial⟩ (show [0, 1, 2, 3, 4, 6, 7].Nodup by decide)) ?_
        exact k107_44  hr9 hx1 hx2 hx3 hx4 hx6 hx7 (show xin (1) by decide) h
def f107_9   (f : Nat) : Nat → Nat → Int → Int → Int → Int → Int → Int → xj_M → Option (Int × xj_M)
  | 0, _, _, _, _, _, _, _, _ => none
  | n + 1, x0, x1, x2, x3, x4, x6, x7, M => f107_9b   (f107_9   f n) f x0 x1 x2 x3 x4 x6 x7 M
theorem k107_9 {d f : Nat}     : ∀ {n : Nat} {x0 : Nat} {x1 : Int} {x2 : Int} {x3 : Int} {x4 : Int} {x6 : Int} {x7 : Int} {M : xj_M} {R : Int × xj_M}, xin x1 → xin x2 → xin x3 → xiN x4 → xin x6 → xin x7 → f107_9   f n x0 x1 x2 x3 x4 x6 x7 M = some R → xW (d + 1) (none, d + 1, none) xr_107 (9, [(0, xR_ x0), (1, xI x1), (2, xI x2), (3, xI x3), (4, xZ x4), (6, xI x6), (7, xI x7)], [], M) (xQl R) := by
  intro n
  induction n with
  | zero => intros; rename_i h; cases h
  | succ n ih => intros; rename_i h; exact k107_9b   ih (by assumption) (by assumption) (by assumption) (by assumption) (by assumption) (by assumption) h
def f107  (f : Nat) (a0 : Nat) (a1 : Int) (a2 : Int) (a3 : Int) (M : xj_M) : Option (Int × xj_M) := f107_9   f f (a0) (a1) (a2) (a3) (0) (0) (a2) M
theorem k107 {d f : Nat}   {a0 : Nat} {a1 : Int} {a2 : Int} {a3 : Int} {M : xj_M} {R : Int × xj_M} (ha1 : xin a1) (ha2 : xin a2) (ha3 : xin a3) (h : f107  f a0 a1 a2 a3 M = some R) : xT (d + 2) 107 [xR_ a0, xI a1, xI a2, xI a3] M (xQl R) := by
  refine xT_m xr_107_e (X := (none, d + 1, none)) rfl (xa_1 (xR_cat _) (xa_1 (xI_cat _) (xa_1 (xI_cat _) (xa_1 (xI_cat _) xa_n)))) (by decide) ?_
  unfold f107 at h
  refine xe_lconst (n := 0) (z := 0) (by decide +kernel) rfl rfl ?_
  refine xe_lsr (ins := .lstore 4) (len := 2) (i := 4) (by decide +kernel) rfl rfl rfl (by decide) (xk2_k (show ¬ (0 : Nat) = 4 by decide) (show ¬ (0 : Nat) = 4 + 1 by decide) (Or.inl (show ¬ (0 + 1 : Nat) = 4 by decide)) (xk2_k (show ¬ (1 : Nat) = 4 by decide) (show ¬ (1 : Nat) = 4 + 1 by decide) (Or.inl (show ¬ (1 + 1 : Nat) = 4 by decide)) (xk2_k (show ¬ (2 : Nat) = 4 by decide) (show ¬ (2 : Nat) = 4 + 1 by decide) (Or.inl (show ¬ (2 + 1 : Nat) = 4 by decide)) (xk2_k (show ¬ (3 : Nat) = 4 by decide) (show ¬ (3 : Nat) = 4 + 1 by decide) (Or.inr (xI_cat _)) xk2_n)))) rfl ?_
  refine xe_iconst (n := 0) (by decide +kernel) rfl ?_
  refine xe_isr (ins := .istore 6) (len := 2) (i := 6) (by decide +kernel) rfl rfl rfl (by decide) (xk_k (show ¬ (4 : Nat) = 6 by decide) (Or.inl (show ¬ (4 + 1 : Nat) = 6 by decide)) (xk_k (show ¬ (0 : Nat) = 6 by decide) (Or.inl (show ¬ (0 + 1 : Nat) = 6 by decide)) (xk_k (show ¬ (1 : Nat) = 6 by decide) (Or.inl (show ¬ (1 + 1 : Nat) = 6 by decide)) (xk_k (show ¬ (2 : Nat) = 6 by decide) (Or.inl (show ¬ (2 + 1 : Nat) = 6 by decide)) (xk_k (show ¬ (3 : Nat) = 6 by decide) (Or.inl (show ¬ (3 + 1 : Nat) = 6 by decide)) xk_n))))) rfl ?_
  refine xe_ldn (ins := .iload_n 2) (len := 1) (by decide +kernel) rfl rfl rfl rfl ?_
  refine xe_isr (ins := .istore 7) (len := 2) (i := 7) (by decide +kernel) rfl rfl rfl (by decide) (xk_k (show ¬ (6 : Nat) = 7 by decide) (Or.inr (xI_cat _)) (xk_k (show ¬ (4 : Nat) = 7 by decide) (Or.inl (show ¬ (4 + 1 : Nat) = 7 by decide)) (xk_k (show ¬ (0 : Nat) = 7 by decide) (Or.inl (show ¬ (0 + 1 : Nat) = 7 by decide)) (xk_k (show ¬ (1 : Nat) = 7 by decide) (Or.inl (show ¬ (1 + 1 : Nat) = 7 by decide)) (xk_k (show ¬ (2 : Nat) = 7 by decide) (Or.inl (show ¬ (2 + 1 : Nat) = 7 by decide)) (xk_k (show ¬ (3 : Nat) = 7 by decide) (Or.inl (show ¬ (3 + 1 : Nat) = 7 by decide)) xk_n)))))) rfl ?_
  refine xW_lv rfl (l := [(0, xR_ (a0)), (1, xI (a1)), (2, xI (a2)), (3, xI (a3)), (4, xZ (0)), (6, xI (0)), (7, xI (a2))]) (xsb_of ⟨rfl, rfl, rfl, rfl, rfl, rfl, rfl, trivial⟩ (show [7, 6, 4, 0, 1, 2, 3].Nodup by decide)) ?_
  exact k107_9   ha1 ha2 ha3 (show xiN (0) by decide) (show xin (0) by decide) ha2 h
-- ChangeHouse$Tape.addVariable
def xr_117 : xj_mR := (8, yX8_addVariable, cX8_addVariable, 7, (Option.some Jvm.ClassFile.FieldType.int), 1, false, (3, 220), (1, 2))
set_option maxRecDepth 20000 in
theorem xr_117_e : xj_row 117 = some xr_117 := rfl
def f117_119   (f : Nat) (x0 : Nat) (x1 : Int) (x2 : Int) (x4 : Int) (M : xj_M) : Option (Int × xj_M) := ((xq_gr 8 7 (x0) M).bind fun v101 => ((xq_gi 8 2 (x0) M).bind fun v103 => ((xq_is 8 (x0) M).bind fun _ => ((f128  f (x0) (x1) (xwr ((x4) - (x1))) M).bind fun R107 => ((xq_sl (v101) (v103) (R107.1) R107.2).bind fun M109 => ((xq_is 8 (x0) M109).bind fun _ => ((f120  f (x0) (2) (x1) (x4) (x2) M109).bind fun M113 => (some (x4, M113)))))))))
theorem k117_119 {d f : Nat}     {x0 : Nat} {x1 : Int} {x2 : Int} {x4 : Int} {M : xj_M} {R : Int × xj_M} (hx1 : xin x1) (hx2 : xiN x2) (hx4 : xin x4) (h : f117_119   f x0 x1 x2 x4 M = some R) : xW (d + 2) (none, d + 2, none) xr_117 (119, [(0, xR_ x0), (1, xI x1), (2, xZ x2), (4, xI x4)], [], M) (xQi R) := by
  unfold f117_119 at h
  refine xe_alr (ins := .aload_n 0) (len := 1) (i := 0) (by decide +kernel) rfl rfl rfl rfl rfl ?_
  obtain ⟨v101, e102, h⟩ := xbnd h
  refine xs_gr (i := 29) (c := 8) (k := 7) (by decide +kernel) (by decide) (by decide +kernel) e102 rfl ?_
  refine xe_alr (ins := .aload_n 0) (len := 1) (i := 0) (by decide +kernel) rfl rfl rfl rfl rfl ?_
  obtain ⟨v103, e104, h⟩ := xbnd h
  refine xs_gi (i := 36) (c := 8) (k := 2) (by decide +kernel) (by decide) (by decide +kernel) e104 rfl ?_
  refine xe_alr (ins := .aload_n 0) (len := 1) (i := 0) (by decide +kernel) rfl rfl rfl rfl rfl ?_
  refine xe_ldn (ins := .iload_n 1) (len := 1) (by decide +kernel) rfl rfl rfl rfl ?_
  refine xe_ldn (ins := .iload 4) (len := 2) (by decide +kernel) rfl rfl rfl rfl ?_
  refine xe_ldn (ins := .iload_n 1) (len := 1) (by decide +kernel) rfl rfl rfl rfl ?_
  refine xe_isub (by decide +kernel) rfl ?_
  obtain ⟨_, e106, h⟩ := xbnd h
  obtain ⟨R107, e105, h⟩ := xbnd h
  refine xs_cv (i := 111) (j := 128) (ar := [xI (xwr ((x4) - (x1))), xI (x1)]) (rest := [xI (v103), xR_ (v101)]) (r2 := xr_128) (by decide +kernel) (by decide +kernel) (by decide +kernel) xr_128_e rfl (by decide) (by simp only [List.map_cons, List.map_nil, List.sum_cons, List.sum_nil, xR_cat, xI_cat, xZ_cat]; decide) e106 ?_
  refine xc_i (k128 (d := d + 0)  hx1 (xin_wr _) e105) rfl (fun hi108 => ?_)
  refine xe_i2l (by decide +kernel) rfl hi108 ?_
  obtain ⟨M109, e110, h⟩ := xbnd h
  refine xs_last (by decide +kernel) (xq_gi_in e104) e110 rfl ?_
  refine xe_alr (ins := .aload_n 0) (len := 1) (i := 0) (by decide +kernel) rfl rfl rfl rfl rfl ?_
  refine xe_iconst (n := 2) (by decide +kernel) rfl ?_
  refine xe_ldn (ins := .iload_n 1) (len := 1) (by decide +kernel) rfl rfl rfl rfl ?_
  refine xe_ldn (ins := .iload 4) (len := 2) (by decide +kernel) rfl rfl rfl rfl ?_
  refine xe_ldn (ins := .lload_n 2) (len := 1) (by decide +kernel) rfl rfl rfl rfl ?_
  obtain ⟨_, e112, h⟩ := xbnd h
  obtain ⟨M113, e111, h⟩ := xbnd h
  refine xs_cv (i := 65) (j := 120) (ar := [xZ (x2), xI (x4), xI (x1), xI (2)]) (rest := []) (r2 := xr_120) (by decide +kernel) (by decide +kernel) (by decide +kernel) xr_120_e rfl (by decide) (by decide) e112 ?_
  refine xc_v (k120 (d := d + 1)  (show xin (2) by decide) hx1 hx4 hx2 e111) rfl ?_
  refine xe_ldn (ins := .iload 4) (len := 2) (by decide +kernel) rfl rfl rfl rfl ?_
  cases h
  exact xe_ret_i (ty := .int) (by decide +kernel) rfl rfl ⟨rfl, rfl, hx4⟩
def f117_112  (r5 : Nat → Int → Int → Int → xj_M → Option (Int × xj_M)) (f : Nat) (x0 : Nat) (x1 : Int) (x4 : Int) (y0 : Int) (M : xj_M) : Option (Int × xj_M) := r5 (x0) (x1) (y0) (xwr ((x4) + (1))) M
theorem k117_112 {d f : Nat}  {r5 : Nat → Int → Int → Int → xj_M → Option (Int × xj_M)}  (hr5 : ∀ {x0 : Nat} {x1 : Int} {x2 : Int} {x4 : Int} {M : xj_M} {R : Int × xj_M}, xin x1 → xiN x2 → xin x4 → r5 x0 x1 x2 x4 M = some R → xW (d + 2) (none, d + 2, none) xr_117 (5, [(0, xR_ x0), (1, xI x1), (2, xZ x2), (4, xI x4)], [], M) (xQi R)) {x0 : Nat} {x1 : Int} {x4 : Int} {y0 : Int} {M : xj_M} {R : Int × xj_M} (hx1 : xin x1) (hx4 : xin x4) (hy0 : xiN y0) (h : f117_112  r5 f x0 x1 x4 y0 M = some R) : xW (d + 2) (none, d + 2, none) xr_117 (112, [(0, xR_ x0), (1, xI x1), (4, xI x4)], [xZ y0], M) (xQi R) := by
  unfold f117_112 at h
  refine xe_lsr (ins := .lstore_n 2) (len := 1) (i := 2) (by decide +kernel) rfl rfl rfl (by decide) (xk2_k (show ¬ (0 : Nat) = 2 by decide) (show ¬ (0 : Nat) = 2 + 1 by decide) (Or.inl (show ¬ (0 + 1 : Nat) = 2 by decide)) (xk2_k (show ¬ (1 : Nat) = 2 by decide) (show ¬ (1 : Nat) = 2 + 1 by decide) (Or.inr (xI_cat _)) (xk2_k (show ¬ (4 : Nat) = 2 by decide) (show ¬ (4 : Nat) = 2 + 1 by decide) (Or.inl (show ¬ (4 + 1 : Nat) = 2 by decide)) xk2_n))) rfl ?_
  refine xe_iincr (i := 4) (n := 1) (by decide +kernel) (by decide) rfl (xk_k (show ¬ (2 : Nat) = 4 by decide) (Or.inl (show ¬ (2 + 1 : Nat) = 4 by decide)) (xk_k (show ¬ (0 : Nat) = 4 by decide) (Or.inl (show ¬ (0 + 1 : Nat) = 4 by decide)) (xk_k (show ¬ (1 : Nat) = 4 by decide) (Or.inl (show ¬ (1 + 1 : Nat) = 4 by decide)) (xk_d rfl xk_n)))) rfl ?_
  refine xe_goto (off := -111) (nx := 5) (by decide +kernel) (by decide) ?_
  refine xW_lv rfl (l := [(0, xR_ (x0)), (1, xI (x1)), (2, xZ (y0)), (4, xI (xwr ((x4) + (1))))]) (xsb_of ⟨rfl, rfl, rfl, rfl, trivial⟩ (show [4, 2, 0, 1].Nodup by decide)) ?_
  exact hr5 hx1 hy0 (xin_wr _) h
def f117_80  (r5 : Nat → Int → Int → Int → xj_M → Option (Int × xj_M)) (f : Nat) (x0 : Nat) (x1 : Int) (x2 : Int) (x4 : Int) (y0 : Int) (M : xj_M) : Option (Int × xj_M) := (if ¬ (y0) = 0 then (if (8) ≤ (xwr ((x4) - (x1))) then f117_112  r5 f (x0) (x1) (x4) (x2) M else f117_112  r5 f (x0) (x1) (x4) (xwl ((xwl ((x2) * (63))) + (y0))) M) else f117_119   f (x0) (x1) (x2) (x4) M)
theorem k117_80 {d f : Nat}  {r5 : Nat → Int → Int → Int → xj_M → Option (Int × xj_M)}  (hr5 : ∀ {x0 : Nat} {x1 : Int} {x2 : Int} {x4 : Int} {M : xj_M} {R : Int × xj_M}, xin x1 → xiN x2 → xin x4 → r5 x0 x1 x2 x4 M = some R → xW (d + 2) (none, d + 2, none) xr_117 (5, [(0, xR_ x0), (1, xI x1), (2, xZ x2), (4, xI x4)], [], M) (xQi R)) {x0 : Nat} {x1 : Int} {x2 : Int} {x4 : Int} {y0 : Int} {M : xj_M} {R : Int × xj_M} (hx1 : xin x1) (hx2 : xiN x2) (hx4 : xin x4) (hy0 : xin y0) (h : f117_80  r5 f x0 x1 x2 x4 y0 M = some R) : xW (d + 2) (none, d + 2, none) xr_117 (80, [(0, xR_ x0), (1, xI x1), (2, xZ x2), (4, xI x4)], [xI y0], M) (xQi R) := by
  unfold f117_80 at h
  refine xe_isr (ins := .istore 6) (len := 2) (i := 6) (by decide +kernel) rfl rfl rfl (by decide) (xk_k (show ¬ (0 : Nat) = 6 by decide) (Or.inl (show ¬ (0 + 1 : Nat) = 6 by decide)) (xk_k (show ¬ (1 : Nat) = 6 by decide) (Or.inl (show ¬ (1 + 1 : Nat) = 6 by decide)) (xk_k (show ¬ (2 : Nat) = 6 by decide) (Or.inl (show ¬ (2 + 1 : Nat) = 6 by decide)) (xk_k (show ¬ (4 : Nat) = 6 by decide) (Or.inl (show ¬ (4 + 1 : Nat) = 6 by decide)) xk_n)))) rfl ?_
  refine xe_ldn (ins := .iload 6) (len := 2) (by decide +kernel) rfl rfl rfl rfl ?_
  refine xe_ifne (off := 6) (t := 90) (by decide +kernel) (by decide) rfl hy0 (fun c115 => ?_) (fun c115 => ?_)
  · rw [if_pos c115] at h
    refine xe_ldn (ins := .iload 4) (len := 2) (by decide +kernel) rfl rfl rfl rfl ?_
    refine xe_ldn (ins := .iload_n 1) (len := 1) (by decide +kernel) rfl rfl rfl rfl ?_
    refine xe_isub (by decide +kernel) rfl ?_
    refine xe_bipush (n := 8) (by decide +kernel) (by decide) rfl ?_
    refine xe_icmpge (off := 15) (t := 111) (by decide +kernel) (by decide) rfl (xin_wr _) (show xin (8) by decide) (fun c116 => ?_) (fun c116 => ?_)
    · rw [if_pos c116] at h
      refine xe_ldn (ins := .lload_n 2) (len := 1) (by decide +kernel) rfl rfl rfl rfl ?_
      refine xW_lv rfl (l := [(0, xR_ (x0)), (1, xI (x1)), (4, xI (x4))]) (xsb_of ⟨rfl, rfl, rfl, trivial⟩ (show [6, 0, 1, 2, 4].Nodup by decide)) ?_
      exact k117_112  hr5 hx1 hx4 hx2 h
    · rw [if_neg c116] at h
      refine xe_ldn (ins := .lload_n 2) (len := 1) (by decide +kernel) rfl rfl rfl rfl ?_
      refine xe_ldc2 (i := 109) (n := 63) (by decide +kernel) (by decide +kernel) rfl ?_
      refine xe_lmul (by decide +kernel) rfl ?_
      refine xe_ldn (ins := .iload 6) (len := 2) (by decide +kernel) rfl rfl rfl rfl ?_
      refine xe_i2l (by decide +kernel) rfl hy0 ?_
      refine xe_ladd (by decide +kernel) rfl ?_
      refine xe_goto (off := 4) (nx := 112) (by decide +kernel) (by decide) ?_
      refine xW_lv rfl (l := [(0, xR_ (x0)), (1, xI (x1)), (4, xI (x4))]) (xsb_of ⟨rfl, rfl, rfl, trivial⟩ (show [6, 0, 1, 2, 4].Nodup by decide)) ?_
      exact k117_112  hr5 hx1 hx4 (xiN_wl _) h
  · rw [if_neg c115] at h
    refine xe_goto (off := 32) (nx := 119) (by decide +kernel) (by decide) ?_
    refine xW_lv rfl (l := [(0, xR_ (x0)), (1, xI (x1)), (2, xZ (x2)), (4, xI (x4))]) (xsb_of ⟨rfl, rfl, rfl, rfl, trivial⟩ (show [6, 0, 1, 2, 4].Nodup by decide)) ?_
    exact k117_119   hx1 hx2 hx4 h
def f117_5b  (r5 : Nat → Int → Int → Int → xj_M → Option (Int × xj_M)) (f : Nat) (x0 : Nat) (x1 : Int) (x2 : Int) (x4 : Int) (M : xj_M) : Option (Int × xj_M) := ((xq_gi 8 1 (x0) M).bind fun v117 => (if (v117) ≤ (x4) then f117_119   f (x0) (x1) (x2) (x4) M else ((xq_gr 8 0 (x0) M).bind fun v120 => ((xq_ai 2 (v120) (x4) M).bind fun v122 => ((f122  f (v122) M).bind fun R125 => (if (R125.1) = 0 then ((f121  f (v122) R125.2).bind fun R129 => (if (R129.1) = 0 then ((f123  f (v122) R129.2).bind fun R133 => (if (R133.1) = 0 then f117_80  r5 f (x0) (x1) (x2) (x4) (0) R133.2 else f117_80  r5 f (x0) (x1) (x2) (x4) (xwr ((xwr ((v122) - (48))) + (53))) R133.2)) else f117_80  r5 f (x0) (x1) (x2) (x4) (xwr ((xwr ((v122) - (97))) + (27))) R129.2)) else f117_80  r5 f (x0) (x1) (x2) (x4) (xwr ((xwr ((v122) - (65))) + (1))) R125.2))))))
theorem k117_5b {d f : Nat}  {r5 : Nat → Int → Int → Int → xj_M → Option (Int × xj_M)}  (hr5 : ∀ {x0 : Nat} {x1 : Int} {x2 : Int} {x4 : Int} {M : xj_M} {R : Int × xj_M}, xin x1 → xiN x2 → xin x4 → r5 x0 x1 x2 x4 M = some R → xW (d + 2) (none, d + 2, none) xr_117 (5, [(0, xR_ x0), (1, xI x1), (2, xZ x2), (4, xI x4)], [], M) (xQi R)) {x0 : Nat} {x1 : Int} {x2 : Int} {x4 : Int} {M : xj_M} {R : Int × xj_M} (hx1 : xin x1) (hx2 : xiN x2) (hx4 : xin x4) (h : f117_5b  r5 f x0 x1 x2 x4 M = some R) : xW (d + 2) (none, d + 2, none) xr_117 (5, [(0, xR_ x0), (1, xI x1), (2, xZ x2), (4, xI x4)], [], M) (xQi R) := by
  unfold f117_5b at h
  refine xe_ldn (ins := .iload 4) (len := 2) (by decide +kernel) rfl rfl rfl rfl ?_
  refine xe_alr (ins := .aload_n 0) (len := 1) (i := 0) (by decide +kernel) rfl rfl rfl rfl rfl ?_
  obtain ⟨v117, e118, h⟩ := xbnd h
  refine xs_gi (i := 32) (c := 8) (k := 1) (by decide +kernel) (by decide) (by decide +kernel) e118 rfl ?_
  refine xe_icmpge (off := 108) (t := 119) (by decide +kernel) (by decide) rfl hx4 (xq_gi_in e118) (fun c119 => ?_) (fun c119 => ?_)
  · rw [if_pos c119] at h
    refine xW_lv rfl (l := [(0, xR_ (x0)), (1, xI (x1)), (2, xZ (x2)), (4, xI (x4))]) (xsb_of ⟨rfl, rfl, rfl, rfl, trivial⟩ (show [0, 1, 2, 4].Nodup by decide)) ?_
    exact k117_119   hx1 hx2 hx4 h
  · rw [if_neg c119] at h
    refine xe_alr (ins := .aload_n 0) (len := 1) (i := 0) (by decide +kernel) rfl rfl rfl rfl rfl ?_
    obtain ⟨v120, e121, h⟩ := xbnd h
    refine xs_gr (i := 9) (c := 8) (k := 0) (by decide +kernel) (by decide) (by decide +kernel) e121 rfl ?_
    refine xe_ldn (ins := .iload 4) (len := 2) (by decide +kernel) rfl rfl rfl rfl ?_
    obtain ⟨v122, e123, h⟩ := xbnd h
    refine xs_cald (by decide +kernel) hx4 e123 rfl ?_
    refine xe_isr (ins := .istore 5) (len := 2) (i := 5) (by decide +kernel) rfl rfl rfl (by decide) (xk_k (show ¬ (0 : Nat) = 5 by decide) (Or.inl (show ¬ (0 + 1 : Nat) = 5 by decide)) (xk_k (show ¬ (1 : Nat) = 5 by decide) (Or.inl (show ¬ (1 + 1 : Nat) = 5 by decide)) (xk_k (show ¬ (2 : Nat) = 5 by decide) (Or.inl (show ¬ (2 + 1 : Nat) = 5 by decide)) (xk_k (show ¬ (4 : Nat) = 5 by decide) (Or.inr (xI_cat _)) xk_n)))) rfl ?_
    refine xe_ldn (ins := .iload 5) (len := 2) (by decide +kernel) rfl rfl rfl rfl ?_
    obtain ⟨R125, e124, h⟩ := xbnd h
    refine xs_cs (kd := 2) (by decide) (i := 50) (j := 122) (ar := [xI (v122)]) (rest := []) (r2 := xr_122) (by decide +kernel) (by decide +kernel) (by decide +kernel) xr_122_e rfl (by decide) ?_
    refine xc_i (k122 (d := d + 1)  (xq_ai_in e123) e124) rfl (fun hi126 => ?_)
    refine xe_ifeq (off := 13) (t := 41) (by decide +kernel) (by decide) rfl hi126 (fun c127 => ?_) (fun c127 => ?_)
    · rw [if_pos c127] at h
      refine xe_ldn (ins := .iload 5) (len := 2) (by decide +kernel) rfl rfl rfl rfl ?_
      obtain ⟨R129, e128, h⟩ := xbnd h
      refine xs_cs (kd := 2) (by decide) (i := 43) (j := 121) (ar := [xI (v122)]) (rest := []) (r2 := xr_121) (by decide +kernel) (by decide +kernel) (by decide +kernel) xr_121_e rfl (by decide) ?_
      refine xc_i (k121 (d := d + 1)  (xq_ai_in e123) e128) rfl (fun hi130 => ?_)
      refine xe_ifeq (off := 14) (t := 60) (by decide +kernel) (by decide) rfl hi130 (fun c131 => ?_) (fun c131 => ?_)
      · rw [if_pos c131] at h
        refine xe_ldn (ins := .iload 5) (len := 2) (by decide +kernel) rfl rfl rfl rfl ?_
        obtain ⟨R133, e132, h⟩ := xbnd h
        refine xs_cs (kd := 2) (by decide) (i := 56) (j := 123) (ar := [xI (v122)]) (rest := []) (r2 := xr_123) (by decide +kernel) (by decide +kernel) (by decide +kernel) xr_123_e rfl (by decide) ?_
        refine xc_i (k123 (d := d + 1)  (xq_ai_in e123) e132) rfl (fun hi134 => ?_)
        refine xe_ifeq (off := 14) (t := 79) (by decide +kernel) (by decide) rfl hi134 (fun c135 => ?_) (fun c135 => ?_)
        · rw [if_pos c135] at h
          refine xe_iconst (n := 0) (by decide +kernel) rfl ?_
          refine xW_lv rfl (l := [(0, xR_ (x0)), (1, xI (x1)), (2, xZ (x2)), (4, xI (x4))]) (xsb_of ⟨rfl, rfl, rfl, rfl, trivial⟩ (show [5, 0, 1, 2, 4].Nodup by decide)) ?_
          exact k117_80  hr5 hx1 hx2 hx4 (show xin (0) by decide) h
        · rw [if_neg c135] at h
          refine xe_ldn (ins := .iload 5) (len := 2) (by decide +kernel) rfl rfl rfl rfl ?_
          refine xe_bipush (n := 48) (by decide +kernel) (by decide) rfl ?_
          refine xe_isub (by decide +kernel) rfl ?_
          refine xe_bipush (n := 53) (by decide +kernel) (by decide) rfl ?_
          refine xe_iadd (by decide +kernel) rfl ?_
          refine xe_goto (off := 4) (nx := 80) (by decide +kernel) (by decide) ?_
          refine xW_lv rfl (l := [(0, xR_ (x0)), (1, xI (x1)), (2, xZ (x2)), (4, xI (x4))]) (xsb_of ⟨rfl, rfl, rfl, rfl, trivial⟩ (show [5, 0, 1, 2, 4].Nodup by decide)) ?_
          exact k117_80  hr5 hx1 hx2 hx4 (xin_wr _) h
      · rw [if_neg c131] at h
        refine xe_ldn (ins := .iload 5) (len := 2) (by decide +kernel) rfl rfl rfl rfl ?_
        refine xe_bipush (n := 97) (by decide +kernel) (by decide) rfl ?_
        refine xe_isub (by decide +kernel) rfl ?_
        refine xe_bipush (n := 27) (by decide +kernel) (by decide) rfl ?_
        refine xe_iadd (by decide +kernel) rfl ?_
        refine xe_goto (off := 23) (nx := 80) (by decide +kernel) (by decide) ?_
        refine xW_lv rfl (l := [(0, xR_ (x0)), (1, xI (x1)), (2, xZ (x2)), (4, xI (x4))]) (xsb_of ⟨rfl, rfl, rfl, rfl, trivial⟩ (show [5, 0, 1, 2, 4].Nodup by decide)) ?_
        exact k117_80  hr5 hx1 hx2 hx4 (xin_wr _) h
    · rw [if_neg c127] at h
      refine xe_ldn (ins := .iload 5) (len := 2) (by decide +kernel) rfl rfl rfl rfl ?_
      refine xe_bipush (n := 65) (by decide +kernel) (by decide) rfl ?_
      refine xe_isub (by decide +kernel) rfl ?_
      refine xe_iconst (n := 1) (by decide +kernel) rfl ?_
      refine xe_iadd (by decide +kernel) rfl ?_
      refine xe_goto (off := 42) (nx := 80) (by decide +kernel) (by decide) ?_
      refine xW_lv rfl (l := [(0, xR_ (x0)), (1, xI (x1)), (2, xZ (x2)), (4, xI (x4))]) (xsb_of ⟨rfl, rfl, rfl, rfl, trivial⟩ (show [5, 0, 1, 2, 4].Nodup by decide)) ?_
      exact k117_80  hr5 hx1 hx2 hx4 (xin_wr _) h
def f117_5   (f : Nat) : Nat → Nat → Int → Int → Int → xj_M → Option (Int × xj_M)
  | 0, _, _, _, _, _ => none
  | n + 1, x0, x1, x2, x4, M => f117_5b   (f117_5   f n) f x0 x1 x2 x4 M
theorem k117_5 {d f : Nat}     : ∀ {n : Nat} {x0 : Nat} {x1 : Int} {x2 : Int} {x4 : Int} {M : xj_M} {R : Int × xj_M}, xin x1 → xiN x2 → xin x4 → f117_5   f n x0 x1 x2 x4 M = some R → xW (d + 2) (none, d + 2, none) xr_117 (5, [(0, xR_ x0), (1, xI x1), (2, xZ x2), (4, xI x4)], [], M) (xQi R) := by
  intro n
  induction n with
  | zero => intros; rename_i h; cases h
  | succ n ih => intros; rename_i h; exact k117_5b   ih (by assumption) (by assumption) (by assumption) h
def f117  (f : Nat) (a0 : Nat) (a1 : Int) (M : xj_M) : Option (Int × xj_M) := f117_5   f f (a0) (a1) (0) (a1) M
theorem k117 {d f : Nat}   {a0 : Nat} {a1 : Int} {M : xj_M} {R : Int × xj_M} (ha1 : xin a1) (h : f117  f a0 a1 M = some R) : xT (d + 3) 117 [xR_ a0, xI a1] M (xQi R) := by
  refine xT_m xr_117_e (X := (none, d + 2, none)) rfl (xa_1 (xR_cat _) (xa_1 (xI_cat _) xa_n)) (by decide) ?_
  unfold f117 at h
  refine xe_lconst (n := 0) (z := 0) (by decide +kernel) rfl rfl ?_
  refine xe_lsr (ins := .lstore_n 2) (len := 1) (i := 2) (by decide +kernel) rfl rfl rfl (by decide) (xk2_k (show ¬ (0 : Nat) = 2 by decide) (show ¬ (0 : Nat) = 2 + 1 by decide) (Or.inl (show ¬ (0 + 1 : Nat) = 2 by decide)) (xk2_k (show ¬ (1 : Nat) = 2 by decide) (show ¬ (1 : Nat) = 2 + 1 by decide) (Or.inr (xI_cat _)) xk2_n)) rfl ?_
  refine xe_ldn (ins := .iload_n 1) (len := 1) (by decide +kernel) rfl rfl rfl rfl ?_
  refine xe_isr (ins := .istore 4) (len := 2) (i := 4) (by decide +kernel) rfl rfl rfl (by decide) (xk_k (show ¬ (2 : Nat) = 4 by decide) (Or.inl (show ¬ (2 + 1 : Nat) = 4 by decide)) (xk_k (show ¬ (0 : Nat) = 4 by decide) (Or.inl (show ¬ (0 + 1 : Nat) = 4 by decide)) (xk_k (show ¬ (1 : Nat) = 4 by decide) (Or.inl (show ¬ (1 + 1 : Nat) = 4 by decide)) xk_n))) rfl ?_
  refine xW_lv rfl (l := [(0, xR_ (a0)), (1, xI (a1)), (2, xZ (0)), (4, xI (a1))]) (xsb_of ⟨rfl, rfl, rfl, rfl, trivial⟩ (show [4, 2, 0, 1].Nodup by decide)) ?_
  exact k117_5   ha1 (show xiN (0) by decide) ha1 h
-- ChangeHouse$Tape.addNumber
def xr_118 : xj_mR := (8, yX8_addNumber, cX8_addNumber, 5, (Option.some Jvm.ClassFile.FieldType.int), 1, false, (3, 229), (1, 2))
set_option maxRecDepth 20000 in
theorem xr_118_e : xj_row 118 = some xr_118 := rfl
def f118_75   (f : Nat) (x0 : Nat) (x1 : Int) (x2 : Int) (x4 : Int) (M : xj_M) : Option (Int × xj_M) := ((xq_is 8 (x0) M).bind fun _ => ((f120  f (x0) (4) (x1) (x4) (x2) M).bind fun M103 => (some (x4, M103))))
theorem k118_75 {d f : Nat}     {x0 : Nat} {x1 : Int} {x2 : Int} {x4 : Int} {M : xj_M} {R : Int × xj_M} (hx1 : xin x1) (hx2 : xiN x2) (hx4 : xin x4) (h : f118_75   f x0 x1 x2 x4 M = some R) : xW (d + 1) (none, d + 1, none) xr_118 (75, [(0, xR_ x0), (1, xI x1), (2, xZ x2), (4, xI x4)], [], M) (xQi R) := by
  unfold f118_75 at h
  refine xe_alr (ins := .aload_n 0) (len := 1) (i := 0) (by decide +kernel) rfl rfl rfl rfl rfl ?_
  refine xe_iconst (n := 4) (by decide +kernel) rfl ?_
  refine xe_ldn (ins := .iload_n 1) (len := 1) (by decide +kernel) rfl rfl rfl rfl ?_
  refine xe_ldn (ins := .iload 4) (len := 2) (by decide +kernel) rfl rfl rfl rfl ?_
  refine xe_ldn (ins := .lload_n 2) (len := 1) (by decide +kernel) rfl rfl rfl rfl ?_
  obtain ⟨_, e102, h⟩ := xbnd h
  obtain ⟨M103, e101, h⟩ := xbnd h
  refine xs_cv (i := 65) (j := 120) (ar := [xZ (x2), xI (x4), xI (x1), xI (4)]) (rest := []) (r2 := xr_120) (by decide +kernel) (by decide +kernel) (by decide +kernel) xr_120_e rfl (by decide) (by decide) e102 ?_
  refine xc_v (k120 (d := d + 0)  (show xin (4) by decide) hx1 hx4 hx2 e101) rfl ?_
  refine xe_ldn (ins := .iload 4) (len := 2) (by decide +kernel) rfl rfl rfl rfl ?_
  cases h
  exact xe_ret_i (ty := .int) (by decide +kernel) rfl rfl ⟨rfl, rfl, hx4⟩
def f118_16b  (r16 : Nat → Int → Int → Int → xj_M → Option (Int × xj_M)) (f : Nat) (x0 : Nat) (x1 : Int) (x2 : Int) (x4 : Int) (M : xj_M) : Option (Int × xj_M) := (if (x2) = (0) then f118_75   f (x0) (x1) (x2) (x4) M else ((xq_gi 8 1 (x0) M).bind fun v106 => (if (v106) ≤ (x4) then f118_75   f (x0) (x1) (x2) (x4) M else ((xq_gr 8 0 (x0) M).bind fun v109 => ((xq_ai 2 (v109) (x4) M).bind fun v111 => ((f123  f (v111) M).bind fun R114 => (if (R114.1) = 0 then f118_75   f (x0) (x1) (x2) (x4) R114.2 else ((xq_gr 8 0 (x0) R114.2).bind fun v117 => ((xq_ai 2 (v117) (x4) R114.2).bind fun v119 => r16 (x0) (x1) (xmin (xwl ((xwl ((xwl ((x2) * (10))) + (v119))) - (48))) (1000000000001)) (xwr ((x4) + (1))) R114.2)))))))))
theorem k118_16b {d f : Nat}  {r16 : Nat → Int → Int → Int → xj_M → Option (Int × xj_M)}  (hr16 : ∀ {x0 : Nat} {x1 : Int} {x2 : Int} {x4 : Int} {M : xj_M} {R : Int × xj_M}, xin x1 → xiN x2 → xin x4 → r16 x0 x1 x2 x4 M = some R → xW (d + 1) (none, d + 1, none) xr_118 (16, [(0, xR_ x0), (1, xI x1), (2, xZ x2), (4, xI x4)], [], M) (xQi R)) {x0 : Nat} {x1 : Int} {x2 : Int} {x4 : Int} {M : xj_M} {R : Int × xj_M} (hx1 : xin x1) (hx2 : xiN x2) (hx4 : xin x4) (h : f118_16b  r16 f x0 x1 x2 x4 M = some R) : xW (d + 1) (none, d + 1, none) xr_118 (16, [(0, xR_ x0), (1, xI x1), (2, xZ x2), (4, xI x4)], [], M) (xQi R) := by
  unfold f118_16b at h
  refine xe_ldn (ins := .lload_n 2) (len := 1) (by decide +kernel) rfl rfl rfl rfl ?_
  refine xe_lconst (n := 0) (z := 0) (by decide +kernel) rfl rfl ?_
  refine xe_lcmp (by decide +kernel) rfl hx2 (show xiN (0) by decide) ?_
  refine xe_ifeq (off := 56) (t := 75) (by decide +kernel) (by decide) rfl (xin_cmp8 _ _) (fun c105 => ?_) (fun c105 => ?_)
  · have c105 := xcmp8_eq.mp c105; rw [if_pos c105] at h
    refine xW_lv rfl (l := [(0, xR_ (x0)), (1, xI (x1)), (2, xZ (x2)), (4, xI (x4))]) (xsb_of ⟨rfl, rfl, rfl, rfl, trivial⟩ (show [0, 1, 2, 4].Nodup by decide)) ?_
    exact k118_75   hx1 hx2 hx4 h
  · have c105 := (not_congr xcmp8_eq).mp c105; rw [if_neg c105] at h
    refine xe_ldn (ins := .iload 4) (len := 2) (by decide +kernel) rfl rfl rfl rfl ?_
    refine xe_alr (ins := .aload_n 0) (len := 1) (i := 0) (by decide +kernel) rfl rfl rfl rfl rfl ?_
    obtain ⟨v106, e107, h⟩ := xbnd h
    refine xs_gi (i := 32) (c := 8) (k := 1) (by decide +kernel) (by decide) (by decide +kernel) e107 rfl ?_
    refine xe_icmpge (off := 47) (t := 75) (by decide +kernel) (by decide) rfl hx4 (xq_gi_in e107) (fun c108 => ?_) (fun c108 => ?_)
    · rw [if_pos c108] at h
      refine xW_lv rfl (l := [(0, xR_ (x0)), (1, xI (x1)), (2, xZ (x2)), (4, xI (x4))]) (xsb_of ⟨rfl, rfl, rfl, rfl, trivial⟩ (show [0, 1, 2, 4].Nodup by decide)) ?_
      exact k118_75   hx1 hx2 hx4 h
    · rw [if_neg c108] at h
      refine xe_alr (ins := .aload_n 0) (len := 1) (i := 0) (by decide +kernel) rfl rfl rfl rfl rfl ?_
      obtain ⟨v109, e110, h⟩ := xbnd h
      refine xs_gr (i := 9) (c := 8) (k := 0) (by decide +kernel) (by decide) (by decide +kernel) e110 rfl ?_
      refine xe_ldn (ins := .iload 4) (len := 2) (by decide +kernel) rfl rfl rfl rfl ?_
      obtain ⟨v111, e112, h⟩ := xbnd h
      refine xs_cald (by decide +kernel) hx4 e112 rfl ?_
      obtain ⟨R114, e113, h⟩ := xbnd h
      refine xs_cs (kd := 2) (by decide) (i := 56) (j := 123) (ar := [xI (v111)]) (rest := []) (r2 := xr_123) (by decide +kernel) (by decide +kernel) (by decide +kernel) xr_123_e rfl (by decide) ?_
      refine xc_i (k123 (d := d + 0)  (xq_ai_in e112) e113) rfl (fun hi115 => ?_)
      refine xe_ifeq (off := 34) (t := 75) (by decide +kernel) (by decide) rfl hi115 (fun c116 => ?_) (fun c116 => ?_)
      · rw [if_pos c116] at h
        refine xW_lv rfl (l := [(0, xR_ (x0)), (1, xI (x1)), (2, xZ (x2)), (4, xI (x4))]) (xsb_of ⟨rfl, rfl, rfl, rfl, trivial⟩ (show [0, 1, 2, 4].Nodup by decide)) ?_
        exact k118_75   hx1 hx2 hx4 h
      · rw [if_neg c116] at h
        refine xe_ldn (ins := .lload_n 2) (len := 1) (by decide +kernel) rfl rfl rfl rfl ?_
        refine xe_ldc2 (i := 114) (n := 10) (by decide +kernel) (by decide +kernel) rfl ?_
        refine xe_lmul (by decide +kernel) rfl ?_
        refine xe_alr (ins := .aload_n 0) (len := 1) (i := 0) (by decide +kernel) rfl rfl rfl rfl rfl ?_
        obtain ⟨v117, e118, h⟩ := xbnd h
        refine xs_gr (i := 9) (c := 8) (k := 0) (by decide +kernel) (by decide) (by decide +kernel) e118 rfl ?_
        refine xe_ldn (ins := .iload 4) (len := 2) (by decide +kernel) rfl rfl rfl rfl ?_
        obtain ⟨v119, e120, h⟩ := xbnd h
        refine xs_cald (by decide +kernel) hx4 e120 rfl ?_
        refine xe_i2l (by decide +kernel) rfl (xq_ai_in e120) ?_
        refine xe_ladd (by decide +kernel) rfl ?_
        refine xe_ldc2 (i := 116) (n := 48) (by decide +kernel) (by decide +kernel) rfl ?_
        refine xe_lsub (by decide +kernel) rfl ?_
        refine xe_ldc2 (i := 118) (n := 1000000000001) (by decide +kernel) (by decide +kernel) rfl ?_
        refine xe_xmnl (i := 120) (by decide +kernel) (by decide +kernel) (by decide +kernel) (by rfl) rfl (xiN_wl _) (show xiN (1000000000001) by decide) ?_
        refine xe_lsr (ins := .lstore_n 2) (len := 1) (i := 2) (by decide +kernel) rfl rfl rfl (by decide) (xk2_k (show ¬ (0 : Nat) = 2 by decide) (show ¬ (0 : Nat) = 2 + 1 by decide) (Or.inl (show ¬ (0 + 1 : Nat) = 2 by decide)) (xk2_k (show ¬ (1 : Nat) = 2 by decide) (show ¬ (1 : Nat) = 2 + 1 by decide) (Or.inr (xI_cat _)) (xk2_d (Or.inl rfl) (xk2_k (show ¬ (4 : Nat) = 2 by decide) (show ¬ (4 : Nat) = 2 + 1 by decide) (Or.inl (show ¬ (4 + 1 : Nat) = 2 by decide)) xk2_n)))) rfl ?_
        refine xe_iincr (i := 4) (n := 1) (by decide +kernel) (by decide) rfl (xk_k (show ¬ (2 : Nat) = 4 by decide) (Or.inl (show ¬ (2 + 1 : Nat) = 4 by decide)) (xk_k (show ¬ (0 : Nat) = 4 by decide) (Or.inl (show ¬ (0 + 1 : Nat) = 4 by decide)) (xk_k (show ¬ (1 : Nat) = 4 by decide) (Or.inl (show ¬ (1 + 1 : Nat) = 4 by decide)) (xk_d rfl xk_n)))) rfl ?_
        refine xe_goto (off := -56) (nx := 16) (by decide +kernel) (by decide) ?_
        refine xW_lv rfl (l := [(0, xR_ (x0)), (1, xI (x1)), (2, xZ (xmin (xwl ((xwl ((xwl ((x2) * (10))) + (v119))) - (48))) (1000000000001))), (4, xI (xwr ((x4) + (1))))]) (xsb_of ⟨rfl, rfl, rfl, rfl, trivial⟩ (show [4, 2, 0, 1].Nodup by decide)) ?_
        exact hr16 hx1 (xmin_iN (xiN_wl _) (show xiN (1000000000001) by decide)) (xin_wr _) h
def f118_16   (f : Nat) : Nat → Nat → Int → Int → Int → xj_M → Option (Int × xj_M)
  | 0, _, _, _, _, _ => none
  | n + 1, x0, x1, x2, x4, M => f118_16b   (f118_16   f n) f x0 x1 x2 x4 M
theorem k118_16 {d f : Nat}     : ∀ {n : Nat} {x0 : Nat} {x1 : Int} {x2 : Int} {x4 : Int} {M : xj_M} {R : Int × xj_M}, xin x1 → xiN x2 → xin x4 → f118_16   f n x0 x1 x2 x4 M = some R → xW (d + 1) (none, d + 1, none) xr_118 (16, [(0, xR_ x0), (1, xI x1), (2, xZ x2), (4, xI x4)], [], M) (xQi R) := by
  intro n
  induction n with
  | zero => intros; rename_i h; cases h
  | succ n ih => intros; rename_i h; exact k118_16b   ih (by assumption) (by assumption) (by assumption) h
def f118  (f : Nat) (a0 : Nat) (a1 : Int) (M : xj_M) : Option (Int × xj_M) := ((xq_gr 8 0 (a0) M).bind fun v121 => ((xq_ai 2 (v121) (a1) M).bind fun v123 => f118_16   f f (a0) (a1) (xwr ((v123) - (48))) (xwr ((a1) + (1))) M))
theorem k118 {d f : Nat}   {a0 : Nat} {a1 : Int} {M : xj_M} {R : Int × xj_M} (ha1 : xin a1) (h : f118  f a0 a1 M = some R) : xT (d + 2) 118 [xR_ a0, xI a1] M (xQi R) := by
  refine xT_m xr_118_e (X := (none, d + 1, none)) rfl (xa_1 (xR_cat _) (xa_1 (xI_cat _) xa_n)) (by decide) ?_
  unfold f118 at h
  refine xe_alr (ins := .aload_n 0) (len := 1) (i := 0) (by decide +kernel) rfl rfl rfl rfl rfl ?_
  obtain ⟨v121, e122, h⟩ := xbnd h
  refine xs_gr (i := 9) (c := 8) (k := 0) (by decide +kernel) (by decide) (by decide +kernel) e122 rfl ?_
  refine xe_ldn (ins := .iload_n 1) (len := 1) (by decide +kernel) rfl rfl rfl rfl ?_
  obtain ⟨v123, e124, h⟩ := xbnd h
  refine xs_cald (by decide +kernel) ha1 e124 rfl ?_
  refine xe_bipush (n := 48) (by decide +kernel) (by decide) rfl ?_
  refine xe_isub (by decide +kernel) rfl ?_
  refine xe_i2l (by decide +kernel) rfl (xin_wr _) ?_
  refine xe_lsr (ins := .lstore_n 2) (len := 1) (i := 2) (by decide +kernel) rfl rfl rfl (by decide) (xk2_k (show ¬ (0 : Nat) = 2 by decide) (show ¬ (0 : Nat) = 2 + 1 by decide) (Or.inl (show ¬ (0 + 1 : Nat) = 2 by decide)) (xk2_k (show ¬ (1 : Nat) = 2 by decide) (show ¬ (1 : Nat) = 2 + 1 by decide) (Or.inr (xI_cat _)) xk2_n)) rfl ?_
  refine xe_ldn (ins := .iload_n 1) (len := 1) (by decide +kernel) rfl rfl rfl rfl ?_
  refine xe_iconst (n := 1) (by decide +kernel) rfl ?_
  refine xe_iadd (by decide +kernel) rfl ?_
  refine xe_isr (ins := .istore 4) (len := 2) (i := 4) (by decide +kernel) rfl rfl rfl (by decide) (xk_k (show ¬ (2 : Nat) = 4 by decide) (Or.inl (show ¬ (2 + 1 : Nat) = 4 by decide)) (xk_k (show ¬ (0 : Nat) = 4 by decide) (Or.inl (show ¬ (0 + 1 : Nat) = 4 by decide)) (xk_k (show ¬ (1 : Nat) = 4 by decide) (Or.inl (show ¬ (1 + 1 : Nat) = 4 by decide)) xk_n))) rfl ?_
  refine xW_lv rfl (l := [(0, xR_ (a0)), (1, xI (a1)), (2, xZ (xwr ((v123) - (48)))), (4, xI (xwr ((a1) + (1))))]) (xsb_of ⟨rfl, rfl, rfl, rfl, trivial⟩ (show [4, 2, 0, 1].Nodup by decide)) ?_
  exact k118_16   ha1 (xin_N (xin_wr _)) (xin_wr _) h
-- ChangeHouse$Ways.open
def xr_130 : xj_mR := (9, yX9_open, cX9_open, 4, (Option.none : Option Jvm.ClassFile.FieldType), 3, false, (6, 163), (1, 4))
set_option maxRecDepth 20000 in
theorem xr_130_e : xj_row 130 = some xr_130 := rfl
def f130  (f : Nat) (a0 : Nat) (a1 : Nat) (a2 : Nat) (a3 : Int) (M : xj_M) : Option (xj_M) := ((xq_pr 9 3 (a0) (a1) M).bind fun M101 => ((xq_pr 9 4 (a0) (a2) M101).bind fun M103 => ((xq_pi 9 5 (a0) (a3) M103).bind fun M105 => ((xq_pi 9 6 (a0) (0) M105).bind fun M107 => ((xq_pi 9 7 (a0) (1) M107).bind fun M109 => ((xq_gr 9 8 (a0) M109).bind fun v111 => ((xq_si (v111) (0) (0) M109).bind fun M113 => ((xq_gr 9 1 (a0) M113).bind fun v115 => ((f382  f (v115) (0) M113).bind fun M118 => ((xq_gr 9 2 (a0) M118).bind fun v120 => ((f382  f (v120) (1700) M118).bind fun M123 => (some M123))))))))))))
theorem k130 {d f : Nat}   {a0 : Nat} {a1 : Nat} {a2 : Nat} {a3 : Int} {M : xj_M} {R : xj_M} (ha3 : xin a3) (h : f130  f a0 a1 a2 a3 M = some R) : xT (d + 2) 130 [xR_ a0, xR_ a1, xR_ a2, xI a3] M (xQv R) := by
  refine xT_m xr_130_e (X := (none, d + 1, none)) rfl (xa_1 (xR_cat _) (xa_1 (xR_cat _) (xa_1 (xR_cat _) (xa_1 (xI_cat _) xa_n)))) (by decide) ?_
  unfold f130 at h
  refine xe_alr (ins := .aload_n 0) (len := 1) (i := 0) (by decide +kernel) rfl rfl rfl rfl rfl ?_
  refine xe_alr (ins := .aload_n 1) (len := 1) (i := 1) (by decide +kernel) rfl rfl rfl rfl rfl ?_
  obtain ⟨M101, e102, h⟩ := xbnd h
  refine xs_p (i := 40) (c := 9) (k := 3) (by decide +kernel) (by decide +kernel) (by decide +kernel) e102 rfl ?_
  refine xe_alr (ins := .aload_n 0) (len := 1) (i := 0) (by decide +kernel) rfl rfl rfl rfl rfl ?_
  refine xe_alr (ins := .aload_n 2) (len := 1) (i := 2) (by decide +kernel) rfl rfl rfl rfl rfl ?_
  obtain ⟨M103, e104, h⟩ := xbnd h
  refine xs_p (i := 44) (c := 9) (k := 4) (by decide +kernel) (by decide +kernel) (by decide +kernel) e104 rfl ?_
  refine xe_alr (ins := .aload_n 0) (len := 1) (i := 0) (by decide +kernel) rfl rfl rfl rfl rfl ?_
  refine xe_ldn (ins := .iload_n 3) (len := 1) (by decide +kernel) rfl rfl rfl rfl ?_
  obtain ⟨M105, e106, h⟩ := xbnd h
  refine xs_p (i := 48) (c := 9) (k := 5) (by decide +kernel) (by decide +kernel) (by decide +kernel) e106 rfl ?_
  refine xe_alr (ins := .aload_n 0) (len := 1) (i := 0) (by decide +kernel) rfl rfl rfl rfl rfl ?_
  refine xe_iconst (n := 0) (by decide +kernel) rfl ?_
  obtain ⟨M107, e108, h⟩ := xbnd h
  refine xs_p (i := 52) (c := 9) (k := 6) (by decide +kernel) (by decide +kernel) (by decide +kernel) e108 rfl ?_
  refine xe_alr (ins := .aload_n 0) (len := 1) (i := 0) (by decide +kernel) rfl rfl rfl rfl rfl ?_
  refine xe_iconst (n := 1) (by decide +kernel) rfl ?_
  obtain ⟨M109, e110, h⟩ := xbnd h
  refine xs_p (i := 56) (c := 9) (k := 7) (by decide +kernel) (by decide +kernel) (by decide +kernel) e110 rfl ?_
  refine xe_alr (ins := .aload_n 0) (len := 1) (i := 0) (by decide +kernel) rfl rfl rfl rfl rfl ?_
  obtain ⟨v111, e112, h⟩ := xbnd h
  refine xs_gr (i := 22) (c := 9) (k := 8) (by decide +kernel) (by decide) (by decide +kernel) e112 rfl ?_
  refine xe_iconst (n := 0) (by decide +kernel) rfl ?_
  refine xe_iconst (n := 0) (by decide +kernel) rfl ?_
  obtain ⟨M113, e114, h⟩ := xbnd h
  refine xs_iast (by decide +kernel) (show xin (0) by decide) e114 rfl ?_
  refine xe_alr (ins := .aload_n 0) (len := 1) (i := 0) (by decide +kernel) rfl rfl rfl rfl rfl ?_
  obtain ⟨v115, e116, h⟩ := xbnd h
  refine xs_gr (i := 15) (c := 9) (k := 1) (by decide +kernel) (by decide) (by decide +kernel) e116 rfl ?_
  refine xe_iconst (n := 0) (by decide +kernel) rfl ?_
  obtain ⟨M118, e117, h⟩ := xbnd h
  refine xs_cs (kd := 2) (by decide) (i := 59) (j := 382) (ar := [xI (0), xR_ (v115)]) (rest := []) (r2 := xr_382) (by decide +kernel) (by decide +kernel) (by decide +kernel) xr_382_e rfl (by decide) ?_
  refine xc_v (k382 (d := d + 0)  (show xin (0) by decide) e117) rfl ?_
  refine xe_alr (ins := .aload_n 0) (len := 1) (i := 0) (by decide +kernel) rfl rfl rfl rfl rfl ?_
  obtain ⟨v120, e121, h⟩ := xbnd h
  refine xs_gr (i := 19) (c := 9) (k := 2) (by decide +kernel) (by decide) (by decide +kernel) e121 rfl ?_
  refine xe_sipush (n := 1700) (by decide +kernel) (by decide) rfl ?_
  obtain ⟨M123, e122, h⟩ := xbnd h
  refine xs_cs (kd := 2) (by decide) (i := 59) (j := 382) (ar := [xI (1700), xR_ (v120)]) (rest := []) (r2 := xr_382) (by decide +kernel) (by decide +kernel) (by decide +kernel) xr_382_e rfl (by decide) ?_
  refine xc_v (k382 (d := d + 0)  (show xin (1700) by decide) e122) rfl ?_
  cases h
  exact xe_ret_v (by decide +kernel) rfl ⟨rfl, rfl⟩
-- ChangeHouse$Ways.nextRow
def xr_135 : xj_mR := (9, yX9_nextRow, cX9_nextRow, 5, (Option.some Jvm.ClassFile.FieldType.boolean), 1, false, (6, 189), (1, 4))
set_option maxRecDepth 20000 in
theorem xr_135_e : xj_row 135 = some xr_135 := rfl
def f135_84   (f : Nat) (x0 : Nat) (x3 : Int) (x4 : Int) (M : xj_M) : Option (Int × xj_M) := ((xq_gr 9 10 (x0) M).bind fun v101 => ((xq_gi 9 6 (x0) M).bind fun v103 => ((xq_si (v101) (v103) (xwr ((x3) + (1))) M).bind fun M105 => ((xq_gr 9 8 (x0) M105).bind fun v107 => ((xq_gi 9 6 (x0) M105).bind fun v109 => ((xq_si (v107) (xwr ((v109) + (1))) (x4) M105).bind fun M111 => (some (1, M111))))))))
theorem k135_84 {d f : Nat}     {x0 : Nat} {x3 : Int} {x4 : Int} {M : xj_M} {R : Int × xj_M} (hx3 : xin x3) (hx4 : xin x4) (h : f135_84   f x0 x3 x4 M = some R) : xW (d + 2) (none, d + 2, none) xr_135 (84, [(0, xR_ x0), (3, xI x3), (4, xI x4)], [], M) (xQi R) := by
  unfold f135_84 at h
  refine xe_alr (ins := .aload_n 0) (len := 1) (i := 0) (by decide +kernel) rfl rfl rfl rfl rfl ?_
  obtain ⟨v101, e102, h⟩ := xbnd h
  refine xs_gr (i := 28) (c := 9) (k := 10) (by decide +kernel) (by decide) (by decide +kernel) e102 rfl ?_
  refine xe_alr (ins := .aload_n 0) (len := 1) (i := 0) (by decide +kernel) rfl rfl rfl rfl rfl ?_
  obtain ⟨v103, e104, h⟩ := xbnd h
  refine xs_gi (i := 52) (c := 9) (k := 6) (by decide +kernel) (by decide) (by decide +kernel) e104 rfl ?_
  refine xe_ldn (ins := .iload_n 3) (len := 1) (by decide +kernel) rfl rfl rfl rfl ?_
  refine xe_iconst (n := 1) (by decide +kernel) rfl ?_
  refine xe_iadd (by decide +kernel) rfl ?_
  obtain ⟨M105, e106, h⟩ := xbnd h
  refine xs_iast (by decide +kernel) (xq_gi_in e104) e106 rfl ?_
  refine xe_alr (ins := .aload_n 0) (len := 1) (i := 0) (by decide +kernel) rfl rfl rfl rfl rfl ?_
  obtain ⟨v107, e108, h⟩ := xbnd h
  refine xs_gr (i := 22) (c := 9) (k := 8) (by decide +kernel) (by decide) (by decide +kernel) e108 rfl ?_
  refine xe_alr (ins := .aload_n 0) (len := 1) (i := 0) (by decide +kernel) rfl rfl rfl rfl rfl ?_
  obtain ⟨v109, e110, h⟩ := xbnd h
  refine xs_gi (i := 52) (c := 9) (k := 6) (by decide +kernel) (by decide) (by decide +kernel) e110 rfl ?_
  refine xe_iconst (n := 1) (by decide +kernel) rfl ?_
  refine xe_iadd (by decide +kernel) rfl ?_
  refine xe_ldn (ins := .iload 4) (len := 2) (by decide +kernel) rfl rfl rfl rfl ?_
  obtain ⟨M111, e112, h⟩ := xbnd h
  refine xs_iast (by decide +kernel) (xin_wr _) e112 rfl ?_
  refine xe_iconst (n := 1) (by decide +kernel) rfl ?_
  cases h
  exact xe_ret_i (ty := .boolean) (by decide +kernel) rfl (by decide) ⟨rfl, rfl, (show xin (1) by decide)⟩
def f135_111  (r25 : Nat → Int → Nat → Int → xj_M → Option (Int × xj_M)) (f : Nat) (x0 : Nat) (x1 : Int) (x2 : Nat) (x3 : Int) (M : xj_M) : Option (Int × xj_M) := r25 (x0) (x1) (x2) (xwr ((x3) + (1))) M
theorem k135_111 {d f : Nat}  {r25 : Nat → Int → Nat → Int → xj_M → Option (Int × xj_M)}  (hr25 : ∀ {x0 : Nat} {x1 : Int} {x2 : Nat} {x3 : Int} {M : xj_M} {R : Int × xj_M}, xin x1 → xin x3 → r25 x0 x1 x2 x3 M = some R → xW (d + 2) (none, d + 2, none) xr_135 (25, [(0, xR_ x0), (1, xI x1), (2, xR_ x2), (3, xI x3)], [], M) (xQi R)) {x0 : Nat} {x1 : Int} {x2 : Nat} {x3 : Int} {M : xj_M} {R : Int × xj_M} (hx1 : xin x1) (hx3 : xin x3) (h : f135_111  r25 f x0 x1 x2 x3 M = some R) : xW (d + 2) (none, d + 2, none) xr_135 (111, [(0, xR_ x0), (1, xI x1), (2, xR_ x2), (3, xI x3)], [], M) (xQi R) := by
  unfold f135_111 at h
  refine xe_iincr (i := 3) (n := 1) (by decide +kernel) (by decide) rfl (xk_k (show ¬ (0 : Nat) = 3 by decide) (Or.inl (show ¬ (0 + 1 : Nat) = 3 by decide)) (xk_k (show ¬ (1 : Nat) = 3 by decide) (Or.inl (show ¬ (1 + 1 : Nat) = 3 by decide)) (xk_k (show ¬ (2 : Nat) = 3 by decide) (Or.inr (xR_cat _)) (xk_d rfl xk_n)))) rfl ?_
  refine xe_goto (off := -89) (nx := 25) (by decide +kernel) (by decide) ?_
  refine xW_lv rfl (l := [(0, xR_ (x0)), (1, xI (x1)), (2, xR_ (x2)), (3, xI (xwr ((x3) + (1))))]) (xsb_of ⟨rfl, rfl, rfl, rfl, trivial⟩ (show [3, 0, 1, 2].Nodup by decide)) ?_
  exact hr25 hx1 (xin_wr _) h
def f135_25b  (r25 : Nat → Int → Nat → Int → xj_M → Option (Int × xj_M)) (f : Nat) (x0 : Nat) (x1 : Int) (x2 : Nat) (x3 : Int) (M : xj_M) : Option (Int × xj_M) := ((xq_gr 9 11 (x0) M).bind fun v113 => ((xq_gi 9 6 (x0) M).bind fun v115 => ((xq_ai 3 (v113) (v115) M).bind fun v117 => (if (v117) ≤ (x3) then (some (0, M)) else ((xq_is 9 (x0) M).bind fun _ => ((f136  f (x0) (x1) (x2) (x3) M).bind fun R122 => (if (R122.1) = (-1) then f135_111  r25 f (x0) (x1) (x2) (x3) R122.2 else ((xq_gi 9 5 (x0) R122.2).bind fun v125 => (if ¬ (v125) = 0 then f135_84   f (x0) (x3) (R122.1) R122.2 else ((xq_gr 9 8 (x0) R122.2).bind fun v128 => ((xq_gi 9 6 (x0) R122.2).bind fun v130 => ((xq_ai 3 (v128) (v130) R122.2).bind fun v132 => (if (R122.1) = (v132) then f135_84   f (x0) (x3) (R122.1) R122.2 else ((xq_is 9 (x0) R122.2).bind fun _ => ((f137  f (x0) (x1) (x2) (x3) R122.2).bind fun R137 => (if ¬ (R137.1) = 0 then f135_111  r25 f (x0) (x1) (x2) (x3) R137.2 else f135_84   f (x0) (x3) (R122.1) R137.2))))))))))))))))
theorem k135_25b {d f : Nat}  {r25 : Nat → Int → Nat → Int → xj_M → Option (Int × xj_M)}  (hr25 : ∀ {x0 : Nat} {x1 : Int} {x2 : Nat} {x3 : Int} {M : xj_M} {R : Int × xj_M}, xin x1 → xin x3 → r25 x0 x1 x2 x3 M = some R → xW (d + 2) (none, d + 2, none) xr_135 (25, [(0, xR_ x0), (1, xI x1), (2, xR_ x2), (3, xI x3)], [], M) (xQi R)) {x0 : Nat} {x1 : Int} {x2 : Nat} {x3 : Int} {M : xj_M} {R : Int × xj_M} (hx1 : xin x1) (hx3 : xin x3) (h : f135_25b  r25 f x0 x1 x2 x3 M = some R) : xW (d + 2) (none, d + 2, none) xr_135 (25, [(0, xR_ x0), (1, xI x1), (2, xR_ x2), (3, xI x3)], [], M) (xQi R) := by
  unfold f135_25b at h
  refine xe_ldn (ins := .iload_n 3) (len := 1) (by decide +kernel) rfl rfl rfl rfl ?_
  refine xe_alr (ins := .aload_n 0) (len := 1) (i := 0) (by decide +kernel) rfl rfl rfl rfl rfl ?_
  obtain ⟨v113, e114, h⟩ := xbnd h
  refine xs_gr (i := 31) (c := 9) (k := 11) (by decide +kernel) (by decide) (by decide +kernel) e114 rfl ?_
  refine xe_alr (ins := .aload_n 0) (len := 1) (i := 0) (by decide +kernel) rfl rfl rfl rfl rfl ?_
  obtain ⟨v115, e116, h⟩ := xbnd h
  refine xs_gi (i := 52) (c := 9) (k := 6) (by decide +kernel) (by decide) (by decide +kernel) e116 rfl ?_
  obtain ⟨v117, e118, h⟩ := xbnd h
  refine xs_iald rfl (by decide +kernel) (xq_gi_in e116) e118 rfl ?_
  refine xe_icmpge (off := 82) (t := 117) (by decide +kernel) (by decide) rfl hx3 (xq_ai_in e118) (fun c119 => ?_) (fun c119 => ?_)
  · rw [if_pos c119] at h
    refine xe_iconst (n := 0) (by decide +kernel) rfl ?_
    cases h
    exact xe_ret_i (ty := .boolean) (by decide +kernel) rfl (by decide) ⟨rfl, rfl, (show xin (0) by decide)⟩
  · rw [if_neg c119] at h
    refine xe_alr (ins := .aload_n 0) (len := 1) (i := 0) (by decide +kernel) rfl rfl rfl rfl rfl ?_
    refine xe_ldn (ins := .iload_n 1) (len := 1) (by decide +kernel) rfl rfl rfl rfl ?_
    refine xe_alr (ins := .aload_n 2) (len := 1) (i := 2) (by decide +kernel) rfl rfl rfl rfl rfl ?_
    refine xe_ldn (ins := .iload_n 3) (len := 1) (by decide +kernel) rfl rfl rfl rfl ?_
    obtain ⟨_, e121, h⟩ := xbnd h
    obtain ⟨R122, e120, h⟩ := xbnd h
    refine xs_cv (i := 116) (j := 136) (ar := [xI (x3), xR_ (x2), xI (x1)]) (rest := []) (r2 := xr_136) (by decide +kernel) (by decide +kernel) (by decide +kernel) xr_136_e rfl (by decide) (by decide) e121 ?_
    refine xc_i (k136 (d := d + 0)  hx1 hx3 e120) rfl (fun hi123 => ?_)
    refine xe_isr (ins := .istore 4) (len := 2) (i := 4) (by decide +kernel) rfl rfl rfl (by decide) (xk_k (show ¬ (0 : Nat) = 4 by decide) (Or.inl (show ¬ (0 + 1 : Nat) = 4 by decide)) (xk_k (show ¬ (1 : Nat) = 4 by decide) (Or.inl (show ¬ (1 + 1 : Nat) = 4 by decide)) (xk_k (show ¬ (2 : Nat) = 4 by decide) (Or.inl (show ¬ (2 + 1 : Nat) = 4 by decide)) (xk_k (show ¬ (3 : Nat) = 4 by decide) (Or.inr (xI_cat _)) xk_n)))) rfl ?_
    refine xe_ldn (ins := .iload 4) (len := 2) (by decide +kernel) rfl rfl rfl rfl ?_
    refine xe_iconst (n := -1) (by decide +kernel) rfl ?_
    refine xe_icmpeq (off := 61) (t := 111) (by decide +kernel) (by decide) rfl hi123 (show xin (-1) by decide) (fun c124 => ?_) (fun c124 => ?_)
    · rw [if_pos c124] at h
      refine xW_lv rfl (l := [(0, xR_ (x0)), (1, xI (x1)), (2, xR_ (x2)), (3, xI (x3))]) (xsb_of ⟨rfl, rfl, rfl, rfl, trivial⟩ (show [4, 0, 1, 2, 3].Nodup by decide)) ?_
      exact k135_111  hr25 hx1 hx3 h
    · rw [if_neg c124] at h
      refine xe_alr (ins := .aload_n 0) (len := 1) (i := 0) (by decide +kernel) rfl rfl rfl rfl rfl ?_
      obtain ⟨v125, e126, h⟩ := xbnd h
      refine xs_gi (i := 48) (c := 9) (k := 5) (by decide +kernel) (by decide) (by decide +kernel) e126 rfl ?_
      refine xe_ifne (off := 27) (t := 84) (by decide +kernel) (by decide) rfl (xq_gi_in e126) (fun c127 => ?_) (fun c127 => ?_)
      · rw [if_pos c127] at h
        refine xW_lv rfl (l := [(0, xR_ (x0)), (3, xI (x3)), (4, xI (R122.1))]) (xsb_of ⟨rfl, rfl, rfl, trivial⟩ (show [4, 0, 1, 2, 3].Nodup by decide)) ?_
        exact k135_84   hx3 hi123 h
      · rw [if_neg c127] at h
        refine xe_ldn (ins := .iload 4) (len := 2) (by decide +kernel) rfl rfl rfl rfl ?_
        refine xe_alr (ins := .aload_n 0) (len := 1) (i := 0) (by decide +kernel) rfl rfl rfl rfl rfl ?_
        obtain ⟨v128, e129, h⟩ := xbnd h
        refine xs_gr (i := 22) (c := 9) (k := 8) (by decide +kernel) (by decide) (by decide +kernel) e129 rfl ?_
        refine xe_alr (ins := .aload_n 0) (len := 1) (i := 0) (by decide +kernel) rfl rfl rfl rfl rfl ?_
        obtain ⟨v130, e131, h⟩ := xbnd h
        refine xs_gi (i := 52) (c := 9) (k := 6) (by decide +kernel) (by decide) (by decide +kernel) e131 rfl ?_
        obtain ⟨v132, e133, h⟩ := xbnd h
        refine xs_iald rfl (by decide +kernel) (xq_gi_in e131) e133 rfl ?_
        refine xe_icmpeq (off := 13) (t := 84) (by decide +kernel) (by decide) rfl hi123 (xq_ai_in e133) (fun c134 => ?_) (fun c134 => ?_)
        · rw [if_pos c134] at h
          refine xW_lv rfl (l := [(0, xR_ (x0)), (3, xI (x3)), (4, xI (R122.1))]) (xsb_of ⟨rfl, rfl, rfl, trivial⟩ (show [4, 0, 1, 2, 3].Nodup by decide)) ?_
          exact k135_84   hx3 hi123 h
        · rw [if_neg c134] at h
          refine xe_alr (ins := .aload_n 0) (len := 1) (i := 0) (by decide +kernel) rfl rfl rfl rfl rfl ?_
          refine xe_ldn (ins := .iload_n 1) (len := 1) (by decide +kernel) rfl rfl rfl rfl ?_
          refine xe_alr (ins := .aload_n 2) (len := 1) (i := 2) (by decide +kernel) rfl rfl rfl rfl rfl ?_
          refine xe_ldn (ins := .iload_n 3) (len := 1) (by decide +kernel) rfl rfl rfl rfl ?_
          obtain ⟨_, e136, h⟩ := xbnd h
          obtain ⟨R137, e135, h⟩ := xbnd h
          refine xs_cv (i := 120) (j := 137) (ar := [xI (x3), xR_ (x2), xI (x1)]) (rest := []) (r2 := xr_137) (by decide +kernel) (by decide +kernel) (by decide +kernel) xr_137_e rfl (by decide) (by decide) e136 ?_
          refine xc_i (k137 (d := d + 0)  hx1 hx3 e135) rfl (fun hi138 => ?_)
          refine xe_ifne (off := 30) (t := 111) (by decide +kernel) (by decide) rfl hi138 (fun c139 => ?_) (fun c139 => ?_)
          · rw [if_pos c139] at h
            refine xW_lv rfl (l := [(0, xR_ (x0)), (1, xI (x1)), (2, xR_ (x2)), (3, xI (x3))]) (xsb_of ⟨rfl, rfl, rfl, rfl, trivial⟩ (show [4, 0, 1, 2, 3].Nodup by decide)) ?_
            exact k135_111  hr25 hx1 hx3 h
          · rw [if_neg c139] at h
            refine xW_lv rfl (l := [(0, xR_ (x0)), (3, xI (x3)), (4, xI (R122.1))]) (xsb_of ⟨rfl, rfl, rfl, trivial⟩ (show [4, 0, 1, 2, 3].Nodup by decide)) ?_
            exact k135_84   hx3 hi123 h
def f135_25   (f : Nat) : Nat → Nat → Int → Nat → Int → xj_M → Option (Int × xj_M)
  | 0, _, _, _, _, _ => none
  | n + 1, x0, x1, x2, x3, M => f135_25b   (f135_25   f n) f x0 x1 x2 x3 M
theorem k135_25 {d f : Nat}     : ∀ {n : Nat} {x0 : Nat} {x1 : Int} {x2 : Nat} {x3 : Int} {M : xj_M} {R : Int × xj_M}, xin x1 → xin x3 → f135_25   f n x0 x1 x2 x3 M = some R → xW (d + 2) (none, d + 2, none) xr_135 (25, [(0, xR_ x0), (1, xI x1), (2, xR_ x2), (3, xI x3)], [], M) (xQi R) := by
  intro n
  induction n with
  | zero => intros; rename_i h; cases h
  | succ n ih => intros; rename_i h; exact k135_25b   ih (by assumption) (by assumption) h
def f135  (f : Nat) (a0 : Nat) (a1 : Int) (M : xj_M) : Option (Int × xj_M) := ((xq_gr 9 4 (a0) M).bind fun v140 => ((xq_gr 9 3 (a0) M).bind fun v142 => ((xq_gr 6 10 (v142) M).bind fun v144 => ((xq_ai 3 (v144) (a1) M).bind fun v146 => ((xq_ar (v140) (v146) M).bind fun v148 => ((xq_gr 9 10 (a0) M).bind fun v150 => ((xq_gi 9 6 (a0) M).bind fun v152 => ((xq_ai 3 (v150) (v152) M).bind fun v154 => f135_25   f f (a0) (a1) (v148) (v154) M))))))))
theorem k135 {d f : Nat}   {a0 : Nat} {a1 : Int} {M : xj_M} {R : Int × xj_M} (ha1 : xin a1) (h : f135  f a0 a1 M = some R) : xT (d + 3) 135 [xR_ a0, xI a1] M (xQi R) := by
  refine xT_m xr_135_e (X := (none, d + 2, none)) rfl (xa_1 (xR_cat _) (xa_1 (xI_cat _) xa_n)) (by decide) ?_
  unfold f135 at h
  refine xe_alr (ins := .aload_n 0) (len := 1) (i := 0) (by decide +kernel) rfl rfl rfl rfl rfl ?_
  obtain ⟨v140, e141, h⟩ := xbnd h
  refine xs_gr (i := 44) (c := 9) (k := 4) (by decide +kernel) (by decide) (by decide +kernel) e141 rfl ?_
  refine xe_alr (ins := .aload_n 0) (len := 1) (i := 0) (by decide +kernel) rfl rfl rfl rfl rfl ?_
  obtain ⟨v142, e143, h⟩ := xbnd h
  refine xs_gr (i := 40) (c := 9) (k := 3) (by decide +kernel) (by decide) (by decide +kernel) e143 rfl ?_
  obtain ⟨v144, e145, h⟩ := xbnd h
  refine xs_gr (i := 107) (c := 6) (k := 10) (by decide +kernel) (by decide) (by decide +kernel) e145 rfl ?_
  refine xe_ldn (ins := .iload_n 1) (len := 1) (by decide +kernel) rfl rfl rfl rfl ?_
  obtain ⟨v146, e147, h⟩ := xbnd h
  refine xs_iald rfl (by decide +kernel) ha1 e147 rfl ?_
  obtain ⟨v148, e149, h⟩ := xbnd h
  refine xs_aald (by decide +kernel) (xq_ai_in e147) e149 rfl ?_
  refine xe_asr (ins := .astore_n 2) (len := 1) (i := 2) (by decide +kernel) rfl rfl rfl (by decide) (xk_k (show ¬ (0 : Nat) = 2 by decide) (Or.inl (show ¬ (0 + 1 : Nat) = 2 by decide)) (xk_k (show ¬ (1 : Nat) = 2 by decide) (Or.inr (xI_cat _)) xk_n)) rfl ?_
  refine xe_alr (ins := .aload_n 0) (len := 1) (i := 0) (by decide +kernel) rfl rfl rfl rfl rfl ?_
  obtain ⟨v150, e151, h⟩ := xbnd h
  refine xs_gr (i := 28) (c := 9) (k := 10) (by decide +kernel) (by decide) (by decide +kernel) e151 rfl ?_
  refine xe_alr (ins := .aload_n 0) (len := 1) (i := 0) (by decide +kernel) rfl rfl rfl rfl rfl ?_
  obtain ⟨v152, e153, h⟩ := xbnd h
  refine xs_gi (i := 52) (c := 9) (k := 6) (by decide +kernel) (by decide) (by decide +kernel) e153 rfl ?_
  obtain ⟨v154, e155, h⟩ := xbnd h
  refine xs_iald rfl (by decide +kernel) (xq_gi_in e153) e155 rfl ?_
  refine xe_isr (ins := .istore_n 3) (len := 1) (i := 3) (by decide +kernel) rfl rfl rfl (by decide) (xk_k (show ¬ (2 : Nat) = 3 by decide) (Or.inr (xR_cat _)) (xk_k (show ¬ (0 : Nat) = 3 by decide) (Or.inl (show ¬ (0 + 1 : Nat) = 3 by decide)) (xk_k (show ¬ (1 : Nat) = 3 by decide) (Or.inl (show ¬ (1 + 1 : Nat) = 3 by decide)) xk_n))) rfl ?_
  refine xW_lv rfl (l := [(0, xR_ (a0)), (1, xI (a1)), (2, xR_ (v148)), (3, xI (v154))]) (xsb_of ⟨rfl, rfl, rfl, rfl, trivial⟩ (show [3, 2, 0, 1].Nodup by decide)) ?_
  exact k135_25   ha1 (xq_ai_in e155) h
-- ChangeHouse$Ways.worth
def xr_141 : xj_mR := (9, yX9_worth, cX9_worth, 5, (Option.some Jvm.ClassFile.FieldType.long), 1, false, (6, 218), (1, 4))
set_option maxRecDepth 20000 in
theorem xr_141_e : xj_row 141 = some xr_141 := rfl
def f141_134  (r12 : Nat → Int → Int → Int → xj_M → Option (Int × xj_M)) (f : Nat) (x0 : Nat) (x1 : Int) (x2 : Int) (x3 : Int) (M : xj_M) : Option (Int × xj_M) := r12 (x0) (x1) (x2) (xwr ((x3) + (1))) M
theorem k141_134 {d f : Nat}  {r12 : Nat → Int → Int → Int → xj_M → Option (Int × xj_M)}  (hr12 : ∀ {x0 : Nat} {x1 : Int} {x2 : Int} {x3 : Int} {M : xj_M} {R : Int × xj_M}, xin x1 → xin x2 → xin x3 → r12 x0 x1 x2 x3 M = some R → xW (d + 1) (none, d + 1, none) xr_141 (12, [(0, xR_ x0), (1, xI x1), (2, xI x2), (3, xI x3)], [], M) (xQl R)) {x0 : Nat} {x1 : Int} {x2 : Int} {x3 : Int} {M : xj_M} {R : Int × xj_M} (hx1 : xin x1) (hx2 : xin x2) (hx3 : xin x3) (h : f141_134  r12 f x0 x1 x2 x3 M = some R) : xW (d + 1) (none, d + 1, none) xr_141 (134, [(0, xR_ x0), (1, xI x1), (2, xI x2), (3, xI x3)], [], M) (xQl R) := by
  unfold f141_134 at h
  refine xe_iincr (i := 3) (n := 1) (by decide +kernel) (by decide) rfl (xk_k (show ¬ (0 : Nat) = 3 by decide) (Or.inl (show ¬ (0 + 1 : Nat) = 3 by decide)) (xk_k (show ¬ (1 : Nat) = 3 by decide) (Or.inl (show ¬ (1 + 1 : Nat) = 3 by decide)) (xk_k (show ¬ (2 : Nat) = 3 by decide) (Or.inr (xI_cat _)) (xk_d rfl xk_n)))) rfl ?_
  refine xe_goto (off := -125) (nx := 12) (by decide +kernel) (by decide) ?_
  refine xW_lv rfl (l := [(0, xR_ (x0)), (1, xI (x1)), (2, xI (x2)), (3, xI (xwr ((x3) + (1))))]) (xsb_of ⟨rfl, rfl, rfl, rfl, trivial⟩ (show [3, 0, 1, 2].Nodup by decide)) ?_
  exact hr12 hx1 hx2 (xin_wr _) h
def f141_92  (r12 : Nat → Int → Int → Int → xj_M → Option (Int × xj_M)) (f : Nat) (x0 : Nat) (x1 : Int) (x2 : Int) (x3 : Int) (y0 : Int) (y1 : Int) (y2 : Nat) (M : xj_M) : Option (Int × xj_M) := ((xq_sl (y2) (y1) (y0) M).bind fun M101 => f141_134  r12 f (x0) (x1) (xwr ((x2) + (1))) (x3) M101)
theorem k141_92 {d f : Nat}  {r12 : Nat → Int → Int → Int → xj_M → Option (Int × xj_M)}  (hr12 : ∀ {x0 : Nat} {x1 : Int} {x2 : Int} {x3 : Int} {M : xj_M} {R : Int × xj_M}, xin x1 → xin x2 → xin x3 → r12 x0 x1 x2 x3 M = some R → xW (d + 1) (none, d + 1, none) xr_141 (12, [(0, xR_ x0), (1, xI x1), (2, xI x2), (3, xI x3)], [], M) (xQl R)) {x0 : Nat} {x1 : Int} {x2 : Int} {x3 : Int} {y0 : Int} {y1 : Int} {y2 : Nat} {M : xj_M} {R : Int × xj_M} (hx1 : xin x1) (hx2 : xin x2) (hx3 : xin x3) (hy0 : xiN y0) (hy1 : xin y1) (h : f141_92  r12 f x0 x1 x2 x3 y0 y1 y2 M = some R) : xW (d + 1) (none, d + 1, none) xr_141 (92, [(0, xR_ x0), (1, xI x1), (2, xI x2), (3, xI x3)], [xZ y0, xI y1, xR_ y2], M) (xQl R) := by
  unfold f141_92 at h
  obtain ⟨M101, e102, h⟩ := xbnd h
  refine xs_last (by decide +kernel) hy1 e102 rfl ?_
  refine xe_iincr (i := 2) (n := 1) (by decide +kernel) (by decide) rfl (xk_k (show ¬ (0 : Nat) = 2 by decide) (Or.inl (show ¬ (0 + 1 : Nat) = 2 by decide)) (xk_k (show ¬ (1 : Nat) = 2 by decide) (Or.inr (xI_cat _)) (xk_d rfl (xk_k (show ¬ (3 : Nat) = 2 by decide) (Or.inl (show ¬ (3 + 1 : Nat) = 2 by decide)) xk_n)))) rfl ?_
  refine xe_goto (off := 38) (nx := 134) (by decide +kernel) (by decide) ?_
  refine xW_lv rfl (l := [(0, xR_ (x0)), (1, xI (x1)), (2, xI (xwr ((x2) + (1)))), (3, xI (x3))]) (xsb_of ⟨rfl, rfl, rfl, rfl, trivial⟩ (show [2, 0, 1, 3].Nodup by decide)) ?_
  exact k141_134  hr12 hx1 (xin_wr _) hx3 h
def f141_48  (r12 : Nat → Int → Int → Int → xj_M → Option (Int × xj_M)) (f : Nat) (x0 : Nat) (x1 : Int) (x2 : Int) (x3 : Int) (x4 : Int) (M : xj_M) : Option (Int × xj_M) := (if (32) ≤ (x2) then f141_134  r12 f (x0) (x1) (x2) (x3) M else ((xq_gr 9 13 (x0) M).bind fun v104 => (if ¬ (x4) = (1) then ((xq_gr 9 0 (x0) M).bind fun v107 => ((xq_gr 9 3 (x0) M).bind fun v109 => ((xq_gr 6 17 (v109) M).bind fun v111 => ((xq_al (v111) (x3) M).bind fun v113 => ((xq_al (v107) (xwr (v113)) M).bind fun v115 => f141_92  r12 f (x0) (x1) (x2) (x3) (v115) (x2) (v104) M))))) else ((xq_gr 9 3 (x0) M).bind fun v117 => ((xq_gr 6 17 (v117) M).bind fun v119 => ((xq_al (v119) (x3) M).bind fun v121 => f141_92  r12 f (x0) (x1) (x2) (x3) (v121) (x2) (v104) M))))))
theorem k141_48 {d f : Nat}  {r12 : Nat → Int → Int → Int → xj_M → Option (Int × xj_M)}  (hr12 : ∀ {x0 : Nat} {x1 : Int} {x2 : Int} {x3 : Int} {M : xj_M} {R : Int × xj_M}, xin x1 → xin x2 → xin x3 → r12 x0 x1 x2 x3 M = some R → xW (d + 1) (none, d + 1, none) xr_141 (12, [(0, xR_ x0), (1, xI x1), (2, xI x2), (3, xI x3)], [], M) (xQl R)) {x0 : Nat} {x1 : Int} {x2 : Int} {x3 : Int} {x4 : Int} {M : xj_M} {R : Int × xj_M} (hx1 : xin x1) (hx2 : xin x2) (hx3 : xin x3) (hx4 : xin x4) (h : f141_48  r12 f x0 x1 x2 x3 x4 M = some R) : xW (d + 1) (none, d + 1, none) xr_141 (48, [(0, xR_ x0), (1, xI x1), (2, xI x2), (3, xI x3), (4, xI x4)], [], M) (xQl R) := by
  unfold f141_48 at h
  refine xe_ldn (ins := .iload_n 2) (len := 1) (by decide +kernel) rfl rfl rfl rfl ?_
  refine xe_bipush (n := 32) (by decide +kernel) (by decide) rfl ?_
  refine xe_icmpge (off := 83) (t := 134) (by decide +kernel) (by decide) rfl hx2 (show xin (32) by decide) (fun c103 => ?_) (fun c103 => ?_)
  · rw [if_pos c103] at h
    refine xW_lv rfl (l := [(0, xR_ (x0)), (1, xI (x1)), (2, xI (x2)), (3, xI (x3))]) (xsb_of ⟨rfl, rfl, rfl, rfl, trivial⟩ (show [0, 1, 2, 3, 4].Nodup by decide)) ?_
    exact k141_134  hr12 hx1 hx2 hx3 h
  · rw [if_neg c103] at h
    refine xe_alr (ins := .aload_n 0) (len := 1) (i := 0) (by decide +kernel) rfl rfl rfl rfl rfl ?_
    obtain ⟨v104, e105, h⟩ := xbnd h
    refine xs_gr (i := 37) (c := 9) (k := 13) (by decide +kernel) (by decide) (by decide +kernel) e105 rfl ?_
    refine xe_ldn (ins := .iload_n 2) (len := 1) (by decide +kernel) rfl rfl rfl rfl ?_
    refine xe_ldn (ins := .iload 4) (len := 2) (by decide +kernel) rfl rfl rfl rfl ?_
    refine xe_iconst (n := 1) (by decide +kernel) rfl ?_
    refine xe_icmpne (off := 15) (t := 77) (by decide +kernel) (by decide) rfl hx4 (show xin (1) by decide) (fun c106 => ?_) (fun c106 => ?_)
    · rw [if_pos c106] at h
      refine xe_alr (ins := .aload_n 0) (len := 1) (i := 0) (by decide +kernel) rfl rfl rfl rfl rfl ?_
      obtain ⟨v107, e108, h⟩ := xbnd h
      refine xs_gr (i := 9) (c := 9) (k := 0) (by decide +kernel) (by decide) (by decide +kernel) e108 rfl ?_
      refine xe_alr (ins := .aload_n 0) (len := 1) (i := 0) (by decide +kernel) rfl rfl rfl rfl rfl ?_
      obtain ⟨v109, e110, h⟩ := xbnd h
      refine xs_gr (i := 40) (c := 9) (k := 3) (by decide +kernel) (by decide) (by decide +kernel) e110 rfl ?_
      obtain ⟨v111, e112, h⟩ := xbnd h
      refine xs_gr (i := 153) (c := 6) (k := 17) (by decide +kernel) (by decide) (by decide +kernel) e112 rfl ?_
      refine xe_ldn (ins := .iload_n 3) (len := 1) (by decide +kernel) rfl rfl rfl rfl ?_
      obtain ⟨v113, e114, h⟩ := xbnd h
      refine xs_lald (by decide +kernel) hx3 e114 rfl ?_
      refine xe_l2i (by decide +kernel) rfl ?_
      obtain ⟨v115, e116, h⟩ := xbnd h
      refine xs_lald (by decide +kernel) (xin_wr _) e116 rfl ?_
      refine xW_lv rfl (l := [(0, xR_ (x0)), (1, xI (x1)), (2, xI (x2)), (3, xI (x3))]) (xsb_of ⟨rfl, rfl, rfl, rfl, trivial⟩ (show [0, 1, 2, 3, 4].Nodup by decide)) ?_
      exact k141_92  hr12 hx1 hx2 hx3 (xq_al_in e116) hx2 h
    · rw [if_neg c106] at h
      refine xe_alr (ins := .aload_n 0) (len := 1) (i := 0) (by decide +kernel) rfl rfl rfl rfl rfl ?_
      obtain ⟨v117, e118, h⟩ := xbnd h
      refine xs_gr (i := 40) (c := 9) (k := 3) (by decide +kernel) (by decide) (by decide +kernel) e118 rfl ?_
      obtain ⟨v119, e120, h⟩ := xbnd h
      refine xs_gr (i := 153) (c := 6) (k := 17) (by decide +kernel) (by decide) (by decide +kernel) e120 rfl ?_
      refine xe_ldn (ins := .iload_n 3) (len := 1) (by decide +kernel) rfl rfl rfl rfl ?_
      obtain ⟨v121, e122, h⟩ := xbnd h
      refine xs_lald (by decide +kernel) hx3 e122 rfl ?_
      refine xe_goto (off := 18) (nx := 92) (by decide +kernel) (by decide) ?_
      refine xW_lv rfl (l := [(0, xR_ (x0)), (1, xI (x1)), (2, xI (x2)), (3, xI (x3))]) (xsb_of ⟨rfl, rfl, rfl, rfl, trivial⟩ (show [0, 1, 2, 3, 4].Nodup by decide)) ?_
      exact k141_92  hr12 hx1 hx2 hx3 (xq_al_in e122) hx2 h
def f141_12b  (r12 : Nat → Int → Int → Int → xj_M → Option (Int × xj_M)) (f : Nat) (x0 : Nat) (x1 : Int) (x2 : Int) (x3 : Int) (M : xj_M) : Option (Int × xj_M) := ((xq_gr 9 3 (x0) M).bind fun v123 => ((xq_gr 6 15 (v123) M).bind fun v125 => ((xq_ai 3 (v125) (x1) M).bind fun v127 => (if (v127) ≤ (x3) then ((xq_gr 9 13 (x0) M).bind fun v130 => ((xq_al (v130) (0) M).bind fun v132 => (some (v132, M)))) else ((xq_gr 9 3 (x0) M).bind fun v134 => ((xq_gr 6 16 (v134) M).bind fun v136 => ((xq_ai 3 (v136) (x3) M).bind fun v138 => (if (v138) = (1) then f141_48  r12 f (x0) (x1) (x2) (x3) (v138) M else (if ¬ (v138) = (2) then (if (x2) ≤ (1) then f141_134  r12 f (x0) (x1) (x2) (x3) M else ((xq_gr 9 13 (x0) M).bind fun v143 => ((xq_gr 9 13 (x0) M).bind fun v145 => ((xq_al (v145) (xwr ((xwr ((x2) + (-1))) - (1))) M).bind fun v147 => ((xq_gr 9 13 (x0) M).bind fun v149 => ((xq_al (v149) (xwr ((x2) + (-1))) M).bind fun v151 => ((f192  f (v138) (v147) (v151) M).bind fun R154 => ((xq_sl (v143) (xwr ((xwr ((x2) + (-1))) - (1))) (R154.1) R154.2).bind fun M156 => f141_134  r12 f (x0) (x1) (xwr ((x2) + (-1))) (x3) M156)))))))) else f141_48  r12 f (x0) (x1) (x2) (x3) (v138) M)))))))))
theorem k141_12b {d f : Nat}  {r12 : Nat → Int → Int → Int → xj_M → Option (Int × xj_M)}  (hr12 : ∀ {x0 : Nat} {x1 : Int} {x2 : Int} {x3 : Int} {M : xj_M} {R : Int × xj_M}, xin x1 → xin x2 → xin x3 → r12 x0 x1 x2 x3 M = some R → xW (d + 1) (none, d + 1, none) xr_141 (12, [(0, xR_ x0), (1, xI x1), (2, xI x2), (3, xI x3)], [], M) (xQl R)) {x0 : Nat} {x1 : Int} {x2 : Int} {x3 : Int} {M : xj_M} {R : Int × xj_M} (hx1 : xin x1) (hx2 : xin x2) (hx3 : xin x3) (h : f141_12b  r12 f x0 x1 x2 x3 M = some R) : xW (d + 1) (none, d + 1, none) xr_141 (12, [(0, xR_ x0), (1, xI x1), (2, xI x2), (3, xI x3)], [], M) (xQl R) := by
  unfold f141_12b at h
  refine xe_ldn (ins := .iload_n 3) (len := 1) (by decide +kernel) rfl rfl rfl rfl ?_
  refine xe_alr (ins := .aload_n 0) (len := 1) (i := 0) (by decide +kernel) rfl rfl rfl rfl rfl ?_
  obtain ⟨v123, e124, h⟩ := xbnd h
  refine xs_gr (i := 40) (c := 9) (k := 3) (by decide +kernel) (by decide) (by decide +kernel) e124 rfl ?_
  obtain ⟨v125, e126, h⟩ := xbnd h
  refine xs_gr (i := 147) (c := 6) (k := 15) (by decide +kernel) (by decide) (by decide +kernel) e126 rfl ?_
  refine xe_ldn (ins := .iload_n 1) (len := 1) (by decide +kernel) rfl rfl rfl rfl ?_
  obtain ⟨v127, e128, h⟩ := xbnd h
  refine xs_iald rfl (by decide +kernel) hx1 e128 rfl ?_
  refine xe_icmpge (off := 118) (t := 140) (by decide +kernel) (by decide) rfl hx3 (xq_ai_in e128) (fun c129 => ?_) (fun c129 => ?_)
  · rw [if_pos c129] at h
    refine xe_alr (ins := .aload_n 0) (len := 1) (i := 0) (by decide +kernel) rfl rfl rfl rfl rfl ?_
    obtain ⟨v130, e131, h⟩ := xbnd h
    refine xs_gr (i := 37) (c := 9) (k := 13) (by decide +kernel) (by decide) (by decide +kernel) e131 rfl ?_
    refine xe_iconst (n := 0) (by decide +kernel) rfl ?_
    obtain ⟨v132, e133, h⟩ := xbnd h
    refine xs_lald (by decide +kernel) (show xin (0) by decide) e133 rfl ?_
    cases h
    exact xe_ret_l (by decide +kernel) rfl ⟨rfl, rfl, (xq_al_in e133)⟩
  · rw [if_neg c129] at h
    refine xe_alr (ins := .aload_n 0) (len := 1) (i := 0) (by decide +kernel) rfl rfl rfl rfl rfl ?_
    obtain ⟨v134, e135, h⟩ := xbnd h
    refine xs_gr (i := 40) (c := 9) (k := 3) (by decide +kernel) (by decide) (by decide +kernel) e135 rfl ?_
    obtain ⟨v136, e137, h⟩ := xbnd h
    refine xs_gr (i := 150) (c := 6) (k := 16) (by decide +kernel) (by decide) (by decide +kernel) e137 rfl ?_
    refine xe_ldn (ins := .iload_n 3) (len := 1) (by decide +kernel) rfl rfl rfl rfl ?_
    obtain ⟨v138, e139, h⟩ := xbnd h
    refine xs_iald rfl (by decide +kernel) hx3 e139 rfl ?_
    refine xe_isr (ins := .istore 4) (len := 2) (i := 4) (by decide +kernel) rfl rfl rfl (by decide) (xk_k (show ¬ (0 : Nat) = 4 by decide) (Or.inl (show ¬ (0 + 1 : Nat) = 4 by decide)) (xk_k (show ¬ (1 : Nat) = 4 by decide) (Or.inl (show ¬ (1 + 1 : Nat) = 4 by decide)) (xk_k (show ¬ (2 : Nat) = 4 by decide) (Or.inl (show ¬ (2 + 1 : Nat) = 4 by decide)) (xk_k (show ¬ (3 : Nat) = 4 by decide) (Or.inr (xI_cat _)) xk_n)))) rfl ?_
    refine xe_ldn (ins := .iload 4) (len := 2) (by decide +kernel) rfl rfl rfl rfl ?_
    refine xe_iconst (n := 1) (by decide +kernel) rfl ?_
    refine xe_icmpeq (off := 9) (t := 48) (by decide +kernel) (by decide) rfl (xq_ai_in e139) (show xin (1) by decide) (fun c140 => ?_) (fun c140 => ?_)
    · rw [if_pos c140] at h
      refine xW_lv rfl (l := [(0, xR_ (x0)), (1, xI (x1)), (2, xI (x2)), (3, xI (x3)), (4, xI (v138))]) (xsb_of ⟨rfl, rfl, rfl, rfl, rfl, trivial⟩ (show [4, 0, 1, 2, 3].Nodup by decide)) ?_
      exact k141_48  hr12 hx1 hx2 hx3 (xq_ai_in e139) h
    · rw [if_neg c140] at h
      refine xe_ldn (ins := .iload 4) (len := 2) (by decide +kernel) rfl rfl rfl rfl ?_
      refine xe_iconst (n := 2) (by decide +kernel) rfl ?_
      refine xe_icmpne (off := 54) (t := 99) (by decide +kernel) (by decide) rfl (xq_ai_in e139) (show xin (2) by decide) (fun c141 => ?_) (fun c141 => ?_)
      · rw [if_pos c141] at h
        refine xe_ldn (ins := .iload_n 2) (len := 1) (by decide +kernel) rfl rfl rfl rfl ?_
        refine xe_iconst (n := 1) (by decide +kernel) rfl ?_
        refine xe_icmple (off := 33) (t := 134) (by decide +kernel) (by decide) rfl hx2 (show xin (1) by decide) (fun c142 => ?_) (fun c142 => ?_)
        · rw [if_pos c142] at h
          refine xW_lv rfl (l := [(0, xR_ (x0)), (1, xI (x1)), (2, xI (x2)), (3, xI (x3))]) (xsb_of ⟨rfl, rfl, rfl, rfl, trivial⟩ (show [4, 0, 1, 2, 3].Nodup by decide)) ?_
          exact k141_134  hr12 hx1 hx2 hx3 h
        · rw [if_neg c142] at h
          refine xe_iincr (i := 2) (n := -1) (by decide +kernel) (by decide) rfl (xk_k (show ¬ (4 : Nat) = 2 by decide) (Or.inl (show ¬ (4 + 1 : Nat) = 2 by decide)) (xk_k (show ¬ (0 : Nat) = 2 by decide) (Or.inl (show ¬ (0 + 1 : Nat) = 2 by decide)) (xk_k (show ¬ (1 : Nat) = 2 by decide) (Or.inr (xI_cat _)) (xk_d rfl (xk_k (show ¬ (3 : Nat) = 2 by decide) (Or.inl (show ¬ (3 + 1 : Nat) = 2 by decide)) xk_n))))) rfl ?_
          refine xe_alr (ins := .aload_n 0) (len := 1) (i := 0) (by decide +kernel) rfl rfl rfl rfl rfl ?_
          obtain ⟨v143, e144, h⟩ := xbnd h
          refine xs_gr (i := 37) (c := 9) (k := 13) (by decide +kernel) (by decide) (by decide +kernel) e144 rfl ?_
          refine xe_ldn (ins := .iload_n 2) (len := 1) (by decide +kernel) rfl rfl rfl rfl ?_
          refine xe_iconst (n := 1) (by decide +kernel) rfl ?_
          refine xe_isub (by decide +kernel) rfl ?_
          refine xe_ldn (ins := .iload 4) (len := 2) (by decide +kernel) rfl rfl rfl rfl ?_
          refine xe_alr (ins := .aload_n 0) (len := 1) (i := 0) (by decide +kernel) rfl rfl rfl rfl rfl ?_
          obtain ⟨v145, e146, h⟩ := xbnd h
          refine xs_gr (i := 37) (c := 9) (k := 13) (by decide +kernel) (by decide) (by decide +kernel) e146 rfl ?_
          refine xe_ldn (ins := .iload_n 2) (len := 1) (by decide +kernel) rfl rfl rfl rfl ?_
          refine xe_iconst (n := 1) (by decide +kernel) rfl ?_
          refine xe_isub (by decide +kernel) rfl ?_
          obtain ⟨v147, e148, h⟩ := xbnd h
          refine xs_lald (by decide +kernel) (xin_wr _) e148 rfl ?_
          refine xe_alr (ins := .aload_n 0) (len := 1) (i := 0) (by decide +kernel) rfl rfl rfl rfl rfl ?_
          obtain ⟨v149, e150, h⟩ := xbnd h
          refine xs_gr (i := 37) (c := 9) (k := 13) (by decide +kernel) (by decide) (by decide +kernel) e150 rfl ?_
          refine xe_ldn (ins := .iload_n 2) (len := 1) (by decide +kernel) rfl rfl rfl rfl ?_
          obtain ⟨v151, e152, h⟩ := xbnd h
          refine xs_lald (by decide +kernel) (xin_wr _) e152 rfl ?_
          obtain ⟨R154, e153, h⟩ := xbnd h
          refine xs_cs (kd := 5) (by decide) (i := 156) (j := 192) (ar := [xZ (v151), xZ (v147), xI (v138)]) (rest := [xI (xwr ((xwr ((x2) + (-1))) - (1))), xR_ (v143)]) (r2 := xr_192) (by decide +kernel) (by decide +kernel) (by decide +kernel) xr_192_e rfl (by simp only [List.map_cons, List.map_nil, List.sum_cons, List.sum_nil, xR_cat, xI_cat, xZ_cat]; decide) ?_
          refine xc_l (k192 (d := d + 0)  (xq_ai_in e139) (xq_al_in e148) (xq_al_in e152) e153) rfl (fun hi155 => ?_)
          obtain ⟨M156, e157, h⟩ := xbnd h
          refine xs_last (by decide +kernel) (xin_wr _) e157 rfl ?_
          refine xW_lv rfl (l := [(0, xR_ (x0)), (1, xI (x1)), (2, xI (xwr ((x2) + (-1)))), (3, xI (x3))]) (xsb_of ⟨rfl, rfl, rfl, rfl, trivial⟩ (show [2, 4, 0, 1, 3].Nodup by decide)) ?_
          exact k141_134  hr12 hx1 (xin_wr _) hx3 h
      · rw [if_neg c141] at h
        refine xW_lv rfl (l := [(0, xR_ (x0)), (1, xI (x1)), (2, xI (x2)), (3, xI (x3)), (4, xI (v138))]) (xsb_of ⟨rfl, rfl, rfl, rfl, rfl, trivial⟩ (show [4, 0, 1, 2, 3].Nodup by decide)) ?_
        exact k141_48  hr12 hx1 hx2 hx3 (xq_ai_in e139) h
def f141_12   (f : Nat) : Nat → Nat → Int → Int → Int → xj_M → Option (Int × xj_M)
  | 0, _, _, _, _, _ => none
  | n + 1, x0, x1, x2, x3, M => f141_12b   (f141_12   f n) f x0 x1 x2 x3 M
theorem k141_12 {d f : Nat}     : ∀ {n : Nat} {x0 : Nat} {x1 : Int} {x2 : Int} {x3 : Int} {M : xj_M} {R : Int × xj_M}, xin x1 → xin x2 → xin x3 → f141_12   f n x0 x1 x2 x3 M = some R → xW (d + 1) (none, d + 1, none) xr_141 (12, [(0, xR_ x0), (1, xI x1), (2, xI x2), (3, xI x3)], [], M) (xQl R) := by
  intro n
  induction n with
  | zero => intros; rename_i h; cases h
  | succ n ih => intros; rename_i h; exact k141_12b   ih (by assumption) (by assumption) (by assumption) h
def f141  (f : Nat) (a0 : Nat) (a1 : Int) (M : xj_M) : Option (Int × xj_M) := ((xq_gr 9 3 (a0) M).bind fun v158 => ((xq_gr 6 14 (v158) M).bind fun v160 => ((xq_ai 3 (v160) (a1) M).bind fun v162 => f141_12   f f (a0) (a1) (0) (v162) M)))
theorem k141 {d f : Nat}   {a0 : Nat} {a1 : Int} {M : xj_M} {R : Int × xj_M} (ha1 : xin a1) (h : f141  f a0 a1 M = some R) : xT (d + 2) 141 [xR_ a0, xI a1] M (xQl R) := by
  refine xT_m xr_141_e (X := (none, d + 1, none)) rfl (xa_1 (xR_cat _) (xa_1 (xI_cat _) xa_n)) (by decide) ?_
  unfold f141 at h
  refine xe_iconst (n := 0) (by decide +kernel) rfl ?_
  refine xe_isr (ins := .istore_n 2) (len := 1) (i := 2) (by decide +kernel) rfl rfl rfl (by decide) (xk_k (show ¬ (0 : Nat) = 2 by decide) (Or.inl (show ¬ (0 + 1 : Nat) = 2 by decide)) (xk_k (show ¬ (1 : Nat) = 2 by decide) (Or.inr (xI_cat _)) xk_n)) rfl ?_
  refine xe_alr (ins := .aload_n 0) (len := 1) (i := 0) (by decide +kernel) rfl rfl rfl rfl rfl ?_
  obtain ⟨v158, e159, h⟩ := xbnd h
  refine xs_gr (i := 40) (c := 9) (k := 3) (by decide +kernel) (by decide) (by decide +kernel) e159 rfl ?_
  obtain ⟨v160, e161, h⟩ := xbnd h
  refine xs_gr (i := 144) (c := 6) (k := 14) (by decide +kernel) (by decide) (by decide +kernel) e161 rfl ?_
  refine xe_ldn (ins := .iload_n 1) (len := 1) (by decide +kernel) rfl rfl rfl rfl ?_
  obtain ⟨v162, e163, h⟩ := xbnd h
  refine xs_iald rfl (by decide +kernel) ha1 e163 rfl ?_
  refine xe_isr (ins := .istore_n 3) (len := 1) (i := 3) (by decide +kernel) rfl rfl rfl (by decide) (xk_k (show ¬ (2 : Nat) = 3 by decide) (Or.inr (xI_cat _)) (xk_k (show ¬ (0 : Nat) = 3 by decide) (Or.inl (show ¬ (0 + 1 : Nat) = 3 by decide)) (xk_k (show ¬ (1 : Nat) = 3 by decide) (Or.inl (show ¬ (1 + 1 : Nat) = 3 by decide)) xk_n))) rfl ?_
  refine xW_lv rfl (l := [(0, xR_ (a0)), (1, xI (a1)), (2, xI (0)), (3, xI (v162))]) (xsb_of ⟨rfl, rfl, rfl, rfl, trivial⟩ (show [3, 2, 0, 1].Nodup by decide)) ?_
  exact k141_12   ha1 (show xin (0) by decide) (xq_ai_in e163) h
-- ChangeHouse$Ways.headRow
def xr_142 : xj_mR := (9, yX9_headRow, cX9_headRow, 3, (Option.some Jvm.ClassFile.FieldType.boolean), 1, false, (6, 233), (1, 4))
set_option maxRecDepth 20000 in
theorem xr_142_e : xj_row 142 = some xr_142 := rfl
def f142_35  (r2 : Nat → Nat → Int → xj_M → Option (Int × xj_M)) (f : Nat) (x0 : Nat) (x1 : Nat) (x2 : Int) (y0 : Int) (y1 : Int) (y2 : Nat) (M : xj_M) : Option (Int × xj_M) := ((xq_sl (y2) (y1) (y0) M).bind fun M101 => ((xq_al (x1) (x2) M101).bind fun v103 => (if (-1000000000000) ≤ (v103) then r2 (x0) (x1) (xwr ((x2) + (1))) M101 else (some (0, M101)))))
theorem k142_35 {d f : Nat}  {r2 : Nat → Nat → Int → xj_M → Option (Int × xj_M)}  (hr2 : ∀ {x0 : Nat} {x1 : Nat} {x2 : Int} {M : xj_M} {R : Int × xj_M}, xin x2 → r2 x0 x1 x2 M = some R → xW (d + 2) (none, d + 2, none) xr_142 (2, [(0, xR_ x0), (1, xR_ x1), (2, xI x2)], [], M) (xQi R)) {x0 : Nat} {x1 : Nat} {x2 : Int} {y0 : Int} {y1 : Int} {y2 : Nat} {M : xj_M} {R : Int × xj_M} (hx2 : xin x2) (hy0 : xiN y0) (hy1 : xin y1) (h : f142_35  r2 f x0 x1 x2 y0 y1 y2 M = some R) : xW (d + 2) (none, d + 2, none) xr_142 (35, [(0, xR_ x0), (1, xR_ x1), (2, xI x2)], [xZ y0, xI y1, xR_ y2], M) (xQi R) := by
  unfold f142_35 at h
  obtain ⟨M101, e102, h⟩ := xbnd h
  refine xs_last (by decide +kernel) hy1 e102 rfl ?_
  refine xe_alr (ins := .aload_n 1) (len := 1) (i := 1) (by decide +kernel) rfl rfl rfl rfl rfl ?_
  refine xe_ldn (ins := .iload_n 2) (len := 1) (by decide +kernel) rfl rfl rfl rfl ?_
  obtain ⟨v103, e104, h⟩ := xbnd h
  refine xs_lald (by decide +kernel) hx2 e104 rfl ?_
  refine xe_ldc2 (i := 139) (n := -1000000000000) (by decide +kernel) (by decide +kernel) rfl ?_
  refine xe_lcmp (by decide +kernel) rfl (xq_al_in e104) (show xiN (-1000000000000) by decide) ?_
  refine xe_ifge (off := 5) (t := 48) (by decide +kernel) (by decide) rfl (xin_cmp8 _ _) (fun c105 => ?_) (fun c105 => ?_)
  · have c105 := xcmp8_ge.mp c105; rw [if_pos c105] at h
    refine xe_iincr (i := 2) (n := 1) (by decide +kernel) (by decide) rfl (xk_k (show ¬ (0 : Nat) = 2 by decide) (Or.inl (show ¬ (0 + 1 : Nat) = 2 by decide)) (xk_k (show ¬ (1 : Nat) = 2 by decide) (Or.inr (xR_cat _)) (xk_d rfl xk_n))) rfl ?_
    refine xe_goto (off := -49) (nx := 2) (by decide +kernel) (by decide) ?_
    refine xW_lv rfl (l := [(0, xR_ (x0)), (1, xR_ (x1)), (2, xI (xwr ((x2) + (1))))]) (xsb_of ⟨rfl, rfl, rfl, trivial⟩ (show [2, 0, 1].Nodup by decide)) ?_
    exact hr2 (xin_wr _) h
  · have c105 := (not_congr xcmp8_ge).mp c105; rw [if_neg c105] at h
    refine xe_iconst (n := 0) (by decide +kernel) rfl ?_
    cases h
    exact xe_ret_i (ty := .boolean) (by decide +kernel) rfl (by decide) ⟨rfl, rfl, (show xin (0) by decide)⟩
def f142_2b  (r2 : Nat → Nat → Int → xj_M → Option (Int × xj_M)) (f : Nat) (x0 : Nat) (x1 : Nat) (x2 : Int) (M : xj_M) : Option (Int × xj_M) := ((xq_gr 9 3 (x0) M).bind fun v106 => ((xq_gi 6 2 (v106) M).bind fun v108 => (if (v108) ≤ (x2) then (some (1, M)) else ((xq_gr 9 3 (x0) M).bind fun v111 => ((xq_gi 6 3 (v111) M).bind fun v113 => (if ¬ (x2) = (v113) then ((xq_is 9 (x0) M).bind fun _ => ((f141  f (x0) (x2) M).bind fun R118 => f142_35  r2 f (x0) (x1) (x2) (R118.1) (x2) (x1) R118.2)) else f142_35  r2 f (x0) (x1) (x2) (0) (x2) (x1) M))))))
theorem k142_2b {d f : Nat}  {r2 : Nat → Nat → Int → xj_M → Option (Int × xj_M)}  (hr2 : ∀ {x0 : Nat} {x1 : Nat} {x2 : Int} {M : xj_M} {R : Int × xj_M}, xin x2 → r2 x0 x1 x2 M = some R → xW (d + 2) (none, d + 2, none) xr_142 (2, [(0, xR_ x0), (1, xR_ x1), (2, xI x2)], [], M) (xQi R)) {x0 : Nat} {x1 : Nat} {x2 : Int} {M : xj_M} {R : Int × xj_M} (hx2 : xin x2) (h : f142_2b  r2 f x0 x1 x2 M = some R) : xW (d + 2) (none, d + 2, none) xr_142 (2, [(0, xR_ x0), (1, xR_ x1), (2, xI x2)], [], M) (xQi R) := by
  unfold f142_2b at h
  refine xe_ldn (ins := .iload_n 2) (len := 1) (by decide +kernel) rfl rfl rfl rfl ?_
  refine xe_alr (ins := .aload_n 0) (len := 1) (i := 0) (by decide +kernel) rfl rfl rfl rfl rfl ?_
  obtain ⟨v106, e107, h⟩ := xbnd h
  refine xs_gr (i := 40) (c := 9) (k := 3) (by decide +kernel) (by decide) (by decide +kernel) e107 rfl ?_
  obtain ⟨v108, e109, h⟩ := xbnd h
  refine xs_gi (i := 160) (c := 6) (k := 2) (by decide +kernel) (by decide) (by decide +kernel) e109 rfl ?_
  refine xe_icmpge (off := 44) (t := 54) (by decide +kernel) (by decide) rfl hx2 (xq_gi_in e109) (fun c110 => ?_) (fun c110 => ?_)
  · rw [if_pos c110] at h
    refine xe_iconst (n := 1) (by decide +kernel) rfl ?_
    cases h
    exact xe_ret_i (ty := .boolean) (by decide +kernel) rfl (by decide) ⟨rfl, rfl, (show xin (1) by decide)⟩
  · rw [if_neg c110] at h
    refine xe_alr (ins := .aload_n 1) (len := 1) (i := 1) (by decide +kernel) rfl rfl rfl rfl rfl ?_
    refine xe_ldn (ins := .iload_n 2) (len := 1) (by decide +kernel) rfl rfl rfl rfl ?_
    refine xe_ldn (ins := .iload_n 2) (len := 1) (by decide +kernel) rfl rfl rfl rfl ?_
    refine xe_alr (ins := .aload_n 0) (len := 1) (i := 0) (by decide +kernel) rfl rfl rfl rfl rfl ?_
    obtain ⟨v111, e112, h⟩ := xbnd h
    refine xs_gr (i := 40) (c := 9) (k := 3) (by decide +kernel) (by decide) (by decide +kernel) e112 rfl ?_
    obtain ⟨v113, e114, h⟩ := xbnd h
    refine xs_gi (i := 163) (c := 6) (k := 3) (by decide +kernel) (by decide) (by decide +kernel) e114 rfl ?_
    refine xe_icmpne (off := 7) (t := 30) (by decide +kernel) (by decide) rfl hx2 (xq_gi_in e114) (fun c115 => ?_) (fun c115 => ?_)
    · rw [if_pos c115] at h
      refine xe_alr (ins := .aload_n 0) (len := 1) (i := 0) (by decide +kernel) rfl rfl rfl rfl rfl ?_
      refine xe_ldn (ins := .iload_n 2) (len := 1) (by decide +kernel) rfl rfl rfl rfl ?_
      obtain ⟨_, e117, h⟩ := xbnd h
      obtain ⟨R118, e116, h⟩ := xbnd h
      refine xs_cv (i := 135) (j := 141) (ar := [xI (x2)]) (rest := [xI (x2), xR_ (x1)]) (r2 := xr_141) (by decide +kernel) (by decide +kernel) (by decide +kernel) xr_141_e rfl (by decide) (by simp only [List.map_cons, List.map_nil, List.sum_cons, List.sum_nil, xR_cat, xI_cat, xZ_cat]; decide) e117 ?_
      refine xc_l (k141 (d := d + 0)  hx2 e116) rfl (fun hi119 => ?_)
      refine xW_lv rfl (l := [(0, xR_ (x0)), (1, xR_ (x1)), (2, xI (x2))]) (xsb_of ⟨rfl, rfl, rfl, trivial⟩ (show [0, 1, 2].Nodup by decide)) ?_
      exact k142_35  hr2 hx2 hi119 hx2 h
    · rw [if_neg c115] at h
      refine xe_lconst (n := 0) (z := 0) (by decide +kernel) rfl rfl ?_
      refine xe_goto (off := 8) (nx := 35) (by decide +kernel) (by decide) ?_
      refine xW_lv rfl (l := [(0, xR_ (x0)), (1, xR_ (x1)), (2, xI (x2))]) (xsb_of ⟨rfl, rfl, rfl, trivial⟩ (show [0, 1, 2].Nodup by decide)) ?_
      exact k142_35  hr2 hx2 (show xiN (0) by decide) hx2 h
def f142_2   (f : Nat) : Nat → Nat → Nat → Int → xj_M → Option (Int × xj_M)
  | 0, _, _, _, _ => none
  | n + 1, x0, x1, x2, M => f142_2b   (f142_2   f n) f x0 x1 x2 M
theorem k142_2 {d f : Nat}     : ∀ {n : Nat} {x0 : Nat} {x1 : Nat} {x2 : Int} {M : xj_M} {R : Int × xj_M}, xin x2 → f142_2   f n x0 x1 x2 M = some R → xW (d + 2) (none, d + 2, none) xr_142 (2, [(0, xR_ x0), (1, xR_ x1), (2, xI x2)], [], M) (xQi R) := by
  intro n
  induction n with
  | zero => intros; rename_i h; cases h
  | succ n ih => intros; rename_i h; exact k142_2b   ih (by assumption) h
def f142  (f : Nat) (a0 : Nat) (a1 : Nat) (M : xj_M) : Option (Int × xj_M) := f142_2   f f (a0) (a1) (0) M
theorem k142 {d f : Nat}   {a0 : Nat} {a1 : Nat} {M : xj_M} {R : Int × xj_M}  (h : f142  f a0 a1 M = some R) : xT (d + 3) 142 [xR_ a0, xR_ a1] M (xQi R) := by
  refine xT_m xr_142_e (X := (none, d + 2, none)) rfl (xa_1 (xR_cat _) (xa_1 (xR_cat _) xa_n)) (by decide) ?_
  unfold f142 at h
  refine xe_iconst (n := 0) (by decide +kernel) rfl ?_
  refine xe_isr (ins := .istore_n 2) (len := 1) (i := 2) (by decide +kernel) rfl rfl rfl (by decide) (xk_k (show ¬ (0 : Nat) = 2 by decide) (Or.inl (show ¬ (0 + 1 : Nat) = 2 by decide)) (xk_k (show ¬ (1 : Nat) = 2 by decide) (Or.inr (xR_cat _)) xk_n)) rfl ?_
  refine xW_lv rfl (l := [(0, xR_ (a0)), (1, xR_ (a1)), (2, xI (0))]) (xsb_of ⟨rfl, rfl, rfl, trivial⟩ (show [2, 0, 1].Nodup by decide)) ?_
  exact k142_2   (show xin (0) by decide) h
-- ChangeHouse$Works.tell
def xr_146 : xj_mR := (10, yX10_tell, cX10_tell, 5, (Option.some Jvm.ClassFile.FieldType.boolean), 1, false, (6, 86), (1, 5))
set_option maxRecDepth 20000 in
theorem xr_146_e : xj_row 146 = some xr_146 := rfl
def f146_94  (r2 : Nat → Nat → Int → xj_M → Option (Int × xj_M)) (r18 : Nat → Nat → Int → Int → Int → xj_M → Option (Int × xj_M)) (f : Nat) (x0 : Nat) (x1 : Nat) (x2 : Int) (x3 : Int) (x4 : Int) (M : xj_M) : Option (Int × xj_M) := r18 (x0) (x1) (x2) (x3) (xwr ((x4) + (1))) M
theorem k146_94 {d f : Nat}  {r2 : Nat → Nat → Int → xj_M → Option (Int × xj_M)} {r18 : Nat → Nat → Int → Int → Int → xj_M → Option (Int × xj_M)}  (hr2 : ∀ {x0 : Nat} {x1 : Nat} {x2 : Int} {M : xj_M} {R : Int × xj_M}, xin x2 → r2 x0 x1 x2 M = some R → xW (d + 4) (none, d + 4, none) xr_146 (2, [(0, xR_ x0), (1, xR_ x1), (2, xI x2)], [], M) (xQi R)) (hr18 : ∀ {x0 : Nat} {x1 : Nat} {x2 : Int} {x3 : Int} {x4 : Int} {M : xj_M} {R : Int × xj_M}, xin x2 → xin x3 → xin x4 → r18 x0 x1 x2 x3 x4 M = some R → xW (d + 4) (none, d + 4, none) xr_146 (18, [(0, xR_ x0), (1, xR_ x1), (2, xI x2), (3, xI x3), (4, xI x4)], [], M) (xQi R)) {x0 : Nat} {x1 : Nat} {x2 : Int} {x3 : Int} {x4 : Int} {M : xj_M} {R : Int × xj_M} (hx2 : xin x2) (hx3 : xin x3) (hx4 : xin x4) (h : f146_94  r2 r18 f x0 x1 x2 x3 x4 M = some R) : xW (d + 4) (none, d + 4, none) xr_146 (94, [(0, xR_ x0), (1, xR_ x1), (2, xI x2), (3, xI x3), (4, xI x4)], [], M) (xQi R) := by
  unfold f146_94 at h
  refine xe_iincr (i := 4) (n := 1) (by decide +kernel) (by decide) rfl (xk_k (show ¬ (0 : Nat) = 4 by decide) (Or.inl (show ¬ (0 + 1 : Nat) = 4 by decide)) (xk_k (show ¬ (1 : Nat) = 4 by decide) (Or.inl (show ¬ (1 + 1 : Nat) = 4 by decide)) (xk_k (show ¬ (2 : Nat) = 4 by decide) (Or.inl (show ¬ (2 + 1 : Nat) = 4 by decide)) (xk_k (show ¬ (3 : Nat) = 4 by decide) (Or.inr (xI_cat _)) (xk_d rfl xk_n))))) rfl ?_
  refine xe_goto (off := -79) (nx := 18) (by decide +kernel) (by decide) ?_
  refine xW_lv rfl (l := [(0, xR_ (x0)), (1, xR_ (x1)), (2, xI (x2)), (3, xI (x3)), (4, xI (xwr ((x4) + (1))))]) (xsb_of ⟨rfl, rfl, rfl, rfl, rfl, trivial⟩ (show [4, 0, 1, 2, 3].Nodup by decide)) ?_
  exact hr18 hx2 hx3 (xin_wr _) h
def f146_57  (r2 : Nat → Nat → Int → xj_M → Option (Int × xj_M)) (r18 : Nat → Nat → Int → Int → Int → xj_M → Option (Int × xj_M)) (f : Nat) (x0 : Nat) (x1 : Nat) (x2 : Int) (x3 : Int) (x4 : Int) (M : xj_M) : Option (Int × xj_M) := ((xq_gr 1 11 (x1) M).bind fun v101 => ((xq_gr 10 9 (x0) M).bind fun v103 => ((xq_cp (v101) (xwr ((4) * (x4))) (v103) (0) (4) M).bind fun M105 => ((xq_gr 1 10 (x1) M105).bind fun v107 => ((xq_ab (v107) (x4) M105).bind fun v109 => ((xq_gr 10 1 (x0) M105).bind fun v111 => ((xq_gr 3 4 (v111) M105).bind fun v113 => ((xq_ai 3 (v113) (x2) M105).bind fun v115 => ((xq_is 10 (x0) M105).bind fun _ => ((f147  f (x0) (v109) (v115) M105).bind fun M119 => f146_94  r2 r18 f (x0) (x1) (x2) (x3) (x4) M119))))))))))
theorem k146_57 {d f : Nat}  {r2 : Nat → Nat → Int → xj_M → Option (Int × xj_M)} {r18 : Nat → Nat → Int → Int → Int → xj_M → Option (Int × xj_M)}  (hr2 : ∀ {x0 : Nat} {x1 : Nat} {x2 : Int} {M : xj_M} {R : Int × xj_M}, xin x2 → r2 x0 x1 x2 M = some R → xW (d + 4) (none, d + 4, none) xr_146 (2, [(0, xR_ x0), (1, xR_ x1), (2, xI x2)], [], M) (xQi R)) (hr18 : ∀ {x0 : Nat} {x1 : Nat} {x2 : Int} {x3 : Int} {x4 : Int} {M : xj_M} {R : Int × xj_M}, xin x2 → xin x3 → xin x4 → r18 x0 x1 x2 x3 x4 M = some R → xW (d + 4) (none, d + 4, none) xr_146 (18, [(0, xR_ x0), (1, xR_ x1), (2, xI x2), (3, xI x3), (4, xI x4)], [], M) (xQi R)) {x0 : Nat} {x1 : Nat} {x2 : Int} {x3 : Int} {x4 : Int} {M : xj_M} {R : Int × xj_M} (hx2 : xin x2) (hx3 : xin x3) (hx4 : xin x4) (h : f146_57  r2 r18 f x0 x1 x2 x3 x4 M = some R) : xW (d + 4) (none, d + 4, none) xr_146 (57, [(0, xR_ x0), (1, xR_ x1), (2, xI x2), (3, xI x3), (4, xI x4)], [], M) (xQi R) := by
  unfold f146_57 at h
  refine xe_alr (ins := .aload_n 1) (len := 1) (i := 1) (by decide +kernel) rfl rfl rfl rfl rfl ?_
  obtain ⟨v101, e102, h⟩ := xbnd h
  refine xs_gr (i := 111) (c := 1) (k := 11) (by decide +kernel) (by decide) (by decide +kernel) e102 rfl ?_
  refine xe_iconst (n := 4) (by decide +kernel) rfl ?_
  refine xe_ldn (ins := .iload 4) (len := 2) (by decide +kernel) rfl rfl rfl rfl ?_
  refine xe_imul (by decide +kernel) rfl ?_
  refine xe_alr (ins := .aload_n 0) (len := 1) (i := 0) (by decide +kernel) rfl rfl rfl rfl rfl ?_
  obtain ⟨v103, e104, h⟩ := xbnd h
  refine xs_gr (i := 40) (c := 10) (k := 9) (by decide +kernel) (by decide) (by decide +kernel) e104 rfl ?_
  refine xe_iconst (n := 0) (by decide +kernel) rfl ?_
  refine xe_iconst (n := 4) (by decide +kernel) rfl ?_
  obtain ⟨M105, e106, h⟩ := xbnd h
  refine xs_cp (i := 114) (j := 0) (by decide +kernel) (by decide +kernel) (xin_wr _) (show xin (0) by decide) (show xin (4) by decide) (by rfl) e106 rfl ?_
  refine xe_alr (ins := .aload_n 0) (len := 1) (i := 0) (by decide +kernel) rfl rfl rfl rfl rfl ?_
  refine xe_alr (ins := .aload_n 1) (len := 1) (i := 1) (by decide +kernel) rfl rfl rfl rfl rfl ?_
  obtain ⟨v107, e108, h⟩ := xbnd h
  refine xs_gr (i := 120) (c := 1) (k := 10) (by decide +kernel) (by decide) (by decide +kernel) e108 rfl ?_
  refine xe_ldn (ins := .iload 4) (len := 2) (by decide +kernel) rfl rfl rfl rfl ?_
  obtain ⟨v109, e110, h⟩ := xbnd h
  refine xs_bald (by decide +kernel) hx4 e110 rfl ?_
  refine xe_alr (ins := .aload_n 0) (len := 1) (i := 0) (by decide +kernel) rfl rfl rfl rfl rfl ?_
  obtain ⟨v111, e112, h⟩ := xbnd h
  refine xs_gr (i := 60) (c := 10) (k := 1) (by decide +kernel) (by decide) (by decide +kernel) e112 rfl ?_
  obtain ⟨v113, e114, h⟩ := xbnd h
  refine xs_gr (i := 96) (c := 3) (k := 4) (by decide +kernel) (by decide) (by decide +kernel) e114 rfl ?_
  refine xe_ldn (ins := .iload_n 2) (len := 1) (by decide +kernel) rfl rfl rfl rfl ?_
  obtain ⟨v115, e116, h⟩ := xbnd h
  refine xs_iald rfl (by decide +kernel) hx2 e116 rfl ?_
  obtain ⟨_, e118, h⟩ := xbnd h
  obtain ⟨M119, e117, h⟩ := xbnd h
  refine xs_cv (i := 123) (j := 147) (ar := [xI (v115), xI (v109)]) (rest := []) (r2 := xr_147) (by decide +kernel) (by decide +kernel) (by decide +kernel) xr_147_e rfl (by decide) (by decide) e118 ?_
  refine xc_v (k147 (d := d + 0)  (xq_ab_in e110) (xq_ai_in e116) e117) rfl ?_
  refine xW_lv rfl (l := [(0, xR_ (x0)), (1, xR_ (x1)), (2, xI (x2)), (3, xI (x3)), (4, xI (x4))]) (xsb_of ⟨rfl, rfl, rfl, rfl, rfl, trivial⟩ (show [0, 1, 2, 3, 4].Nodup by decide)) ?_
  exact k146_94  hr2 hr18 hx2 hx3 hx4 h
def f146_160  (r2 : Nat → Nat → Int → xj_M → Option (Int × xj_M)) (f : Nat) (x0 : Nat) (x1 : Nat) (x2 : Int) (M : xj_M) : Option (Int × xj_M) := r2 (x0) (x1) (xwr ((x2) + (1))) M
theorem k146_160 {d f : Nat}  {r2 : Nat → Nat → Int → xj_M → Option (Int × xj_M)}  (hr2 : ∀ {x0 : Nat} {x1 : Nat} {x2 : Int} {M : xj_M} {R : Int × xj_M}, xin x2 → r2 x0 x1 x2 M = some R → xW (d + 4) (none, d + 4, none) xr_146 (2, [(0, xR_ x0), (1, xR_ x1), (2, xI x2)], [], M) (xQi R)) {x0 : Nat} {x1 : Nat} {x2 : Int} {M : xj_M} {R : Int × xj_M} (hx2 : xin x2) (h : f146_160  r2 f x0 x1 x2 M = some R) : xW (d + 4) (none, d + 4, none) xr_146 (160, [(0, xR_ x0), (1, xR_ x1), (2, xI x2)], [], M) (xQi R) := by
  unfold f146_160 at h
  refine xe_iincr (i := 2) (n := 1) (by decide +kernel) (by decide) rfl (xk_k (show ¬ (0 : Nat) = 2 by decide) (Or.inl (show ¬ (0 + 1 : Nat) = 2 by decide)) (xk_k (show ¬ (1 : Nat) = 2 by decide) (Or.inr (xR_cat _)) (xk_d rfl xk_n))) rfl ?_
  refine xe_goto (off := -161) (nx := 2) (by decide +kernel) (by decide) ?_
  refine xW_lv rfl (l := [(0, xR_ (x0)), (1, xR_ (x1)), (2, xI (xwr ((x2) + (1))))]) (xsb_of ⟨rfl, rfl, rfl, trivial⟩ (show [2, 0, 1].Nodup by decide)) ?_
  exact hr2 (xin_wr _) h
def f146_143  (r2 : Nat → Nat → Int → xj_M → Option (Int × xj_M)) (f : Nat) (x0 : Nat) (x1 : Nat) (x2 : Int) (M : xj_M) : Option (Int × xj_M) := ((xq_gr 10 1 (x0) M).bind fun v121 => ((xq_gr 3 5 (v121) M).bind fun v123 => ((xq_ab (v123) (x2) M).bind fun v125 => (if (v125) = 0 then f146_160  r2 f (x0) (x1) (x2) M else ((xq_is 10 (x0) M).bind fun _ => ((f148  f (x0) (x2) M).bind fun M130 => f146_160  r2 f (x0) (x1) (x2) M130))))))
theorem k146_143 {d f : Nat}  {r2 : Nat → Nat → Int → xj_M → Option (Int × xj_M)}  (hr2 : ∀ {x0 : Nat} {x1 : Nat} {x2 : Int} {M : xj_M} {R : Int × xj_M}, xin x2 → r2 x0 x1 x2 M = some R → xW (d + 4) (none, d + 4, none) xr_146 (2, [(0, xR_ x0), (1, xR_ x1), (2, xI x2)], [], M) (xQi R)) {x0 : Nat} {x1 : Nat} {x2 : Int} {M : xj_M} {R : Int × xj_M} (hx2 : xin x2) (h : f146_143  r2 f x0 x1 x2 M = some R) : xW (d + 4) (none, d + 4, none) xr_146 (143, [(0, xR_ x0), (1, xR_ x1), (2, xI x2)], [], M) (xQi R) := by
  unfold f146_143 at h
  refine xe_alr (ins := .aload_n 0) (len := 1) (i := 0) (by decide +kernel) rfl rfl rfl rfl rfl ?_
  obtain ⟨v121, e122, h⟩ := xbnd h
  refine xs_gr (i := 60) (c := 10) (k := 1) (by decide +kernel) (by decide) (by decide +kernel) e122 rfl ?_
  obtain ⟨v123, e124, h⟩ := xbnd h
  refine xs_gr (i := 92) (c := 3) (k := 5) (by decide +kernel) (by decide) (by decide +kernel) e124 rfl ?_
  refine xe_ldn (ins := .iload_n 2) (len := 1) (by decide +kernel) rfl rfl rfl rfl ?_
  obtain ⟨v125, e126, h⟩ := xbnd h
  refine xs_bald (by decide +kernel) hx2 e126 rfl ?_
  refine xe_ifeq (off := 8) (t := 160) (by decide +kernel) (by decide) rfl (xq_ab_in e126) (fun c127 => ?_) (fun c127 => ?_)
  · rw [if_pos c127] at h
    refine xW_lv rfl (l := [(0, xR_ (x0)), (1, xR_ (x1)), (2, xI (x2))]) (xsb_of ⟨rfl, rfl, rfl, trivial⟩ (show [0, 1, 2].Nodup by decide)) ?_
    exact k146_160  hr2 hx2 h
  · rw [if_neg c127] at h
    refine xe_alr (ins := .aload_n 0) (len := 1) (i := 0) (by decide +kernel) rfl rfl rfl rfl rfl ?_
    refine xe_ldn (ins := .iload_n 2) (len := 1) (by decide +kernel) rfl rfl rfl rfl ?_
    obtain ⟨_, e129, h⟩ := xbnd h
    obtain ⟨M130, e128, h⟩ := xbnd h
    refine xs_cv (i := 130) (j := 148) (ar := [xI (x2)]) (rest := []) (r2 := xr_148) (by decide +kernel) (by decide +kernel) (by decide +kernel) xr_148_e rfl (by decide) (by decide) e129 ?_
    refine xc_v (k148 (d := d + 1)  hx2 e128) rfl ?_
    refine xW_lv rfl (l := [(0, xR_ (x0)), (1, xR_ (x1)), (2, xI (x2))]) (xsb_of ⟨rfl, rfl, rfl, trivial⟩ (show [0, 1, 2].Nodup by decide)) ?_
    exact k146_160  hr2 hx2 h
def f146_18b  (r2 : Nat → Nat → Int → xj_M → Option (Int × xj_M)) (r18 : Nat → Nat → Int → Int → Int → xj_M → Option (Int × xj_M)) (f : Nat) (x0 : Nat) (x1 : Nat) (x2 : Int) (x3 : Int) (x4 : Int) (M : xj_M) : Option (Int × xj_M) := ((xq_gi 1 8 (x1) M).bind fun v132 => (if (v132) ≤ (x4) then (if (x3) = 0 then f146_143  r2 f (x0) (x1) (x2) M else ((xq_gr 10 7 (x0) M).bind fun v136 => ((xq_gi 5 1 (v136) M).bind fun v138 => (if (v138) ≤ (100) then ((xq_gr 10 4 (x0) M).bind fun v141 => ((xq_ar (v141) (x2) M).bind fun v143 => ((xq_gr 10 7 (x0) M).bind fun v145 => ((xq_is 5 (v143) M).bind fun _ => ((f79  f (v143) (v145) M).bind fun M149 => ((xq_gr 10 2 (x0) M149).bind fun v151 => ((xq_gr 10 4 (x0) M149).bind fun v153 => ((xq_ar (v153) (x2) M149).bind fun v155 => ((xq_sr (v151) (x2) (v155) M149).bind fun M157 => f146_143  r2 f (x0) (x1) (x2) M157))))))))) else (some (0, M)))))) else ((xq_gr 1 9 (x1) M).bind fun v159 => ((xq_ai 3 (v159) (x4) M).bind fun v161 => (if ¬ (v161) = (x2) then f146_94  r2 r18 f (x0) (x1) (x2) (x3) (x4) M else (if ¬ (x3) = 0 then f146_57  r2 r18 f (x0) (x1) (x2) (x3) (x4) M else ((xq_gr 10 7 (x0) M).bind fun v165 => ((xq_gr 10 2 (x0) M).bind fun v167 => ((xq_ar (v167) (x2) M).bind fun v169 => ((xq_is 5 (v165) M).bind fun _ => ((f79  f (v165) (v169) M).bind fun M173 => f146_57  r2 r18 f (x0) (x1) (x2) (1) (x4) M173)))))))))))
theorem k146_18b {d f : Nat}  {r2 : Nat → Nat → Int → xj_M → Option (Int × xj_M)} {r18 : Nat → Nat → Int → Int → Int → xj_M → Option (Int × xj_M)}  (hr2 : ∀ {x0 : Nat} {x1 : Nat} {x2 : Int} {M : xj_M} {R : Int × xj_M}, xin x2 → r2 x0 x1 x2 M = some R → xW (d + 4) (none, d + 4, none) xr_146 (2, [(0, xR_ x0), (1, xR_ x1), (2, xI x2)], [], M) (xQi R)) (hr18 : ∀ {x0 : Nat} {x1 : Nat} {x2 : Int} {x3 : Int} {x4 : Int} {M : xj_M} {R : Int × xj_M}, xin x2 → xin x3 → xin x4 → r18 x0 x1 x2 x3 x4 M = some R → xW (d + 4) (none, d + 4, none) xr_146 (18, [(0, xR_ x0), (1, xR_ x1), (2, xI x2), (3, xI x3), (4, xI x4)], [], M) (xQi R)) {x0 : Nat} {x1 : Nat} {x2 : Int} {x3 : Int} {x4 : Int} {M : xj_M} {R : Int × xj_M} (hx2 : xin x2) (hx3 : xin x3) (hx4 : xin x4) (h : f146_18b  r2 r18 f x0 x1 x2 x3 x4 M = some R) : xW (d + 4) (none, d + 4, none) xr_146 (18, [(0, xR_ x0), (1, xR_ x1), (2, xI x2), (3, xI x3), (4, xI x4)], [], M) (xQi R) := by
  unfold f146_18b at h
  refine xe_ldn (ins := .iload 4) (len := 2) (by decide +kernel) rfl rfl rfl rfl ?_
  refine xe_alr (ins := .aload_n 1) (len := 1) (i := 1) (by decide +kernel) rfl rfl rfl rfl rfl ?_
  obtain ⟨v132, e133, h⟩ := xbnd h
  refine xs_gi (i := 99) (c := 1) (k := 8) (by decide +kernel) (by decide) (by decide +kernel) e133 rfl ?_
  refine xe_icmpge (off := 76) (t := 100) (by decide +kernel) (by decide) rfl hx4 (xq_gi_in e133) (fun c134 => ?_) (fun c134 => ?_)
  · rw [if_pos c134] at h
    refine xe_ldn (ins := .iload_n 3) (len := 1) (by decide +kernel) rfl rfl rfl rfl ?_
    refine xe_ifeq (off := 42) (t := 143) (by decide +kernel) (by decide) rfl hx3 (fun c135 => ?_) (fun c135 => ?_)
    · rw [if_pos c135] at h
      refine xW_lv rfl (l := [(0, xR_ (x0)), (1, xR_ (x1)), (2, xI (x2))]) (xsb_of ⟨rfl, rfl, rfl, trivial⟩ (show [0, 1, 2, 3, 4].Nodup by decide)) ?_
      exact k146_143  hr2 hx2 h
    · rw [if_neg c135] at h
      refine xe_alr (ins := .aload_n 0) (len := 1) (i := 0) (by decide +kernel) rfl rfl rfl rfl rfl ?_
      obtain ⟨v136, e137, h⟩ := xbnd h
      refine xs_gr (i := 32) (c := 10) (k := 7) (by decide +kernel) (by decide) (by decide +kernel) e137 rfl ?_
      obtain ⟨v138, e139, h⟩ := xbnd h
      refine xs_gi (i := 127) (c := 5) (k := 1) (by decide +kernel) (by decide) (by decide +kernel) e139 rfl ?_
      refine xe_bipush (n := 100) (by decide +kernel) (by decide) rfl ?_
      refine xe_icmple (off := 5) (t := 118) (by decide +kernel) (by decide) rfl (xq_gi_in e139) (show xin (100) by decide) (fun c140 => ?_) (fun c140 => ?_)
      · rw [if_pos c140] at h
        refine xe_alr (ins := .aload_n 0) (len := 1) (i := 0) (by decide +kernel) rfl rfl rfl rfl rfl ?_
        obtain ⟨v141, e142, h⟩ := xbnd h
        refine xs_gr (i := 20) (c := 10) (k := 4) (by decide +kernel) (by decide) (by decide +kernel) e142 rfl ?_
        refine xe_ldn (ins := .iload_n 2) (len := 1) (by decide +kernel) rfl rfl rfl rfl ?_
        obtain ⟨v143, e144, h⟩ := xbnd h
        refine xs_aald (by decide +kernel) hx2 e144 rfl ?_
        refine xe_alr (ins := .aload_n 0) (len := 1) (i := 0) (by decide +kernel) rfl rfl rfl rfl rfl ?_
        obtain ⟨v145, e146, h⟩ := xbnd h
        refine xs_gr (i := 32) (c := 10) (k := 7) (by decide +kernel) (by decide) (by decide +kernel) e146 rfl ?_
        obtain ⟨_, e148, h⟩ := xbnd h
        obtain ⟨M149, e147, h⟩ := xbnd h
        refine xs_cv (i := 107) (j := 79) (ar := [xR_ (v145)]) (rest := []) (r2 := xr_79) (by decide +kernel) (by decide +kernel) (by decide +kernel) xr_79_e rfl (by decide) (by decide) e148 ?_
        refine xc_v (k79 (d := d + 2)   e147) rfl ?_
        refine xe_alr (ins := .aload_n 0) (len := 1) (i := 0) (by decide +kernel) rfl rfl rfl rfl rfl ?_
        obtain ⟨v151, e152, h⟩ := xbnd h
        refine xs_gr (i := 11) (c := 10) (k := 2) (by decide +kernel) (by decide) (by decide +kernel) e152 rfl ?_
        refine xe_ldn (ins := .iload_n 2) (len := 1) (by decide +kernel) rfl rfl rfl rfl ?_
        refine xe_alr (ins := .aload_n 0) (len := 1) (i := 0) (by decide +kernel) rfl rfl rfl rfl rfl ?_
        obtain ⟨v153, e154, h⟩ := xbnd h
        refine xs_gr (i := 20) (c := 10) (k := 4) (by decide +kernel) (by decide) (by decide +kernel) e154 rfl ?_
        refine xe_ldn (ins := .iload_n 2) (len := 1) (by decide +kernel) rfl rfl rfl rfl ?_
        obtain ⟨v155, e156, h⟩ := xbnd h
        refine xs_aald (by decide +kernel) hx2 e156 rfl ?_
        obtain ⟨M157, e158, h⟩ := xbnd h
        refine xs_aast (by decide +kernel) hx2 e158 rfl ?_
        refine xW_lv rfl (l := [(0, xR_ (x0)), (1, xR_ (x1)), (2, xI (x2))]) (xsb_of ⟨rfl, rfl, rfl, trivial⟩ (show [0, 1, 2, 3, 4].Nodup by decide)) ?_
        exact k146_143  hr2 hx2 h
      · rw [if_neg c140] at h
        refine xe_iconst (n := 0) (by decide +kernel) rfl ?_
        cases h
        exact xe_ret_i (ty := .boolean) (by decide +kernel) rfl (by decide) ⟨rfl, rfl, (show xin (0) by decide)⟩
  · rw [if_neg c134] at h
    refine xe_alr (ins := .aload_n 1) (len := 1) (i := 1) (by decide +kernel) rfl rfl rfl rfl rfl ?_
    obtain ⟨v159, e160, h⟩ := xbnd h
    refine xs_gr (i := 104) (c := 1) (k := 9) (by decide +kernel) (by decide) (by decide +kernel) e160 rfl ?_
    refine xe_ldn (ins := .iload 4) (len := 2) (by decide +kernel) rfl rfl rfl rfl ?_
    obtain ⟨v161, e162, h⟩ := xbnd h
    refine xs_iald rfl (by decide +kernel) hx4 e162 rfl ?_
    refine xe_ldn (ins := .iload_n 2) (len := 1) (by decide +kernel) rfl rfl rfl rfl ?_
    refine xe_icmpne (off := 59) (t := 94) (by decide +kernel) (by decide) rfl (xq_ai_in e162) hx2 (fun c163 => ?_) (fun c163 => ?_)
    · rw [if_pos c163] at h
      refine xW_lv rfl (l := [(0, xR_ (x0)), (1, xR_ (x1)), (2, xI (x2)), (3, xI (x3)), (4, xI (x4))]) (xsb_of ⟨rfl, rfl, rfl, rfl, rfl, trivial⟩ (show [0, 1, 2, 3, 4].Nodup by decide)) ?_
      exact k146_94  hr2 hr18 hx2 hx3 hx4 h
    · rw [if_neg c163] at h
      refine xe_ldn (ins := .iload_n 3) (len := 1) (by decide +kernel) rfl rfl rfl rfl ?_
      refine xe_ifne (off := 18) (t := 57) (by decide +kernel) (by decide) rfl hx3 (fun c164 => ?_) (fun c164 => ?_)
      · rw [if_pos c164] at h
        refine xW_lv rfl (l := [(0, xR_ (x0)), (1, xR_ (x1)), (2, xI (x2)), (3, xI (x3)), (4, xI (x4))]) (xsb_of ⟨rfl, rfl, rfl, rfl, rfl, trivial⟩ (show [0, 1, 2, 3, 4].Nodup by decide)) ?_
        exact k146_57  hr2 hr18 hx2 hx3 hx4 h
      · rw [if_neg c164] at h
        refine xe_alr (ins := .aload_n 0) (len := 1) (i := 0) (by decide +kernel) rfl rfl rfl rfl rfl ?_
        obtain ⟨v165, e166, h⟩ := xbnd h
        refine xs_gr (i := 32) (c := 10) (k := 7) (by decide +kernel) (by decide) (by decide +kernel) e166 rfl ?_
        refine xe_alr (ins := .aload_n 0) (len := 1) (i := 0) (by decide +kernel) rfl rfl rfl rfl rfl ?_
        obtain ⟨v167, e168, h⟩ := xbnd h
        refine xs_gr (i := 11) (c := 10) (k := 2) (by decide +kernel) (by decide) (by decide +kernel) e168 rfl ?_
        refine xe_ldn (ins := .iload_n 2) (len := 1) (by decide +kernel) rfl rfl rfl rfl ?_
        obtain ⟨v169, e170, h⟩ := xbnd h
        refine xs_aald (by decide +kernel) hx2 e170 rfl ?_
        obtain ⟨_, e172, h⟩ := xbnd h
        obtain ⟨M173, e171, h⟩ := xbnd h
        refine xs_cv (i := 107) (j := 79) (ar := [xR_ (v169)]) (rest := []) (r2 := xr_79) (by decide +kernel) (by decide +kernel) (by decide +kernel) xr_79_e rfl (by decide) (by decide) e172 ?_
        refine xc_v (k79 (d := d + 2)   e171) rfl ?_
        refine xe_iconst (n := 1) (by decide +kernel) rfl ?_
        refine xe_isr (ins := .istore_n 3) (len := 1) (i := 3) (by decide +kernel) rfl rfl rfl (by decide) (xk_k (show ¬ (0 : Nat) = 3 by decide) (Or.inl (show ¬ (0 + 1 : Nat) = 3 by decide)) (xk_k (show ¬ (1 : Nat) = 3 by decide) (Or.inl (show ¬ (1 + 1 : Nat) = 3 by decide)) (xk_k (show ¬ (2 : Nat) = 3 by decide) (Or.inr (xI_cat _)) (xk_d rfl (xk_k (show ¬ (4 : Nat) = 3 by decide) (Or.inl (show ¬ (4 + 1 : Nat) = 3 by decide)) xk_n))))) rfl ?_
        refine xW_lv rfl (l := [(0, xR_ (x0)), (1, xR_ (x1)), (2, xI (x2)), (3, xI (1)), (4, xI (x4))]) (xsb_of ⟨rfl, rfl, rfl, rfl, rfl, trivial⟩ (show [3, 0, 1, 2, 4].Nodup by decide)) ?_
        exact k146_57  hr2 hr18 hx2 (show xin (1) by decide) hx4 h
def f146_18  (r2 : Nat → Nat → Int → xj_M → Option (Int × xj_M)) (f : Nat) : Nat → Nat → Nat → Int → Int → Int → xj_M → Option (Int × xj_M)
  | 0, _, _, _, _, _, _ => none
  | n + 1, x0, x1, x2, x3, x4, M => f146_18b  r2 (f146_18  r2 f n) f x0 x1 x2 x3 x4 M
theorem k146_18 {d f : Nat}  {r2 : Nat → Nat → Int → xj_M → Option (Int × xj_M)}  (hr2 : ∀ {x0 : Nat} {x1 : Nat} {x2 : Int} {M : xj_M} {R : Int × xj_M}, xin x2 → r2 x0 x1 x2 M = some R → xW (d + 4) (none, d + 4, none) xr_146 (2, [(0, xR_ x0), (1, xR_ x1), (2, xI x2)], [], M) (xQi R)) : ∀ {n : Nat} {x0 : Nat} {x1 : Nat} {x2 : Int} {x3 : Int} {x4 : Int} {M : xj_M} {R : Int × xj_M}, xin x2 → xin x3 → xin x4 → f146_18  r2 f n x0 x1 x2 x3 x4 M = some R → xW (d + 4) (none, d + 4, none) xr_146 (18, [(0, xR_ x0), (1, xR_ x1), (2, xI x2), (3, xI x3), (4, xI x4)], [], M) (xQi R) := by
  intro n
  induction n with
  | zero => intros; rename_i h; cases h
  | succ n ih => intros; rename_i h; exact k146_18b  hr2 ih (by assumption) (by assumption) (by assumption) h
def f146_2b  (r2 : Nat → Nat → Int → xj_M → Option (Int × xj_M)) (f : Nat) (x0 : Nat) (x1 : Nat) (x2 : Int) (M : xj_M) : Option (Int × xj_M) := ((xq_gr 10 1 (x0) M).bind fun v175 => ((xq_gi 3 1 (v175) M).bind fun v177 => (if (v177) ≤ (x2) then (some (1, M)) else f146_18  r2 f f (x0) (x1) (x2) (0) (0) M)))
theorem k146_2b {d f : Nat}  {r2 : Nat → Nat → Int → xj_M → Option (Int × xj_M)}  (hr2 : ∀ {x0 : Nat} {x1 : Nat} {x2 : Int} {M : xj_M} {R : Int × xj_M}, xin x2 → r2 x0 x1 x2 M = some R → xW (d + 4) (none, d + 4, none) xr_146 (2, [(0, xR_ x0), (1, xR_ x1), (2, xI x2)], [], M) (xQi R)) {x0 : Nat} {x1 : Nat} {x2 : Int} {M : xj_M} {R : Int × xj_M} (hx2 : xin x2) (h : f146_2b  r2 f x0 x1 x2 M = some R) : xW (d + 4) (none, d + 4, none) xr_146 (2, [(0, xR_ x0), (1, xR_ x1), (2, xI x2)], [], M) (xQi R) := by
  unfold f146_2b at h
  refine xe_ldn (ins := .iload_n 2) (len := 1) (by decide +kernel) rfl rfl rfl rfl ?_
  refine xe_alr (ins := .aload_n 0) (len := 1) (i := 0) (by decide +kernel) rfl rfl rfl rfl rfl ?_
  obtain ⟨v175, e176, h⟩ := xbnd h
  refine xs_gr (i := 60) (c := 10) (k := 1) (by decide +kernel) (by decide) (by decide +kernel) e176 rfl ?_
  obtain ⟨v177, e178, h⟩ := xbnd h
  refine xs_gi (i := 79) (c := 3) (k := 1) (by decide +kernel) (by decide) (by decide +kernel) e178 rfl ?_
  refine xe_icmpge (off := 156) (t := 166) (by decide +kernel) (by decide) rfl hx2 (xq_gi_in e178) (fun c179 => ?_) (fun c179 => ?_)
  · rw [if_pos c179] at h
    refine xe_iconst (n := 1) (by decide +kernel) rfl ?_
    cases h
    exact xe_ret_i (ty := .boolean) (by decide +kernel) rfl (by decide) ⟨rfl, rfl, (show xin (1) by decide)⟩
  · rw [if_neg c179] at h
    refine xe_iconst (n := 0) (by decide +kernel) rfl ?_
    refine xe_isr (ins := .istore_n 3) (len := 1) (i := 3) (by decide +kernel) rfl rfl rfl (by decide) (xk_k (show ¬ (0 : Nat) = 3 by decide) (Or.inl (show ¬ (0 + 1 : Nat) = 3 by decide)) (xk_k (show ¬ (1 : Nat) = 3 by decide) (Or.inl (show ¬ (1 + 1 : Nat) = 3 by decide)) (xk_k (show ¬ (2 : Nat) = 3 by decide) (Or.inr (xI_cat _)) xk_n))) rfl ?_
    refine xe_iconst (n := 0) (by decide +kernel) rfl ?_
    refine xe_isr (ins := .istore 4) (len := 2) (i := 4) (by decide +kernel) rfl rfl rfl (by decide) (xk_k (show ¬ (3 : Nat) = 4 by decide) (Or.inr (xI_cat _)) (xk_k (show ¬ (0 : Nat) = 4 by decide) (Or.inl (show ¬ (0 + 1 : Nat) = 4 by decide)) (xk_k (show ¬ (1 : Nat) = 4 by decide) (Or.inl (show ¬ (1 + 1 : Nat) = 4 by decide)) (xk_k (show ¬ (2 : Nat) = 4 by decide) (Or.inl (show ¬ (2 + 1 : Nat) = 4 by decide)) xk_n)))) rfl ?_
    refine xW_lv rfl (l := [(0, xR_ (x0)), (1, xR_ (x1)), (2, xI (x2)), (3, xI (0)), (4, xI (0))]) (xsb_of ⟨rfl, rfl, rfl, rfl, rfl, trivial⟩ (show [4, 3, 0, 1, 2].Nodup by decide)) ?_
    exact k146_18  hr2 hx2 (show xin (0) by decide) (show xin (0) by decide) h
def f146_2   (f : Nat) : Nat → Nat → Nat → Int → xj_M → Option (Int × xj_M)
  | 0, _, _, _, _ => none
  | n + 1, x0, x1, x2, M => f146_2b   (f146_2   f n) f x0 x1 x2 M
theorem k146_2 {d f : Nat}     : ∀ {n : Nat} {x0 : Nat} {x1 : Nat} {x2 : Int} {M : xj_M} {R : Int × xj_M}, xin x2 → f146_2   f n x0 x1 x2 M = some R → xW (d + 4) (none, d + 4, none) xr_146 (2, [(0, xR_ x0), (1, xR_ x1), (2, xI x2)], [], M) (xQi R) := by
  intro n
  induction n with
  | zero => intros; rename_i h; cases h
  | succ n ih => intros; rename_i h; exact k146_2b   ih (by assumption) h
def f146  (f : Nat) (a0 : Nat) (a1 : Nat) (M : xj_M) : Option (Int × xj_M) := f146_2   f f (a0) (a1) (0) M
theorem k146 {d f : Nat}   {a0 : Nat} {a1 : Nat} {M : xj_M} {R : Int × xj_M}  (h : f146  f a0 a1 M = some R) : xT (d + 5) 146 [xR_ a0, xR_ a1] M (xQi R) := by
  refine xT_m xr_146_e (X := (none, d + 4, none)) rfl (xa_1 (xR_cat _) (xa_1 (xR_cat _) xa_n)) (by decide) ?_
  unfold f146 at h
  refine xe_iconst (n := 0) (by decide +kernel) rfl ?_
  refine xe_isr (ins := .istore_n 2) (len := 1) (i := 2) (by decide +kernel) rfl rfl rfl (by decide) (xk_k (show ¬ (0 : Nat) = 2 by decide) (Or.inl (show ¬ (0 + 1 : Nat) = 2 by decide)) (xk_k (show ¬ (1 : Nat) = 2 by decide) (Or.inr (xR_cat _)) xk_n)) rfl ?_
  refine xW_lv rfl (l := [(0, xR_ (a0)), (1, xR_ (a1)), (2, xI (0))]) (xsb_of ⟨rfl, rfl, rfl, trivial⟩ (show [2, 0, 1].Nodup by decide)) ?_
  exact k146_2   (show xin (0) by decide) h
-- ChangeHouse$Works.leadersOf
def xr_151 : xj_mR := (10, yX10_leadersOf, cX10_leadersOf, 6, (Option.some Jvm.ClassFile.FieldType.int), 3, false, (6, 152), (1, 5))
set_option maxRecDepth 20000 in
theorem xr_151_e : xj_row 151 = some xr_151 := rfl
def f151_35  (r6 : Nat → Int → Int → Int → Int → xj_M → Option (Int × xj_M)) (f : Nat) (x1 : Nat) (x2 : Int) (x3 : Int) (x5 : Int) (y0 : Int) (y1 : Int) (M : xj_M) : Option (Int × xj_M) := r6 (x1) (x2) (x3) (xor_ (y1) (y0)) (xwr ((x5) + (1))) M
theorem k151_35 {d f : Nat}  {r6 : Nat → Int → Int → Int → Int → xj_M → Option (Int × xj_M)}  (hr6 : ∀ {x1 : Nat} {x2 : Int} {x3 : Int} {x4 : Int} {x5 : Int} {M : xj_M} {R : Int × xj_M}, xin x2 → xin x3 → xin x4 → xin x5 → r6 x1 x2 x3 x4 x5 M = some R → xW (d + 1) (none, d + 1, none) xr_151 (6, [(1, xR_ x1), (2, xI x2), (3, xI x3), (4, xI x4), (5, xI x5)], [], M) (xQi R)) {x1 : Nat} {x2 : Int} {x3 : Int} {x5 : Int} {y0 : Int} {y1 : Int} {M : xj_M} {R : Int × xj_M} (hx2 : xin x2) (hx3 : xin x3) (hx5 : xin x5) (hy0 : xin y0) (hy1 : xin y1) (h : f151_35  r6 f x1 x2 x3 x5 y0 y1 M = some R) : xW (d + 1) (none, d + 1, none) xr_151 (35, [(1, xR_ x1), (2, xI x2), (3, xI x3), (5, xI x5)], [xI y0, xI y1], M) (xQi R) := by
  unfold f151_35 at h
  refine xe_ior (by decide +kernel) rfl ?_
  refine xe_isr (ins := .istore 4) (len := 2) (i := 4) (by decide +kernel) rfl rfl rfl (by decide) (xk_k (show ¬ (1 : Nat) = 4 by decide) (Or.inl (show ¬ (1 + 1 : Nat) = 4 by decide)) (xk_k (show ¬ (2 : Nat) = 4 by decide) (Or.inl (show ¬ (2 + 1 : Nat) = 4 by decide)) (xk_k (show ¬ (3 : Nat) = 4 by decide) (Or.inr (xI_cat _)) (xk_k (show ¬ (5 : Nat) = 4 by decide) (Or.inl (show ¬ (5 + 1 : Nat) = 4 by decide)) xk_n)))) rfl ?_
  refine xe_iincr (i := 5) (n := 1) (by decide +kernel) (by decide) rfl (xk_k (show ¬ (4 : Nat) = 5 by decide) (Or.inr (xI_cat _)) (xk_k (show ¬ (1 : Nat) = 5 by decide) (Or.inl (show ¬ (1 + 1 : Nat) = 5 by decide)) (xk_k (show ¬ (2 : Nat) = 5 by decide) (Or.inl (show ¬ (2 + 1 : Nat) = 5 by decide)) (xk_k (show ¬ (3 : Nat) = 5 by decide) (Or.inl (show ¬ (3 + 1 : Nat) = 5 by decide)) (xk_d rfl xk_n))))) rfl ?_
  refine xe_goto (off := -35) (nx := 6) (by decide +kernel) (by decide) ?_
  refine xW_lv rfl (l := [(1, xR_ (x1)), (2, xI (x2)), (3, xI (x3)), (4, xI (xor_ (y1) (y0))), (5, xI (xwr ((x5) + (1))))]) (xsb_of ⟨rfl, rfl, rfl, rfl, rfl, trivial⟩ (show [5, 4, 1, 2, 3].Nodup by decide)) ?_
  exact hr6 hx2 hx3 (xin_of _) (xin_wr _) h
def f151_59   (f : Nat) (y0 : Int) (M : xj_M) : Option (Int × xj_M) := (some (y0, M))
theorem k151_59 {d f : Nat}     {y0 : Int} {M : xj_M} {R : Int × xj_M} (hy0 : xin y0) (h : f151_59   f y0 M = some R) : xW (d + 1) (none, d + 1, none) xr_151 (59, [], [xI y0], M) (xQi R) := by
  unfold f151_59 at h
  cases h
  exact xe_ret_i (ty := .int) (by decide +kernel) rfl rfl ⟨rfl, rfl, hy0⟩
def f151_71   (f : Nat) (y0 : Int) (M : xj_M) : Option (Int × xj_M) := (some (y0, M))
theorem k151_71 {d f : Nat}     {y0 : Int} {M : xj_M} {R : Int × xj_M} (hy0 : xin y0) (h : f151_71   f y0 M = some R) : xW (d + 1) (none, d + 1, none) xr_151 (71, [], [xI y0], M) (xQi R) := by
  unfold f151_71 at h
  cases h
  exact xe_ret_i (ty := .int) (by decide +kernel) rfl rfl ⟨rfl, rfl, hy0⟩
def f151_6b  (r6 : Nat → Int → Int → Int → Int → xj_M → Option (Int × xj_M)) (f : Nat) (x1 : Nat) (x2 : Int) (x3 : Int) (x4 : Int) (x5 : Int) (M : xj_M) : Option (Int × xj_M) := ((xq_gi 6 8 (x1) M).bind fun v101 => (if (v101) ≤ (x5) then (if ¬ (x4) = 0 then (if ¬ (x3) = (1) then f151_71   f (x4) M else f151_71   f (0) M) else (if ¬ (x3) = (1) then f151_59   f (0) M else f151_59   f (1) M)) else ((f152  f (x1) (x5) (x2) M).bind fun R108 => (if (R108.1) = 0 then f151_35  r6 f (x1) (x2) (x3) (x5) (0) (x4) R108.2 else f151_35  r6 f (x1) (x2) (x3) (x5) (xshl (1) (x5)) (x4) R108.2))))
theorem k151_6b {d f : Nat}  {r6 : Nat → Int → Int → Int → Int → xj_M → Option (Int × xj_M)}  (hr6 : ∀ {x1 : Nat} {x2 : Int} {x3 : Int} {x4 : Int} {x5 : Int} {M : xj_M} {R : Int × xj_M}, xin x2 → xin x3 → xin x4 → xin x5 → r6 x1 x2 x3 x4 x5 M = some R → xW (d + 1) (none, d + 1, none) xr_151 (6, [(1, xR_ x1), (2, xI x2), (3, xI x3), (4, xI x4), (5, xI x5)], [], M) (xQi R)) {x1 : Nat} {x2 : Int} {x3 : Int} {x4 : Int} {x5 : Int} {M : xj_M} {R : Int × xj_M} (hx2 : xin x2) (hx3 : xin x3) (hx4 : xin x4) (hx5 : xin x5) (h : f151_6b  r6 f x1 x2 x3 x4 x5 M = some R) : xW (d + 1) (none, d + 1, none) xr_151 (6, [(1, xR_ x1), (2, xI x2), (3, xI x3), (4, xI x4), (5, xI x5)], [], M) (xQi R) := by
  unfold f151_6b at h
  refine xe_ldn (ins := .iload 5) (len := 2) (by decide +kernel) rfl rfl rfl rfl ?_
  refine xe_alr (ins := .aload_n 1) (len := 1) (i := 1) (by decide +kernel) rfl rfl rfl rfl rfl ?_
  obtain ⟨v101, e102, h⟩ := xbnd h
  refine xs_gi (i := 204) (c := 6) (k := 8) (by decide +kernel) (by decide) (by decide +kernel) e102 rfl ?_
  refine xe_icmpge (off := 32) (t := 44) (by decide +kernel) (by decide) rfl hx5 (xq_gi_in e102) (fun c103 => ?_) (fun c103 => ?_)
  · rw [if_pos c103] at h
    refine xe_ldn (ins := .iload 4) (len := 2) (by decide +kernel) rfl rfl rfl rfl ?_
    refine xe_ifne (off := 14) (t := 60) (by decide +kernel) (by decide) rfl hx4 (fun c104 => ?_) (fun c104 => ?_)
    · rw [if_pos c104] at h
      refine xe_ldn (ins := .iload_n 3) (len := 1) (by decide +kernel) rfl rfl rfl rfl ?_
      refine xe_iconst (n := 1) (by decide +kernel) rfl ?_
      refine xe_icmpne (off := 7) (t := 69) (by decide +kernel) (by decide) rfl hx3 (show xin (1) by decide) (fun c105 => ?_) (fun c105 => ?_)
      · rw [if_pos c105] at h
        refine xe_ldn (ins := .iload 4) (len := 2) (by decide +kernel) rfl rfl rfl rfl ?_
        refine xW_lv rfl (l := []) (xsb_of trivial (show [1, 2, 3, 4, 5].Nodup by decide)) ?_
        exact k151_71   hx4 h
      · rw [if_neg c105] at h
        refine xe_iconst (n := 0) (by decide +kernel) rfl ?_
        refine xe_goto (off := 5) (nx := 71) (by decide +kernel) (by decide) ?_
        refine xW_lv rfl (l := []) (xsb_of trivial (show [1, 2, 3, 4, 5].Nodup by decide)) ?_
        exact k151_71   (show xin (0) by decide) h
    · rw [if_neg c104] at h
      refine xe_ldn (ins := .iload_n 3) (len := 1) (by decide +kernel) rfl rfl rfl rfl ?_
      refine xe_iconst (n := 1) (by decide +kernel) rfl ?_
      refine xe_icmpne (off := 7) (t := 58) (by decide +kernel) (by decide) rfl hx3 (show xin (1) by decide) (fun c106 => ?_) (fun c106 => ?_)
      · rw [if_pos c106] at h
        refine xe_iconst (n := 0) (by decide +kernel) rfl ?_
        refine xW_lv rfl (l := []) (xsb_of trivial (show [1, 2, 3, 4, 5].Nodup by decide)) ?_
        exact k151_59   (show xin (0) by decide) h
      · rw [if_neg c106] at h
        refine xe_iconst (n := 1) (by decide +kernel) rfl ?_
        refine xe_goto (off := 4) (nx := 59) (by decide +kernel) (by decide) ?_
        refine xW_lv rfl (l := []) (xsb_of trivial (show [1, 2, 3, 4, 5].Nodup by decide)) ?_
        exact k151_59   (show xin (1) by decide) h
  · rw [if_neg c103] at h
    refine xe_ldn (ins := .iload 4) (len := 2) (by decide +kernel) rfl rfl rfl rfl ?_
    refine xe_alr (ins := .aload_n 1) (len := 1) (i := 1) (by decide +kernel) rfl rfl rfl rfl rfl ?_
    refine xe_ldn (ins := .iload 5) (len := 2) (by decide +kernel) rfl rfl rfl rfl ?_
    refine xe_ldn (ins := .iload_n 2) (len := 1) (by decide +kernel) rfl rfl rfl rfl ?_
    obtain ⟨R108, e107, h⟩ := xbnd h
    refine xs_cs (kd := 2) (by decide) (i := 207) (j := 152) (ar := [xI (x2), xI (x5), xR_ (x1)]) (rest := [xI (x4)]) (r2 := xr_152) (by decide +kernel) (by decide +kernel) (by decide +kernel) xr_152_e rfl (by simp only [List.map_cons, List.map_nil, List.sum_cons, List.sum_nil, xR_cat, xI_cat, xZ_cat]; decide) ?_
    refine xc_i (k152 (d := d + 0)  hx5 hx2 e107) rfl (fun hi109 => ?_)
    refine xe_ifeq (off := 10) (t := 34) (by decide +kernel) (by decide) rfl hi109 (fun c110 => ?_) (fun c110 => ?_)
    · rw [if_pos c110] at h
      refine xe_iconst (n := 0) (by decide +kernel) rfl ?_
      refine xW_lv rfl (l := [(1, xR_ (x1)), (2, xI (x2)), (3, xI (x3)), (5, xI (x5))]) (xsb_of ⟨rfl, rfl, rfl, rfl, trivial⟩ (show [1, 2, 3, 4, 5].Nodup by decide)) ?_
      exact k151_35  hr6 hx2 hx3 hx5 (show xin (0) by decide) hx4 h
    · rw [if_neg c110] at h
      refine xe_iconst (n := 1) (by decide +kernel) rfl ?_
      refine xe_ldn (ins := .iload 5) (len := 2) (by decide +kernel) rfl rfl rfl rfl ?_
      refine xe_ishl (by decide +kernel) rfl ?_
      refine xe_goto (off := 4) (nx := 35) (by decide +kernel) (by decide) ?_
      refine xW_lv rfl (l := [(1, xR_ (x1)), (2, xI (x2)), (3, xI (x3)), (5, xI (x5))]) (xsb_of ⟨rfl, rfl, rfl, rfl, trivial⟩ (show [1, 2, 3, 4, 5].Nodup by decide)) ?_
      exact k151_35  hr6 hx2 hx3 hx5 (xin_of _) hx4 h
def f151_6   (f : Nat) : Nat → Nat → Int → Int → Int → Int → xj_M → Option (Int × xj_M)
  | 0, _, _, _, _, _, _ => none
  | n + 1, x1, x2, x3, x4, x5, M => f151_6b   (f151_6   f n) f x1 x2 x3 x4 x5 M
theorem k151_6 {d f : Nat}     : ∀ {n : Nat} {x1 : Nat} {x2 : Int} {x3 : Int} {x4 : Int} {x5 : Int} {M : xj_M} {R : Int × xj_M}, xin x2 → xin x3 → xin x4 → xin x5 → f151_6   f n x1 x2 x3 x4 x5 M = some R → xW (d + 1) (none, d + 1, none) xr_151 (6, [(1, xR_ x1), (2, xI x2), (3, xI x3), (4, xI x4), (5, xI x5)], [], M) (xQi R) := by
  intro n
  induction n with
  | zero => intros; rename_i h; cases h
  | succ n ih => intros; rename_i h; exact k151_6b   ih (by assumption) (by assumption) (by assumption) (by assumption) h
def f151  (f : Nat) (a0 : Nat) (a1 : Nat) (a2 : Int) (a3 : Int) (M : xj_M) : Option (Int × xj_M) := f151_6   f f (a1) (a2) (a3) (0) (0) M
theorem k151 {d f : Nat}   {a0 : Nat} {a1 : Nat} {a2 : Int} {a3 : Int} {M : xj_M} {R : Int × xj_M} (ha2 : xin a2) (ha3 : xin a3) (h : f151  f a0 a1 a2 a3 M = some R) : xT (d + 2) 151 [xR_ a0, xR_ a1, xI a2, xI a3] M (xQi R) := by
  refine xT_m xr_151_e (X := (none, d + 1, none)) rfl (xa_1 (xR_cat _) (xa_1 (xR_cat _) (xa_1 (xI_cat _) (xa_1 (xI_cat _) xa_n)))) (by decide) ?_
  unfold f151 at h
  refine xe_iconst (n := 0) (by decide +kernel) rfl ?_
  refine xe_isr (ins := .istore 4) (len := 2) (i := 4) (by decide +kernel) rfl rfl rfl (by decide) (xk_k (show ¬ (0 : Nat) = 4 by decide) (Or.inl (show ¬ (0 + 1 : Nat) = 4 by decide)) (xk_k (show ¬ (1 : Nat) = 4 by decide) (Or.inl (show ¬ (1 + 1 : Nat) = 4 by decide)) (xk_k (show ¬ (2 : Nat) = 4 by decide) (Or.inl (show ¬ (2 + 1 : Nat) = 4 by decide)) (xk_k (show ¬ (3 : Nat) = 4 by decide) (Or.inr (xI_cat _)) xk_n)))) rfl ?_
  refine xe_iconst (n := 0) (by decide +kernel) rfl ?_
  refine xe_isr (ins := .istore 5) (len := 2) (i := 5) (by decide +kernel) rfl rfl rfl (by decide) (xk_k (show ¬ (4 : Nat) = 5 by decide) (Or.inr (xI_cat _)) (xk_k (show ¬ (0 : Nat) = 5 by decide) (Or.inl (show ¬ (0 + 1 : Nat) = 5 by decide)) (xk_k (show ¬ (1 : Nat) = 5 by decide) (Or.inl (show ¬ (1 + 1 : Nat) = 5 by decide)) (xk_k (show ¬ (2 : Nat) = 5 by decide) (Or.inl (show ¬ (2 + 1 : Nat) = 5 by decide)) (xk_k (show ¬ (3 : Nat) = 5 by decide) (Or.inl (show ¬ (3 + 1 : Nat) = 5 by decide)) xk_n))))) rfl ?_
  refine xW_lv rfl (l := [(1, xR_ (a1)), (2, xI (a2)), (3, xI (a3)), (4, xI (0)), (5, xI (0))]) (xsb_of ⟨rfl, rfl, rfl, rfl, rfl, trivial⟩ (show [5, 4, 0, 1, 2, 3].Nodup by decide)) ?_
  exact k151_6   ha2 ha3 (show xin (0) by decide) (show xin (0) by decide) h
-- ChangeHouse$Works.openLevel
def xr_153 : xj_mR := (10, yX10_openLevel, cX10_openLevel, 6, (Option.none : Option Jvm.ClassFile.FieldType), 4, false, (6, 159), (1, 5))
set_option maxRecDepth 20000 in
theorem xr_153_e : xj_row 153 = some xr_153 := rfl
def f153_85  (r16 : Nat → Nat → Int → Int → Int → Int → xj_M → Option (xj_M)) (f : Nat) (x0 : Nat) (x1 : Nat) (x2 : Int) (x3 : Int) (x4 : Int) (x5 : Int) (M : xj_M) : Option (xj_M) := r16 (x0) (x1) (x2) (x3) (x4) (xwr ((x5) + (1))) M
theorem k153_85 {d f : Nat}  {r16 : Nat → Nat → Int → Int → Int → Int → xj_M → Option (xj_M)}  (hr16 : ∀ {x0 : Nat} {x1 : Nat} {x2 : Int} {x3 : Int} {x4 : Int} {x5 : Int} {M : xj_M} {R : xj_M}, xin x2 → xin x3 → xin x4 → xin x5 → r16 x0 x1 x2 x3 x4 x5 M = some R → xW (d + 2) (none, d + 2, none) xr_153 (16, [(0, xR_ x0), (1, xR_ x1), (2, xI x2), (3, xI x3), (4, xI x4), (5, xI x5)], [], M) (xQv R)) {x0 : Nat} {x1 : Nat} {x2 : Int} {x3 : Int} {x4 : Int} {x5 : Int} {M : xj_M} {R : xj_M} (hx2 : xin x2) (hx3 : xin x3) (hx4 : xin x4) (hx5 : xin x5) (h : f153_85  r16 f x0 x1 x2 x3 x4 x5 M = some R) : xW (d + 2) (none, d + 2, none) xr_153 (85, [(0, xR_ x0), (1, xR_ x1), (2, xI x2), (3, xI x3), (4, xI x4), (5, xI x5)], [], M) (xQv R) := by
  unfold f153_85 at h
  refine xe_iincr (i := 5) (n := 1) (by decide +kernel) (by decide) rfl (xk_k (show ¬ (0 : Nat) = 5 by decide) (Or.inl (show ¬ (0 + 1 : Nat) = 5 by decide)) (xk_k (show ¬ (1 : Nat) = 5 by decide) (Or.inl (show ¬ (1 + 1 : Nat) = 5 by decide)) (xk_k (show ¬ (2 : Nat) = 5 by decide) (Or.inl (show ¬ (2 + 1 : Nat) = 5 by decide)) (xk_k (show ¬ (3 : Nat) = 5 by decide) (Or.inl (show ¬ (3 + 1 : Nat) = 5 by decide)) (xk_k (show ¬ (4 : Nat) = 5 by decide) (Or.inr (xI_cat _)) (xk_d rfl xk_n)))))) rfl ?_
  refine xe_goto (off := -72) (nx := 16) (by decide +kernel) (by decide) ?_
  refine xW_lv rfl (l := [(0, xR_ (x0)), (1, xR_ (x1)), (2, xI (x2)), (3, xI (x3)), (4, xI (x4)), (5, xI (xwr ((x5) + (1))))]) (xsb_of ⟨rfl, rfl, rfl, rfl, rfl, rfl, trivial⟩ (show [5, 0, 1, 2, 3, 4].Nodup by decide)) ?_
  exact hr16 hx2 hx3 hx4 (xin_wr _) h
def f153_84  (r16 : Nat → Nat → Int → Int → Int → Int → xj_M → Option (xj_M)) (f : Nat) (x0 : Nat) (x1 : Nat) (x2 : Int) (x3 : Int) (x4 : Int) (x5 : Int) (y0 : Int) (y1 : Int) (y2 : Nat) (M : xj_M) : Option (xj_M) := ((xq_si (y2) (y1) (y0) M).bind fun M101 => f153_85  r16 f (x0) (x1) (x2) (x3) (x4) (x5) M101)
theorem k153_84 {d f : Nat}  {r16 : Nat → Nat → Int → Int → Int → Int → xj_M → Option (xj_M)}  (hr16 : ∀ {x0 : Nat} {x1 : Nat} {x2 : Int} {x3 : Int} {x4 : Int} {x5 : Int} {M : xj_M} {R : xj_M}, xin x2 → xin x3 → xin x4 → xin x5 → r16 x0 x1 x2 x3 x4 x5 M = some R → xW (d + 2) (none, d + 2, none) xr_153 (16, [(0, xR_ x0), (1, xR_ x1), (2, xI x2), (3, xI x3), (4, xI x4), (5, xI x5)], [], M) (xQv R)) {x0 : Nat} {x1 : Nat} {x2 : Int} {x3 : Int} {x4 : Int} {x5 : Int} {y0 : Int} {y1 : Int} {y2 : Nat} {M : xj_M} {R : xj_M} (hx2 : xin x2) (hx3 : xin x3) (hx4 : xin x4) (hx5 : xin x5) (hy0 : xin y0) (hy1 : xin y1) (h : f153_84  r16 f x0 x1 x2 x3 x4 x5 y0 y1 y2 M = some R) : xW (d + 2) (none, d + 2, none) xr_153 (84, [(0, xR_ x0), (1, xR_ x1), (2, xI x2), (3, xI x3), (4, xI x4), (5, xI x5)], [xI y0, xI y1, xR_ y2], M) (xQv R) := by
  unfold f153_84 at h
  obtain ⟨M101, e102, h⟩ := xbnd h
  refine xs_iast (by decide +kernel) hy1 e102 rfl ?_
  refine xW_lv rfl (l := [(0, xR_ (x0)), (1, xR_ (x1)), (2, xI (x2)), (3, xI (x3)), (4, xI (x4)), (5, xI (x5))]) (xsb_of ⟨rfl, rfl, rfl, rfl, rfl, rfl, trivial⟩ (show [0, 1, 2, 3, 4, 5].Nodup by decide)) ?_
  exact k153_85  hr16 hx2 hx3 hx4 hx5 h
def f153_58  (r16 : Nat → Nat → Int → Int → Int → Int → xj_M → Option (xj_M)) (f : Nat) (x0 : Nat) (x1 : Nat) (x2 : Int) (x3 : Int) (x4 : Int) (x5 : Int) (y0 : Int) (y1 : Int) (y2 : Nat) (M : xj_M) : Option (xj_M) := ((xq_si (y2) (y1) (y0) M).bind fun M103 => ((xq_gr 10 0 (x0) M103).bind fun v105 => ((xq_gr 9 2 (v105) M103).bind fun v107 => (if (x4) ≤ (x5) then f153_84  r16 f (x0) (x1) (x2) (x3) (x4) (x5) (xwr ((x3) - (1))) (x5) (v107) M103 else f153_84  r16 f (x0) (x1) (x2) (x3) (x4) (x5) (xwr ((x3) - (2))) (x5) (v107) M103))))
theorem k153_58 {d f : Nat}  {r16 : Nat → Nat → Int → Int → Int → Int → xj_M → Option (xj_M)}  (hr16 : ∀ {x0 : Nat} {x1 : Nat} {x2 : Int} {x3 : Int} {x4 : Int} {x5 : Int} {M : xj_M} {R : xj_M}, xin x2 → xin x3 → xin x4 → xin x5 → r16 x0 x1 x2 x3 x4 x5 M = some R → xW (d + 2) (none, d + 2, none) xr_153 (16, [(0, xR_ x0), (1, xR_ x1), (2, xI x2), (3, xI x3), (4, xI x4), (5, xI x5)], [], M) (xQv R)) {x0 : Nat} {x1 : Nat} {x2 : Int} {x3 : Int} {x4 : Int} {x5 : Int} {y0 : Int} {y1 : Int} {y2 : Nat} {M : xj_M} {R : xj_M} (hx2 : xin x2) (hx3 : xin x3) (hx4 : xin x4) (hx5 : xin x5) (hy0 : xin y0) (hy1 : xin y1) (h : f153_58  r16 f x0 x1 x2 x3 x4 x5 y0 y1 y2 M = some R) : xW (d + 2) (none, d + 2, none) xr_153 (58, [(0, xR_ x0), (1, xR_ x1), (2, xI x2), (3, xI x3), (4, xI x4), (5, xI x5)], [xI y0, xI y1, xR_ y2], M) (xQv R) := by
  unfold f153_58 at h
  obtain ⟨M103, e104, h⟩ := xbnd h
  refine xs_iast (by decide +kernel) hy1 e104 rfl ?_
  refine xe_alr (ins := .aload_n 0) (len := 1) (i := 0) (by decide +kernel) rfl rfl rfl rfl rfl ?_
  obtain ⟨v105, e106, h⟩ := xbnd h
  refine xs_gr (i := 56) (c := 10) (k := 0) (by decide +kernel) (by decide) (by decide +kernel) e106 rfl ?_
  obtain ⟨v107, e108, h⟩ := xbnd h
  refine xs_gr (i := 225) (c := 9) (k := 2) (by decide +kernel) (by decide) (by decide +kernel) e108 rfl ?_
  refine xe_ldn (ins := .iload 5) (len := 2) (by decide +kernel) rfl rfl rfl rfl ?_
  refine xe_ldn (ins := .iload 5) (len := 2) (by decide +kernel) rfl rfl rfl rfl ?_
  refine xe_ldn (ins := .iload 4) (len := 2) (by decide +kernel) rfl rfl rfl rfl ?_
  refine xe_icmpge (off := 9) (t := 81) (by decide +kernel) (by decide) rfl hx5 hx4 (fun c109 => ?_) (fun c109 => ?_)
  · rw [if_pos c109] at h
    refine xe_ldn (ins := .iload_n 3) (len := 1) (by decide +kernel) rfl rfl rfl rfl ?_
    refine xe_iconst (n := 1) (by decide +kernel) rfl ?_
    refine xe_isub (by decide +kernel) rfl ?_
    refine xW_lv rfl (l := [(0, xR_ (x0)), (1, xR_ (x1)), (2, xI (x2)), (3, xI (x3)), (4, xI (x4)), (5, xI (x5))]) (xsb_of ⟨rfl, rfl, rfl, rfl, rfl, rfl, trivial⟩ (show [0, 1, 2, 3, 4, 5].Nodup by decide)) ?_
    exact k153_84  hr16 hx2 hx3 hx4 hx5 (xin_wr _) hx5 h
  · rw [if_neg c109] at h
    refine xe_ldn (ins := .iload_n 3) (len := 1) (by decide +kernel) rfl rfl rfl rfl ?_
    refine xe_iconst (n := 2) (by decide +kernel) rfl ?_
    refine xe_isub (by decide +kernel) rfl ?_
    refine xe_goto (off := 6) (nx := 84) (by decide +kernel) (by decide) ?_
    refine xW_lv rfl (l := [(0, xR_ (x0)), (1, xR_ (x1)), (2, xI (x2)), (3, xI (x3)), (4, xI (x4)), (5, xI (x5))]) (xsb_of ⟨rfl, rfl, rfl, rfl, rfl, rfl, trivial⟩ (show [0, 1, 2, 3, 4, 5].Nodup by decide)) ?_
    exact k153_84  hr16 hx2 hx3 hx4 hx5 (xin_wr _) hx5 h
def f153_16b  (r16 : Nat → Nat → Int → Int → Int → Int → xj_M → Option (xj_M)) (f : Nat) (x0 : Nat) (x1 : Nat) (x2 : Int) (x3 : Int) (x4 : Int) (x5 : Int) (M : xj_M) : Option (xj_M) := ((xq_gi 6 8 (x1) M).bind fun v110 => (if (v110) ≤ (x5) then (some M) else ((f152  f (x1) (x5) (x2) M).bind fun R114 => (if (R114.1) = 0 then f153_85  r16 f (x0) (x1) (x2) (x3) (x4) (x5) R114.2 else ((xq_gr 10 0 (x0) R114.2).bind fun v117 => ((xq_gr 9 1 (v117) R114.2).bind fun v119 => (if ¬ (x5) = (x4) then f153_58  r16 f (x0) (x1) (x2) (x3) (x4) (x5) (0) (x5) (v119) R114.2 else f153_58  r16 f (x0) (x1) (x2) (x3) (x4) (x5) (xwr ((x3) - (1))) (x5) (v119) R114.2)))))))
theorem k153_16b {d f : Nat}  {r16 : Nat → Nat → Int → Int → Int → Int → xj_M → Option (xj_M)}  (hr16 : ∀ {x0 : Nat} {x1 : Nat} {x2 : Int} {x3 : Int} {x4 : Int} {x5 : Int} {M : xj_M} {R : xj_M}, xin x2 → xin x3 → xin x4 → xin x5 → r16 x0 x1 x2 x3 x4 x5 M = some R → xW (d + 2) (none, d + 2, none) xr_153 (16, [(0, xR_ x0), (1, xR_ x1), (2, xI x2), (3, xI x3), (4, xI x4), (5, xI x5)], [], M) (xQv R)) {x0 : Nat} {x1 : Nat} {x2 : Int} {x3 : Int} {x4 : Int} {x5 : Int} {M : xj_M} {R : xj_M} (hx2 : xin x2) (hx3 : xin x3) (hx4 : xin x4) (hx5 : xin x5) (h : f153_16b  r16 f x0 x1 x2 x3 x4 x5 M = some R) : xW (d + 2) (none, d + 2, none) xr_153 (16, [(0, xR_ x0), (1, xR_ x1), (2, xI x2), (3, xI x3), (4, xI x4), (5, xI x5)], [], M) (xQv R) := by
  unfold f153_16b at h
  refine xe_ldn (ins := .iload 5) (len := 2) (by decide +kernel) rfl rfl rfl rfl ?_
  refine xe_alr (ins := .aload_n 1) (len := 1) (i := 1) (by decide +kernel) rfl rfl rfl rfl rfl ?_
  obtain ⟨v110, e111, h⟩ := xbnd h
  refine xs_gi (i := 204) (c := 6) (k := 8) (by decide +kernel) (by decide) (by decide +kernel) e111 rfl ?_
  refine xe_icmpge (off := 69) (t := 91) (by decide +kernel) (by decide) rfl hx5 (xq_gi_in e111) (fun c112 => ?_) (fun c112 => ?_)
  · rw [if_pos c112] at h
    cases h
    exact xe_ret_v (by decide +kernel) rfl ⟨rfl, rfl⟩
  · rw [if_neg c112] at h
    refine xe_alr (ins := .aload_n 1) (len := 1) (i := 1) (by decide +kernel) rfl rfl rfl rfl rfl ?_
    refine xe_ldn (ins := .iload 5) (len := 2) (by decide +kernel) rfl rfl rfl rfl ?_
    refine xe_ldn (ins := .iload_n 2) (len := 1) (by decide +kernel) rfl rfl rfl rfl ?_
    obtain ⟨R114, e113, h⟩ := xbnd h
    refine xs_cs (kd := 2) (by decide) (i := 207) (j := 152) (ar := [xI (x2), xI (x5), xR_ (x1)]) (rest := []) (r2 := xr_152) (by decide +kernel) (by decide +kernel) (by decide +kernel) xr_152_e rfl (by decide) ?_
    refine xc_i (k152 (d := d + 1)  hx5 hx2 e113) rfl (fun hi115 => ?_)
    refine xe_ifeq (off := 53) (t := 85) (by decide +kernel) (by decide) rfl hi115 (fun c116 => ?_) (fun c116 => ?_)
    · rw [if_pos c116] at h
      refine xW_lv rfl (l := [(0, xR_ (x0)), (1, xR_ (x1)), (2, xI (x2)), (3, xI (x3)), (4, xI (x4)), (5, xI (x5))]) (xsb_of ⟨rfl, rfl, rfl, rfl, rfl, rfl, trivial⟩ (show [0, 1, 2, 3, 4, 5].Nodup by decide)) ?_
      exact k153_85  hr16 hx2 hx3 hx4 hx5 h
    · rw [if_neg c116] at h
      refine xe_alr (ins := .aload_n 0) (len := 1) (i := 0) (by decide +kernel) rfl rfl rfl rfl rfl ?_
      obtain ⟨v117, e118, h⟩ := xbnd h
      refine xs_gr (i := 56) (c := 10) (k := 0) (by decide +kernel) (by decide) (by decide +kernel) e118 rfl ?_
      obtain ⟨v119, e120, h⟩ := xbnd h
      refine xs_gr (i := 222) (c := 9) (k := 1) (by decide +kernel) (by decide) (by decide +kernel) e120 rfl ?_
      refine xe_ldn (ins := .iload 5) (len := 2) (by decide +kernel) rfl rfl rfl rfl ?_
      refine xe_ldn (ins := .iload 5) (len := 2) (by decide +kernel) rfl rfl rfl rfl ?_
      refine xe_ldn (ins := .iload 4) (len := 2) (by decide +kernel) rfl rfl rfl rfl ?_
      refine xe_icmpne (off := 9) (t := 57) (by decide +kernel) (by decide) rfl hx5 hx4 (fun c121 => ?_) (fun c121 => ?_)
      · rw [if_pos c121] at h
        refine xe_iconst (n := 0) (by decide +kernel) rfl ?_
        refine xW_lv rfl (l := [(0, xR_ (x0)), (1, xR_ (x1)), (2, xI (x2)), (3, xI (x3)), (4, xI (x4)), (5, xI (x5))]) (xsb_of ⟨rfl, rfl, rfl, rfl, rfl, rfl, trivial⟩ (show [0, 1, 2, 3, 4, 5].Nodup by decide)) ?_
        exact k153_58  hr16 hx2 hx3 hx4 hx5 (show xin (0) by decide) hx5 h
      · rw [if_neg c121] at h
        refine xe_ldn (ins := .iload_n 3) (len := 1) (by decide +kernel) rfl rfl rfl rfl ?_
        refine xe_iconst (n := 1) (by decide +kernel) rfl ?_
        refine xe_isub (by decide +kernel) rfl ?_
        refine xe_goto (off := 4) (nx := 58) (by decide +kernel) (by decide) ?_
        refine xW_lv rfl (l := [(0, xR_ (x0)), (1, xR_ (x1)), (2, xI (x2)), (3, xI (x3)), (4, xI (x4)), (5, xI (x5))]) (xsb_of ⟨rfl, rfl, rfl, rfl, rfl, rfl, trivial⟩ (show [0, 1, 2, 3, 4, 5].Nodup by decide)) ?_
        exact k153_58  hr16 hx2 hx3 hx4 hx5 (xin_wr _) hx5 h
def f153_16   (f : Nat) : Nat → Nat → Nat → Int → Int → Int → Int → xj_M → Option (xj_M)
  | 0, _, _, _, _, _, _, _ => none
  | n + 1, x0, x1, x2, x3, x4, x5, M => f153_16b   (f153_16   f n) f x0 x1 x2 x3 x4 x5 M
theorem k153_16 {d f : Nat}     : ∀ {n : Nat} {x0 : Nat} {x1 : Nat} {x2 : Int} {x3 : Int} {x4 : Int} {x5 : Int} {M : xj_M} {R : xj_M}, xin x2 → xin x3 → xin x4 → xin x5 → f153_16   f n x0 x1 x2 x3 x4 x5 M = some R → xW (d + 2) (none, d + 2, none) xr_153 (16, [(0, xR_ x0), (1, xR_ x1), (2, xI x2), (3, xI x3), (4, xI x4), (5, xI x5)], [], M) (xQv R) := by
  intro n
  induction n with
  | zero => intros; rename_i h; cases h
  | succ n ih => intros; rename_i h; exact k153_16b   ih (by assumption) (by assumption) (by assumption) (by assumption) h
def f153  (f : Nat) (a0 : Nat) (a1 : Nat) (a2 : Int) (a3 : Int) (a4 : Int) (M : xj_M) : Option (xj_M) := ((xq_gr 10 0 (a0) M).bind fun v122 => ((xq_gr 10 2 (a0) M).bind fun v124 => ((xq_is 9 (v122) M).bind fun _ => ((f130  f (v122) (a1) (v124) (1) M).bind fun M128 => f153_16   f f (a0) (a1) (a2) (a3) (a4) (0) M128))))
theorem k153 {d f : Nat}   {a0 : Nat} {a1 : Nat} {a2 : Int} {a3 : Int} {a4 : Int} {M : xj_M} {R : xj_M} (ha2 : xin a2) (ha3 : xin a3) (ha4 : xin a4) (h : f153  f a0 a1 a2 a3 a4 M = some R) : xT (d + 3) 153 [xR_ a0, xR_ a1, xI a2, xI a3, xI a4] M (xQv R) := by
  refine xT_m xr_153_e (X := (none, d + 2, none)) rfl (xa_1 (xR_cat _) (xa_1 (xR_cat _) (xa_1 (xI_cat _) (xa_1 (xI_cat _) (xa_1 (xI_cat _) xa_n))))) (by decide) ?_
  unfold f153 at h
  refine xe_alr (ins := .aload_n 0) (len := 1) (i := 0) (by decide +kernel) rfl rfl rfl rfl rfl ?_
  obtain ⟨v122, e123, h⟩ := xbnd h
  refine xs_gr (i := 56) (c := 10) (k := 0) (by decide +kernel) (by decide) (by decide +kernel) e123 rfl ?_
  refine xe_alr (ins := .aload_n 1) (len := 1) (i := 1) (by decide +kernel) rfl rfl rfl rfl rfl ?_
  refine xe_alr (ins := .aload_n 0) (len := 1) (i := 0) (by decide +kernel) rfl rfl rfl rfl rfl ?_
  obtain ⟨v124, e125, h⟩ := xbnd h
  refine xs_gr (i := 11) (c := 10) (k := 2) (by decide +kernel) (by decide) (by decide +kernel) e125 rfl ?_
  refine xe_iconst (n := 1) (by decide +kernel) rfl ?_
  obtain ⟨_, e127, h⟩ := xbnd h
  obtain ⟨M128, e126, h⟩ := xbnd h
  refine xs_cv (i := 216) (j := 130) (ar := [xI (1), xR_ (v124), xR_ (a1)]) (rest := []) (r2 := xr_130) (by decide +kernel) (by decide +kernel) (by decide +kernel) xr_130_e rfl (by decide) (by decide) e127 ?_
  refine xc_v (k130 (d := d + 0)  (show xin (1) by decide) e126) rfl ?_
  refine xe_iconst (n := 0) (by decide +kernel) rfl ?_
  refine xe_isr (ins := .istore 5) (len := 2) (i := 5) (by decide +kernel) rfl rfl rfl (by decide) (xk_k (show ¬ (0 : Nat) = 5 by decide) (Or.inl (show ¬ (0 + 1 : Nat) = 5 by decide)) (xk_k (show ¬ (1 : Nat) = 5 by decide) (Or.inl (show ¬ (1 + 1 : Nat) = 5 by decide)) (xk_k (show ¬ (2 : Nat) = 5 by decide) (Or.inl (show ¬ (2 + 1 : Nat) = 5 by decide)) (xk_k (show ¬ (3 : Nat) = 5 by decide) (Or.inl (show ¬ (3 + 1 : Nat) = 5 by decide)) (xk_k (show ¬ (4 : Nat) = 5 by decide) (Or.inr (xI_cat _)) xk_n))))) rfl ?_
  refine xW_lv rfl (l := [(0, xR_ (a0)), (1, xR_ (a1)), (2, xI (a2)), (3, xI (a3)), (4, xI (a4)), (5, xI (0))]) (xsb_of ⟨rfl, rfl, rfl, rfl, rfl, rfl, trivial⟩ (show [5, 0, 1, 2, 3, 4].Nodup by decide)) ?_
  exact k153_16   ha2 ha3 ha4 (show xin (0) by decide) h
