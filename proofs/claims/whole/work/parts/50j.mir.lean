/-! Mirrors (written by mk_mir.py) -/
-- ChangeHouseModel.expression
def f243b (q243 : Nat → xj_M → Option (xj_M)) (f : Nat) (a0 : Nat) (M : xj_M) : Option (xj_M) := ((xq_is 15 (a0) M).bind fun _ => ((f241 q243 f (a0) M).bind fun M103 => ((xq_is 15 (a0) M103).bind fun _ => ((f244 q243 f (a0) M103).bind fun M107 => (some M107)))))
theorem k243b {d f : Nat} {q243 : Nat → xj_M → Option (xj_M)} (hq243 : ∀ {e : Nat} {a0 : Nat} {M : xj_M} {R : xj_M}, d ≤ e → q243 a0 M = some R → xT e 243 [xR_ a0] M (xQv R)) {a0 : Nat} {M : xj_M} {R : xj_M}  (h : f243b q243 f a0 M = some R) : xT (d + 12) 243 [xR_ a0] M (xQv R) := by
  refine xT_m xr_243_e (X := (none, d + 11, none)) rfl (xa_1 (xR_cat _) xa_n) (by decide) ?_
  unfold f243b at h
  refine xe_alr (ins := .aload_n 0) (len := 1) (i := 0) (by decide +kernel) rfl rfl rfl rfl rfl ?_
  obtain ⟨_, e102, h⟩ := xbnd h
  obtain ⟨M103, e101, h⟩ := xbnd h
  refine xs_cv (i := 331) (j := 241) (ar := []) (rest := []) (r2 := xr_241) (by decide +kernel) (by decide +kernel) (by decide +kernel) xr_241_e rfl (by decide) (by decide) e102 ?_
  refine xc_v (k241 (d := d + 2) (fun he => hq243 (Nat.le_trans (by omega) he))  e101) rfl ?_
  refine xe_alr (ins := .aload_n 0) (len := 1) (i := 0) (by decide +kernel) rfl rfl rfl rfl rfl ?_
  obtain ⟨_, e106, h⟩ := xbnd h
  obtain ⟨M107, e105, h⟩ := xbnd h
  refine xs_cv (i := 334) (j := 244) (ar := []) (rest := []) (r2 := xr_244) (by decide +kernel) (by decide +kernel) (by decide +kernel) xr_244_e rfl (by decide) (by decide) e106 ?_
  refine xc_v (k244 (d := d + 0) (fun he => hq243 (Nat.le_trans (by omega) he))  e105) rfl ?_
  cases h
  exact xe_ret_v (by decide +kernel) rfl ⟨rfl, rfl⟩
def f243r (f : Nat) : Nat → Nat → xj_M → Option (xj_M)
  | 0, _, _ => none
  | n + 1, a0, M => f243b (f243r f n) f a0 M
theorem k243r {f : Nat} : ∀ {n d e : Nat} {a0 : Nat} {M : xj_M} {R : xj_M}, d + 12 * n ≤ e → f243r f n a0 M = some R → xT e 243 [xR_ a0] M (xQv R) := by
  intro n
  induction n with
  | zero => intros; rename_i h; cases h
  | succ n ih =>
    intro d e
    intros
    rename_i h
    obtain ⟨d2, rfl⟩ : ∃ d2, e = d2 + 12 := ⟨e - 12, by omega⟩
    refine k243b (d := d2) ?_  h
    intros
    rename_i g
    exact ih (d := d) (by omega)  g
def f243 (f : Nat) (a0 : Nat) (M : xj_M) : Option (xj_M) := f243r f 8 a0 M
theorem k243 {d f : Nat} {a0 : Nat} {M : xj_M} {R : xj_M}  (h : f243 f a0 M = some R) : xT (d + 96) 243 [xR_ a0] M (xQv R) := k243r (d := 0) (by omega)  h
-- ChangeHouseModel.readCompare
def xr_248 : xj_mR := (15, yX15_readCompare, cX15_readCompare, 2, (Option.none : Option Jvm.ClassFile.FieldType), 1, false, (9, 73), (1, 12))
set_option maxRecDepth 20000 in
theorem xr_248_e : xj_row 248 = some xr_248 := rfl
def f248_92   (f : Nat) (x0 : Nat) (x1 : Int) (M : xj_M) : Option (xj_M) := ((xq_gr 15 22 (x0) M).bind fun v101 => ((xq_gr 14 28 (v101) M).bind fun v103 => ((xq_gi 15 3 (x0) M).bind fun v105 => ((xq_si (v103) (x1) (v105) M).bind fun M107 => ((xq_is 15 (x0) M107).bind fun _ => ((f213  f (x0) M107).bind fun M111 => ((xq_is 15 (x0) M111).bind fun _ => ((f243  f (x0) M111).bind fun M115 => ((xq_gr 15 22 (x0) M115).bind fun v117 => ((xq_gr 14 32 (v117) M115).bind fun v119 => ((xq_gr 15 22 (x0) M115).bind fun v121 => ((xq_gi 14 37 (v121) M115).bind fun v123 => ((xq_si (v119) (x1) (v123) M115).bind fun M125 => (some M125))))))))))))))
theorem k248_92 {d f : Nat}     {x0 : Nat} {x1 : Int} {M : xj_M} {R : xj_M} (hx1 : xin x1) (h : f248_92   f x0 x1 M = some R) : xW (d + 96) (none, d + 96, none) xr_248 (92, [(0, xR_ x0), (1, xI x1)], [], M) (xQv R) := by
  unfold f248_92 at h
  refine xe_alr (ins := .aload_n 0) (len := 1) (i := 0) (by decide +kernel) rfl rfl rfl rfl rfl ?_
  obtain ⟨v101, e102, h⟩ := xbnd h
  refine xs_gr (i := 197) (c := 15) (k := 22) (by decide +kernel) (by decide) (by decide +kernel) e102 rfl ?_
  obtain ⟨v103, e104, h⟩ := xbnd h
  refine xs_gr (i := 363) (c := 14) (k := 28) (by decide +kernel) (by decide) (by decide +kernel) e104 rfl ?_
  refine xe_ldn (ins := .iload_n 1) (len := 1) (by decide +kernel) rfl rfl rfl rfl ?_
  refine xe_alr (ins := .aload_n 0) (len := 1) (i := 0) (by decide +kernel) rfl rfl rfl rfl rfl ?_
  obtain ⟨v105, e106, h⟩ := xbnd h
  refine xs_gi (i := 105) (c := 15) (k := 3) (by decide +kernel) (by decide) (by decide +kernel) e106 rfl ?_
  obtain ⟨M107, e108, h⟩ := xbnd h
  refine xs_iast (by decide +kernel) hx1 e108 rfl ?_
  refine xe_alr (ins := .aload_n 0) (len := 1) (i := 0) (by decide +kernel) rfl rfl rfl rfl rfl ?_
  obtain ⟨_, e110, h⟩ := xbnd h
  obtain ⟨M111, e109, h⟩ := xbnd h
  refine xs_cv (i := 118) (j := 213) (ar := []) (rest := []) (r2 := xr_213) (by decide +kernel) (by decide +kernel) (by decide +kernel) xr_213_e rfl (by decide) (by decide) e110 ?_
  refine xc_v (k213 (d := d + 89)   e109) rfl ?_
  refine xe_alr (ins := .aload_n 0) (len := 1) (i := 0) (by decide +kernel) rfl rfl rfl rfl rfl ?_
  obtain ⟨_, e114, h⟩ := xbnd h
  obtain ⟨M115, e113, h⟩ := xbnd h
  refine xs_cv (i := 304) (j := 243) (ar := []) (rest := []) (r2 := xr_243) (by decide +kernel) (by decide +kernel) (by decide +kernel) xr_243_e rfl (by decide) (by decide) e114 ?_
  refine xc_v (k243 (d := d + 0)   e113) rfl ?_
  refine xe_alr (ins := .aload_n 0) (len := 1) (i := 0) (by decide +kernel) rfl rfl rfl rfl rfl ?_
  obtain ⟨v117, e118, h⟩ := xbnd h
  refine xs_gr (i := 197) (c := 15) (k := 22) (by decide +kernel) (by decide) (by decide +kernel) e118 rfl ?_
  obtain ⟨v119, e120, h⟩ := xbnd h
  refine xs_gr (i := 366) (c := 14) (k := 32) (by decide +kernel) (by decide) (by decide +kernel) e120 rfl ?_
  refine xe_ldn (ins := .iload_n 1) (len := 1) (by decide +kernel) rfl rfl rfl rfl ?_
  refine xe_alr (ins := .aload_n 0) (len := 1) (i := 0) (by decide +kernel) rfl rfl rfl rfl rfl ?_
  obtain ⟨v121, e122, h⟩ := xbnd h
  refine xs_gr (i := 197) (c := 15) (k := 22) (by decide +kernel) (by decide) (by decide +kernel) e122 rfl ?_
  obtain ⟨v123, e124, h⟩ := xbnd h
  refine xs_gi (i := 177) (c := 14) (k := 37) (by decide +kernel) (by decide) (by decide +kernel) e124 rfl ?_
  obtain ⟨M125, e126, h⟩ := xbnd h
  refine xs_iast (by decide +kernel) hx1 e126 rfl ?_
  cases h
  exact xe_ret_v (by decide +kernel) rfl ⟨rfl, rfl⟩
def f248  (f : Nat) (a0 : Nat) (a1 : Int) (M : xj_M) : Option (xj_M) := ((xq_gr 15 22 (a0) M).bind fun v127 => ((xq_gr 14 27 (v127) M).bind fun v129 => ((xq_si (v129) (a1) (3) M).bind fun M131 => ((xq_gr 15 22 (a0) M131).bind fun v133 => ((xq_gr 14 31 (v133) M131).bind fun v135 => ((xq_gr 15 22 (a0) M131).bind fun v137 => ((xq_gi 14 37 (v137) M131).bind fun v139 => ((xq_si (v135) (a1) (v139) M131).bind fun M141 => ((xq_is 15 (a0) M141).bind fun _ => ((f220  f (a0) (61) M141).bind fun R145 => (if ¬ (R145.1) = 0 then f248_92   f (a0) (a1) R145.2 else ((xq_is 15 (a0) R145.2).bind fun _ => ((f220  f (a0) (301) R145.2).bind fun R150 => (if ¬ (R150.1) = 0 then f248_92   f (a0) (a1) R150.2 else ((xq_is 15 (a0) R150.2).bind fun _ => ((f220  f (a0) (60) R150.2).bind fun R155 => (if ¬ (R155.1) = 0 then f248_92   f (a0) (a1) R155.2 else ((xq_is 15 (a0) R155.2).bind fun _ => ((f220  f (a0) (302) R155.2).bind fun R160 => (if ¬ (R160.1) = 0 then f248_92   f (a0) (a1) R160.2 else ((xq_is 15 (a0) R160.2).bind fun _ => ((f220  f (a0) (62) R160.2).bind fun R165 => (if ¬ (R165.1) = 0 then f248_92   f (a0) (a1) R165.2 else ((xq_is 15 (a0) R165.2).bind fun _ => ((f220  f (a0) (303) R165.2).bind fun R170 => (if ¬ (R170.1) = 0 then f248_92   f (a0) (a1) R170.2 else ((xq_gi 15 4 (a0) R170.2).bind fun v173 => ((xq_is 15 (a0) R170.2).bind fun _ => ((f210  f (a0) (v173) R170.2).bind fun M177 => (some M177))))))))))))))))))))))))))))))
theorem k248 {d f : Nat}   {a0 : Nat} {a1 : Int} {M : xj_M} {R : xj_M} (ha1 : xin a1) (h : f248  f a0 a1 M = some R) : xT (d + 97) 248 [xR_ a0, xI a1] M (xQv R) := by
  refine xT_m xr_248_e (X := (none, d + 96, none)) rfl (xa_1 (xR_cat _) (xa_1 (xI_cat _) xa_n)) (by decide) ?_
  unfold f248 at h
  refine xe_alr (ins := .aload_n 0) (len := 1) (i := 0) (by decide +kernel) rfl rfl rfl rfl rfl ?_
  obtain ⟨v127, e128, h⟩ := xbnd h
  refine xs_gr (i := 197) (c := 15) (k := 22) (by decide +kernel) (by decide) (by decide +kernel) e128 rfl ?_
  obtain ⟨v129, e130, h⟩ := xbnd h
  refine xs_gr (i := 357) (c := 14) (k := 27) (by decide +kernel) (by decide) (by decide +kernel) e130 rfl ?_
  refine xe_ldn (ins := .iload_n 1) (len := 1) (by decide +kernel) rfl rfl rfl rfl ?_
  refine xe_iconst (n := 3) (by decide +kernel) rfl ?_
  obtain ⟨M131, e132, h⟩ := xbnd h
  refine xs_iast (by decide +kernel) ha1 e132 rfl ?_
  refine xe_alr (ins := .aload_n 0) (len := 1) (i := 0) (by decide +kernel) rfl rfl rfl rfl rfl ?_
  obtain ⟨v133, e134, h⟩ := xbnd h
  refine xs_gr (i := 197) (c := 15) (k := 22) (by decide +kernel) (by decide) (by decide +kernel) e134 rfl ?_
  obtain ⟨v135, e136, h⟩ := xbnd h
  refine xs_gr (i := 360) (c := 14) (k := 31) (by decide +kernel) (by decide) (by decide +kernel) e136 rfl ?_
  refine xe_ldn (ins := .iload_n 1) (len := 1) (by decide +kernel) rfl rfl rfl rfl ?_
  refine xe_alr (ins := .aload_n 0) (len := 1) (i := 0) (by decide +kernel) rfl rfl rfl rfl rfl ?_
  obtain ⟨v137, e138, h⟩ := xbnd h
  refine xs_gr (i := 197) (c := 15) (k := 22) (by decide +kernel) (by decide) (by decide +kernel) e138 rfl ?_
  obtain ⟨v139, e140, h⟩ := xbnd h
  refine xs_gi (i := 177) (c := 14) (k := 37) (by decide +kernel) (by decide) (by decide +kernel) e140 rfl ?_
  obtain ⟨M141, e142, h⟩ := xbnd h
  refine xs_iast (by decide +kernel) ha1 e142 rfl ?_
  refine xe_alr (ins := .aload_n 0) (len := 1) (i := 0) (by decide +kernel) rfl rfl rfl rfl rfl ?_
  refine xe_bipush (n := 61) (by decide +kernel) (by decide) rfl ?_
  obtain ⟨_, e144, h⟩ := xbnd h
  obtain ⟨R145, e143, h⟩ := xbnd h
  refine xs_cv (i := 115) (j := 220) (ar := [xI (61)]) (rest := []) (r2 := xr_220) (by decide +kernel) (by decide +kernel) (by decide +kernel) xr_220_e rfl (by decide) (by decide) e144 ?_
  refine xc_i (k220 (d := d + 94)  (show xin (61) by decide) e143) rfl (fun hi146 => ?_)
  refine xe_ifne (off := 60) (t := 92) (by decide +kernel) (by decide) rfl hi146 (fun c147 => ?_) (fun c147 => ?_)
  · rw [if_pos c147] at h
    refine xW_lv rfl (l := [(0, xR_ (a0)), (1, xI (a1))]) (xsb_of ⟨rfl, rfl, trivial⟩ (show [0, 1].Nodup by decide)) ?_
    exact k248_92   ha1 h
  · rw [if_neg c147] at h
    refine xe_alr (ins := .aload_n 0) (len := 1) (i := 0) (by decide +kernel) rfl rfl rfl rfl rfl ?_
    refine xe_sipush (n := 301) (by decide +kernel) (by decide) rfl ?_
    obtain ⟨_, e149, h⟩ := xbnd h
    obtain ⟨R150, e148, h⟩ := xbnd h
    refine xs_cv (i := 115) (j := 220) (ar := [xI (301)]) (rest := []) (r2 := xr_220) (by decide +kernel) (by decide +kernel) (by decide +kernel) xr_220_e rfl (by decide) (by decide) e149 ?_
    refine xc_i (k220 (d := d + 94)  (show xin (301) by decide) e148) rfl (fun hi151 => ?_)
    refine xe_ifne (off := 50) (t := 92) (by decide +kernel) (by decide) rfl hi151 (fun c152 => ?_) (fun c152 => ?_)
    · rw [if_pos c152] at h
      refine xW_lv rfl (l := [(0, xR_ (a0)), (1, xI (a1))]) (xsb_of ⟨rfl, rfl, trivial⟩ (show [0, 1].Nodup by decide)) ?_
      exact k248_92   ha1 h
    · rw [if_neg c152] at h
      refine xe_alr (ins := .aload_n 0) (len := 1) (i := 0) (by decide +kernel) rfl rfl rfl rfl rfl ?_
      refine xe_bipush (n := 60) (by decide +kernel) (by decide) rfl ?_
      obtain ⟨_, e154, h⟩ := xbnd h
      obtain ⟨R155, e153, h⟩ := xbnd h
      refine xs_cv (i := 115) (j := 220) (ar := [xI (60)]) (rest := []) (r2 := xr_220) (by decide +kernel) (by decide +kernel) (by decide +kernel) xr_220_e rfl (by decide) (by decide) e154 ?_
      refine xc_i (k220 (d := d + 94)  (show xin (60) by decide) e153) rfl (fun hi156 => ?_)
      refine xe_ifne (off := 41) (t := 92) (by decide +kernel) (by decide) rfl hi156 (fun c157 => ?_) (fun c157 => ?_)
      · rw [if_pos c157] at h
        refine xW_lv rfl (l := [(0, xR_ (a0)), (1, xI (a1))]) (xsb_of ⟨rfl, rfl, trivial⟩ (show [0, 1].Nodup by decide)) ?_
        exact k248_92   ha1 h
      · rw [if_neg c157] at h
        refine xe_alr (ins := .aload_n 0) (len := 1) (i := 0) (by decide +kernel) rfl rfl rfl rfl rfl ?_
        refine xe_sipush (n := 302) (by decide +kernel) (by decide) rfl ?_
        obtain ⟨_, e159, h⟩ := xbnd h
        obtain ⟨R160, e158, h⟩ := xbnd h
        refine xs_cv (i := 115) (j := 220) (ar := [xI (302)]) (rest := []) (r2 := xr_220) (by decide +kernel) (by decide +kernel) (by decide +kernel) xr_220_e rfl (by decide) (by decide) e159 ?_
        refine xc_i (k220 (d := d + 94)  (show xin (302) by decide) e158) rfl (fun hi161 => ?_)
        refine xe_ifne (off := 31) (t := 92) (by decide +kernel) (by decide) rfl hi161 (fun c162 => ?_) (fun c162 => ?_)
        · rw [if_pos c162] at h
          refine xW_lv rfl (l := [(0, xR_ (a0)), (1, xI (a1))]) (xsb_of ⟨rfl, rfl, trivial⟩ (show [0, 1].Nodup by decide)) ?_
          exact k248_92   ha1 h
        · rw [if_neg c162] at h
          refine xe_alr (ins := .aload_n 0) (len := 1) (i := 0) (by decide +kernel) rfl rfl rfl rfl rfl ?_
          refine xe_bipush (n := 62) (by decide +kernel) (by decide) rfl ?_
          obtain ⟨_, e164, h⟩ := xbnd h
          obtain ⟨R165, e163, h⟩ := xbnd h
          refine xs_cv (i := 115) (j := 220) (ar := [xI (62)]) (rest := []) (r2 := xr_220) (by decide +kernel) (by decide +kernel) (by decide +kernel) xr_220_e rfl (by decide) (by decide) e164 ?_
          refine xc_i (k220 (d := d + 94)  (show xin (62) by decide) e163) rfl (fun hi166 => ?_)
          refine xe_ifne (off := 22) (t := 92) (by decide +kernel) (by decide) rfl hi166 (fun c167 => ?_) (fun c167 => ?_)
          · rw [if_pos c167] at h
            refine xW_lv rfl (l := [(0, xR_ (a0)), (1, xI (a1))]) (xsb_of ⟨rfl, rfl, trivial⟩ (show [0, 1].Nodup by decide)) ?_
            exact k248_92   ha1 h
          · rw [if_neg c167] at h
            refine xe_alr (ins := .aload_n 0) (len := 1) (i := 0) (by decide +kernel) rfl rfl rfl rfl rfl ?_
            refine xe_sipush (n := 303) (by decide +kernel) (by decide) rfl ?_
            obtain ⟨_, e169, h⟩ := xbnd h
            obtain ⟨R170, e168, h⟩ := xbnd h
            refine xs_cv (i := 115) (j := 220) (ar := [xI (303)]) (rest := []) (r2 := xr_220) (by decide +kernel) (by decide +kernel) (by decide +kernel) xr_220_e rfl (by decide) (by decide) e169 ?_
            refine xc_i (k220 (d := d + 94)  (show xin (303) by decide) e168) rfl (fun hi171 => ?_)
            refine xe_ifne (off := 12) (t := 92) (by decide +kernel) (by decide) rfl hi171 (fun c172 => ?_) (fun c172 => ?_)
            · rw [if_pos c172] at h
              refine xW_lv rfl (l := [(0, xR_ (a0)), (1, xI (a1))]) (xsb_of ⟨rfl, rfl, trivial⟩ (show [0, 1].Nodup by decide)) ?_
              exact k248_92   ha1 h
            · rw [if_neg c172] at h
              refine xe_alr (ins := .aload_n 0) (len := 1) (i := 0) (by decide +kernel) rfl rfl rfl rfl rfl ?_
              refine xe_alr (ins := .aload_n 0) (len := 1) (i := 0) (by decide +kernel) rfl rfl rfl rfl rfl ?_
              obtain ⟨v173, e174, h⟩ := xbnd h
              refine xs_gi (i := 43) (c := 15) (k := 4) (by decide +kernel) (by decide) (by decide +kernel) e174 rfl ?_
              obtain ⟨_, e176, h⟩ := xbnd h
              obtain ⟨M177, e175, h⟩ := xbnd h
              refine xs_cv (i := 35) (j := 210) (ar := [xI (v173)]) (rest := []) (r2 := xr_210) (by decide +kernel) (by decide +kernel) (by decide +kernel) xr_210_e rfl (by decide) (by decide) e176 ?_
              refine xc_v (k210 (d := d + 95)  (xq_gi_in e174) e175) rfl ?_
              cases h
              exact xe_ret_v (by decide +kernel) rfl ⟨rfl, rfl⟩
-- ChangeHouseModel.strong
def xr_335 : xj_mR := (15, yX15_strong, cX15_strong, 4, (Option.some Jvm.ClassFile.FieldType.int), 0, false, (10, 105), (1, 12))
set_option maxRecDepth 20000 in
theorem xr_335_e : xj_row 335 = some xr_335 := rfl
def f335_5b (q334 : Nat → xj_M → Option (Int × xj_M)) (r5 : Nat → Int → xj_M → Option (Int × xj_M)) (f : Nat) (x0 : Nat) (x1 : Int) (M : xj_M) : Option (Int × xj_M) := ((xq_is 15 (x0) M).bind fun _ => ((f242  f (x0) (1) M).bind fun R103 => (if (R103.1) = 0 then (some (x1, R103.2)) else ((xq_gi 15 3 (x0) R103.2).bind fun v106 => ((xq_is 15 (x0) R103.2).bind fun _ => ((f213  f (x0) R103.2).bind fun M110 => ((xq_is 15 (x0) M110).bind fun _ => ((f338 q334 f (x0) M110).bind fun R114 => ((xq_is 15 (x0) R114.2).bind fun _ => ((f331  f (x0) (3) (x1) (R114.1) (v106) (0) R114.2).bind fun R118 => r5 (x0) (R118.1) R118.2))))))))))
theorem k335_5b {d f : Nat} {q334 : Nat → xj_M → Option (Int × xj_M)} {r5 : Nat → Int → xj_M → Option (Int × xj_M)} (hq334 : ∀ {e : Nat} {a0 : Nat} {M : xj_M} {R : Int × xj_M}, d ≤ e → q334 a0 M = some R → xT e 334 [xR_ a0] M (xQi R)) (hr5 : ∀ {x0 : Nat} {x1 : Int} {M : xj_M} {R : Int × xj_M}, xin x1 → r5 x0 x1 M = some R → xW (d + 11) (none, d + 11, none) xr_335 (5, [(0, xR_ x0), (1, xI x1)], [], M) (xQi R)) {x0 : Nat} {x1 : Int} {M : xj_M} {R : Int × xj_M} (hx1 : xin x1) (h : f335_5b q334 r5 f x0 x1 M = some R) : xW (d + 11) (none, d + 11, none) xr_335 (5, [(0, xR_ x0), (1, xI x1)], [], M) (xQi R) := by
  unfold f335_5b at h
  refine xe_alr (ins := .aload_n 0) (len := 1) (i := 0) (by decide +kernel) rfl rfl rfl rfl rfl ?_
  refine xe_iconst (n := 1) (by decide +kernel) rfl ?_
  obtain ⟨_, e102, h⟩ := xbnd h
  obtain ⟨R103, e101, h⟩ := xbnd h
  refine xs_cv (i := 340) (j := 242) (ar := [xI (1)]) (rest := []) (r2 := xr_242) (by decide +kernel) (by decide +kernel) (by decide +kernel) xr_242_e rfl (by decide) (by decide) e102 ?_
  refine xc_i (k242 (d := d + 8)  (show xin (1) by decide) e101) rfl (fun hi104 => ?_)
  refine xe_ifeq (off := 30) (t := 40) (by decide +kernel) (by decide) rfl hi104 (fun c105 => ?_) (fun c105 => ?_)
  · rw [if_pos c105] at h
    refine xe_ldn (ins := .iload_n 1) (len := 1) (by decide +kernel) rfl rfl rfl rfl ?_
    cases h
    exact xe_ret_i (ty := .int) (by decide +kernel) rfl rfl ⟨rfl, rfl, hx1⟩
  · rw [if_neg c105] at h
    refine xe_alr (ins := .aload_n 0) (len := 1) (i := 0) (by decide +kernel) rfl rfl rfl rfl rfl ?_
    obtain ⟨v106, e107, h⟩ := xbnd h
    refine xs_gi (i := 105) (c := 15) (k := 3) (by decide +kernel) (by decide) (by decide +kernel) e107 rfl ?_
    refine xe_isr (ins := .istore_n 2) (len := 1) (i := 2) (by decide +kernel) rfl rfl rfl (by decide) (xk_k (show ¬ (0 : Nat) = 2 by decide) (Or.inl (show ¬ (0 + 1 : Nat) = 2 by decide)) (xk_k (show ¬ (1 : Nat) = 2 by decide) (Or.inr (xI_cat _)) xk_n)) rfl ?_
    refine xe_alr (ins := .aload_n 0) (len := 1) (i := 0) (by decide +kernel) rfl rfl rfl rfl rfl ?_
    obtain ⟨_, e109, h⟩ := xbnd h
    obtain ⟨M110, e108, h⟩ := xbnd h
    refine xs_cv (i := 118) (j := 213) (ar := []) (rest := []) (r2 := xr_213) (by decide +kernel) (by decide +kernel) (by decide +kernel) xr_213_e rfl (by decide) (by decide) e109 ?_
    refine xc_v (k213 (d := d + 4)   e108) rfl ?_
    refine xe_alr (ins := .aload_n 0) (len := 1) (i := 0) (by decide +kernel) rfl rfl rfl rfl rfl ?_
    obtain ⟨_, e113, h⟩ := xbnd h
    obtain ⟨R114, e112, h⟩ := xbnd h
    refine xs_cv (i := 977) (j := 338) (ar := []) (rest := []) (r2 := xr_338) (by decide +kernel) (by decide +kernel) (by decide +kernel) xr_338_e rfl (by decide) (by decide) e113 ?_
    refine xc_i (k338 (d := d + 0) (fun he => hq334 (Nat.le_trans (by omega) he))  e112) rfl (fun hi115 => ?_)
    refine xe_isr (ins := .istore_n 3) (len := 1) (i := 3) (by decide +kernel) rfl rfl rfl (by decide) (xk_k (show ¬ (2 : Nat) = 3 by decide) (Or.inr (xI_cat _)) (xk_k (show ¬ (0 : Nat) = 3 by decide) (Or.inl (show ¬ (0 + 1 : Nat) = 3 by decide)) (xk_k (show ¬ (1 : Nat) = 3 by decide) (Or.inl (show ¬ (1 + 1 : Nat) = 3 by decide)) xk_n))) rfl ?_
    refine xe_alr (ins := .aload_n 0) (len := 1) (i := 0) (by decide +kernel) rfl rfl rfl rfl rfl ?_
    refine xe_iconst (n := 3) (by decide +kernel) rfl ?_
    refine xe_ldn (ins := .iload_n 1) (len := 1) (by decide +kernel) rfl rfl rfl rfl ?_
    refine xe_ldn (ins := .iload_n 3) (len := 1) (by decide +kernel) rfl rfl rfl rfl ?_
    refine xe_ldn (ins := .iload_n 2) (len := 1) (by decide +kernel) rfl rfl rfl rfl ?_
    refine xe_lconst (n := 0) (z := 0) (by decide +kernel) rfl rfl ?_
    obtain ⟨_, e117, h⟩ := xbnd h
    obtain ⟨R118, e116, h⟩ := xbnd h
    refine xs_cv (i := 973) (j := 331) (ar := [xZ (0), xI (v106), xI (R114.1), xI (x1), xI (3)]) (rest := []) (r2 := xr_331) (by decide +kernel) (by decide +kernel) (by decide +kernel) xr_331_e rfl (by decide) (by decide) e117 ?_
    refine xc_i (k331 (d := d + 10)  (show xin (3) by decide) hx1 hi115 (xq_gi_in e107) (show xiN (0) by decide) e116) rfl (fun hi119 => ?_)
    refine xe_isr (ins := .istore_n 1) (len := 1) (i := 1) (by decide +kernel) rfl rfl rfl (by decide) (xk_k (show ¬ (3 : Nat) = 1 by decide) (Or.inl (show ¬ (3 + 1 : Nat) = 1 by decide)) (xk_k (show ¬ (2 : Nat) = 1 by decide) (Or.inl (show ¬ (2 + 1 : Nat) = 1 by decide)) (xk_k (show ¬ (0 : Nat) = 1 by decide) (Or.inr (xR_cat _)) (xk_d rfl xk_n)))) rfl ?_
    refine xe_goto (off := -32) (nx := 5) (by decide +kernel) (by decide) ?_
    refine xW_lv rfl (l := [(0, xR_ (x0)), (1, xI (R118.1))]) (xsb_of ⟨rfl, rfl, trivial⟩ (show [1, 3, 2, 0].Nodup by decide)) ?_
    exact hr5 hi119 h
def f335_5 (q334 : Nat → xj_M → Option (Int × xj_M))  (f : Nat) : Nat → Nat → Int → xj_M → Option (Int × xj_M)
  | 0, _, _, _ => none
  | n + 1, x0, x1, M => f335_5b q334  (f335_5 q334  f n) f x0 x1 M
theorem k335_5 {d f : Nat} {q334 : Nat → xj_M → Option (Int × xj_M)}  (hq334 : ∀ {e : Nat} {a0 : Nat} {M : xj_M} {R : Int × xj_M}, d ≤ e → q334 a0 M = some R → xT e 334 [xR_ a0] M (xQi R))  : ∀ {n : Nat} {x0 : Nat} {x1 : Int} {M : xj_M} {R : Int × xj_M}, xin x1 → f335_5 q334  f n x0 x1 M = some R → xW (d + 11) (none, d + 11, none) xr_335 (5, [(0, xR_ x0), (1, xI x1)], [], M) (xQi R) := by
  intro n
  induction n with
  | zero => intros; rename_i h; cases h
  | succ n ih => intros; rename_i h; exact k335_5b hq334  ih (by assumption) h
def f335 (q334 : Nat → xj_M → Option (Int × xj_M)) (f : Nat) (a0 : Nat) (M : xj_M) : Option (Int × xj_M) := ((xq_is 15 (a0) M).bind fun _ => ((f338 q334 f (a0) M).bind fun R122 => f335_5 q334  f f (a0) (R122.1) R122.2))
theorem k335 {d f : Nat} {q334 : Nat → xj_M → Option (Int × xj_M)} (hq334 : ∀ {e : Nat} {a0 : Nat} {M : xj_M} {R : Int × xj_M}, d ≤ e → q334 a0 M = some R → xT e 334 [xR_ a0] M (xQi R)) {a0 : Nat} {M : xj_M} {R : Int × xj_M}  (h : f335 q334 f a0 M = some R) : xT (d + 12) 335 [xR_ a0] M (xQi R) := by
  refine xT_m xr_335_e (X := (none, d + 11, none)) rfl (xa_1 (xR_cat _) xa_n) (by decide) ?_
  unfold f335 at h
  refine xe_alr (ins := .aload_n 0) (len := 1) (i := 0) (by decide +kernel) rfl rfl rfl rfl rfl ?_
  obtain ⟨_, e121, h⟩ := xbnd h
  obtain ⟨R122, e120, h⟩ := xbnd h
  refine xs_cv (i := 977) (j := 338) (ar := []) (rest := []) (r2 := xr_338) (by decide +kernel) (by decide +kernel) (by decide +kernel) xr_338_e rfl (by decide) (by decide) e121 ?_
  refine xc_i (k338 (d := d + 0) (fun he => hq334 (Nat.le_trans (by omega) he))  e120) rfl (fun hi123 => ?_)
  refine xe_isr (ins := .istore_n 1) (len := 1) (i := 1) (by decide +kernel) rfl rfl rfl (by decide) (xk_k (show ¬ (0 : Nat) = 1 by decide) (Or.inr (xR_cat _)) xk_n) rfl ?_
  refine xW_lv rfl (l := [(0, xR_ (a0)), (1, xI (R122.1))]) (xsb_of ⟨rfl, rfl, trivial⟩ (show [1, 0].Nodup by decide)) ?_
  exact k335_5 hq334  hi123 h
-- ChangeHouseModel.readItem
def xr_238 : xj_mR := (15, yX15_readItem, cX15_readItem, 3, (Option.none : Option Jvm.ClassFile.FieldType), 0, false, (9, 21), (1, 12))
set_option maxRecDepth 20000 in
theorem xr_238_e : xj_row 238 = some xr_238 := rfl
def f238_236   (f : Nat) (x0 : Nat) (x1 : Int) (M : xj_M) : Option (xj_M) := ((xq_gr 15 22 (x0) M).bind fun v101 => ((xq_gr 14 24 (v101) M).bind fun v103 => ((xq_gr 15 22 (x0) M).bind fun v105 => ((xq_gi 14 37 (v105) M).bind fun v107 => ((xq_si (v103) (x1) (v107) M).bind fun M109 => ((xq_gr 15 22 (x0) M109).bind fun v111 => ((xq_gr 14 17 (v111) M109).bind fun v113 => ((xq_gi 15 23 (x0) M109).bind fun v115 => ((xq_ai 3 (v113) (v115) M109).bind fun v117 => ((xq_si (v113) (v115) (xwr ((v117) + (1))) M109).bind fun M119 => (some M119)))))))))))
theorem k238_236 {d f : Nat}     {x0 : Nat} {x1 : Int} {M : xj_M} {R : xj_M} (hx1 : xin x1) (h : f238_236   f x0 x1 M = some R) : xW (d + 96) (none, d + 96, none) xr_238 (236, [(0, xR_ x0), (1, xI x1)], [], M) (xQv R) := by
  unfold f238_236 at h
  refine xe_alr (ins := .aload_n 0) (len := 1) (i := 0) (by decide +kernel) rfl rfl rfl rfl rfl ?_
  obtain ⟨v101, e102, h⟩ := xbnd h
  refine xs_gr (i := 197) (c := 15) (k := 22) (by decide +kernel) (by decide) (by decide +kernel) e102 rfl ?_
  obtain ⟨v103, e104, h⟩ := xbnd h
  refine xs_gr (i := 310) (c := 14) (k := 24) (by decide +kernel) (by decide) (by decide +kernel) e104 rfl ?_
  refine xe_ldn (ins := .iload_n 1) (len := 1) (by decide +kernel) rfl rfl rfl rfl ?_
  refine xe_alr (ins := .aload_n 0) (len := 1) (i := 0) (by decide +kernel) rfl rfl rfl rfl rfl ?_
  obtain ⟨v105, e106, h⟩ := xbnd h
  refine xs_gr (i := 197) (c := 15) (k := 22) (by decide +kernel) (by decide) (by decide +kernel) e106 rfl ?_
  obtain ⟨v107, e108, h⟩ := xbnd h
  refine xs_gi (i := 177) (c := 14) (k := 37) (by decide +kernel) (by decide) (by decide +kernel) e108 rfl ?_
  obtain ⟨M109, e110, h⟩ := xbnd h
  refine xs_iast (by decide +kernel) hx1 e110 rfl ?_
  refine xe_alr (ins := .aload_n 0) (len := 1) (i := 0) (by decide +kernel) rfl rfl rfl rfl rfl ?_
  obtain ⟨v111, e112, h⟩ := xbnd h
  refine xs_gr (i := 197) (c := 15) (k := 22) (by decide +kernel) (by decide) (by decide +kernel) e112 rfl ?_
  obtain ⟨v113, e114, h⟩ := xbnd h
  refine xs_gr (i := 274) (c := 14) (k := 17) (by decide +kernel) (by decide) (by decide +kernel) e114 rfl ?_
  refine xe_alr (ins := .aload_n 0) (len := 1) (i := 0) (by decide +kernel) rfl rfl rfl rfl rfl ?_
  obtain ⟨v115, e116, h⟩ := xbnd h
  refine xs_gi (i := 259) (c := 15) (k := 23) (by decide +kernel) (by decide) (by decide +kernel) e116 rfl ?_
  refine xe_dup2r (xI_cat _) (xR_cat _) (by decide +kernel) rfl ?_
  obtain ⟨v117, e118, h⟩ := xbnd h
  refine xs_iald rfl (by decide +kernel) (xq_gi_in e116) e118 rfl ?_
  refine xe_iconst (n := 1) (by decide +kernel) rfl ?_
  refine xe_iadd (by decide +kernel) rfl ?_
  obtain ⟨M119, e120, h⟩ := xbnd h
  refine xs_iast (by decide +kernel) (xq_gi_in e116) e120 rfl ?_
  cases h
  exact xe_ret_v (by decide +kernel) rfl ⟨rfl, rfl⟩
def f238_230   (f : Nat) (x0 : Nat) (x1 : Int) (M : xj_M) : Option (xj_M) := ((xq_is 15 (x0) M).bind fun _ => ((f222  f (x0) (41) M).bind fun M123 => f238_236   f (x0) (x1) M123))
theorem k238_230 {d f : Nat}     {x0 : Nat} {x1 : Int} {M : xj_M} {R : xj_M} (hx1 : xin x1) (h : f238_230   f x0 x1 M = some R) : xW (d + 96) (none, d + 96, none) xr_238 (230, [(0, xR_ x0), (1, xI x1)], [], M) (xQv R) := by
  unfold f238_230 at h
  refine xe_alr (ins := .aload_n 0) (len := 1) (i := 0) (by decide +kernel) rfl rfl rfl rfl rfl ?_
  refine xe_bipush (n := 41) (by decide +kernel) (by decide) rfl ?_
  obtain ⟨_, e122, h⟩ := xbnd h
  obtain ⟨M123, e121, h⟩ := xbnd h
  refine xs_cv (i := 248) (j := 222) (ar := [xI (41)]) (rest := []) (r2 := xr_222) (by decide +kernel) (by decide +kernel) (by decide +kernel) xr_222_e rfl (by decide) (by decide) e122 ?_
  refine xc_v (k222 (d := d + 88)  (show xin (41) by decide) e121) rfl ?_
  refine xW_lv rfl (l := [(0, xR_ (x0)), (1, xI (x1))]) (xsb_of ⟨rfl, rfl, trivial⟩ (show [0, 1].Nodup by decide)) ?_
  exact k238_236   hx1 h
def f238_89   (f : Nat) (x0 : Nat) (x1 : Int) (y0 : Int) (M : xj_M) : Option (xj_M) := ((xq_gr 15 22 (x0) M).bind fun v125 => ((xq_gr 14 23 (v125) M).bind fun v127 => ((xq_gr 15 22 (x0) M).bind fun v129 => ((xq_gi 14 37 (v129) M).bind fun v131 => ((xq_si (v127) (x1) (v131) M).bind fun M133 => (if ¬ (y0) = 0 then ((xq_gr 15 22 (x0) M133).bind fun v136 => ((xq_gr 14 18 (v136) M133).bind fun v138 => ((xq_gi 15 23 (x0) M133).bind fun v140 => ((xq_ai 3 (v138) (v140) M133).bind fun v142 => (if (v142) = 0 then ((xq_gr 15 22 (x0) M133).bind fun v145 => ((xq_gr 14 18 (v145) M133).bind fun v147 => ((xq_gi 15 23 (x0) M133).bind fun v149 => ((xq_si (v147) (v149) (y0) M133).bind fun M151 => ((xq_gr 15 22 (x0) M151).bind fun v153 => ((xq_gr 14 19 (v153) M151).bind fun v155 => ((xq_gi 15 23 (x0) M151).bind fun v157 => ((xq_gr 15 22 (x0) M151).bind fun v159 => ((xq_gr 14 17 (v159) M151).bind fun v161 => ((xq_gi 15 23 (x0) M151).bind fun v163 => ((xq_ai 3 (v161) (v163) M151).bind fun v165 => ((xq_si (v155) (v157) (v165) M151).bind fun M167 => ((xq_is 15 (x0) M167).bind fun _ => ((f213  f (x0) M167).bind fun M171 => ((xq_is 15 (x0) M171).bind fun _ => ((f222  f (x0) (40) M171).bind fun M175 => (if (y0) = (1) then f238_230   f (x0) (x1) M175 else ((xq_is 15 (x0) M175).bind fun _ => ((f221  f (x0) (3) M175).bind fun R180 => (if (R180.1) = 0 then ((xq_gi 15 4 (x0) R180.2).bind fun v183 => ((xq_is 15 (x0) R180.2).bind fun _ => ((f210  f (x0) (v183) R180.2).bind fun M187 => f238_230   f (x0) (x1) M187))) else ((xq_gr 15 22 (x0) R180.2).bind fun v189 => ((xq_gr 14 20 (v189) R180.2).bind fun v191 => ((xq_gi 15 23 (x0) R180.2).bind fun v193 => ((xq_is 15 (x0) R180.2).bind fun _ => ((f239  f (x0) R180.2).bind fun R197 => ((xq_si (v191) (v193) (R197.1) R197.2).bind fun M199 => f238_230   f (x0) (x1) M199)))))))))))))))))))))))))) else ((xq_gi 15 4 (x0) M133).bind fun v201 => ((xq_is 15 (x0) M133).bind fun _ => ((f210  f (x0) (v201) M133).bind fun M205 => f238_236   f (x0) (x1) M205)))))))) else ((xq_is 15 (x0) M133).bind fun _ => ((f243  f (x0) M133).bind fun M209 => f238_236   f (x0) (x1) M209))))))))
theorem k238_89 {d f : Nat}     {x0 : Nat} {x1 : Int} {y0 : Int} {M : xj_M} {R : xj_M} (hx1 : xin x1) (hy0 : xin y0) (h : f238_89   f x0 x1 y0 M = some R) : xW (d + 96) (none, d + 96, none) xr_238 (89, [(0, xR_ x0), (1, xI x1)], [xI y0], M) (xQv R) := by
  unfold f238_89 at h
  refine xe_isr (ins := .istore_n 2) (len := 1) (i := 2) (by decide +kernel) rfl rfl rfl (by decide) (xk_k (show ¬ (0 : Nat) = 2 by decide) (Or.inl (show ¬ (0 + 1 : Nat) = 2 by decide)) (xk_k (show ¬ (1 : Nat) = 2 by decide) (Or.inr (xI_cat _)) xk_n)) rfl ?_
  refine xe_alr (ins := .aload_n 0) (len := 1) (i := 0) (by decide +kernel) rfl rfl rfl rfl rfl ?_
  obtain ⟨v125, e126, h⟩ := xbnd h
  refine xs_gr (i := 197) (c := 15) (k := 22) (by decide +kernel) (by decide) (by decide +kernel) e126 rfl ?_
  obtain ⟨v127, e128, h⟩ := xbnd h
  refine xs_gr (i := 301) (c := 14) (k := 23) (by decide +kernel) (by decide) (by decide +kernel) e128 rfl ?_
  refine xe_ldn (ins := .iload_n 1) (len := 1) (by decide +kernel) rfl rfl rfl rfl ?_
  refine xe_alr (ins := .aload_n 0) (len := 1) (i := 0) (by decide +kernel) rfl rfl rfl rfl rfl ?_
  obtain ⟨v129, e130, h⟩ := xbnd h
  refine xs_gr (i := 197) (c := 15) (k := 22) (by decide +kernel) (by decide) (by decide +kernel) e130 rfl ?_
  obtain ⟨v131, e132, h⟩ := xbnd h
  refine xs_gi (i := 177) (c := 14) (k := 37) (by decide +kernel) (by decide) (by decide +kernel) e132 rfl ?_
  obtain ⟨M133, e134, h⟩ := xbnd h
  refine xs_iast (by decide +kernel) hx1 e134 rfl ?_
  refine xe_ldn (ins := .iload_n 2) (len := 1) (by decide +kernel) rfl rfl rfl rfl ?_
  refine xe_ifne (off := 10) (t := 117) (by decide +kernel) (by decide) rfl hy0 (fun c135 => ?_) (fun c135 => ?_)
  · rw [if_pos c135] at h
    refine xe_alr (ins := .aload_n 0) (len := 1) (i := 0) (by decide +kernel) rfl rfl rfl rfl rfl ?_
    obtain ⟨v136, e137, h⟩ := xbnd h
    refine xs_gr (i := 197) (c := 15) (k := 22) (by decide +kernel) (by decide) (by decide +kernel) e137 rfl ?_
    obtain ⟨v138, e139, h⟩ := xbnd h
    refine xs_gr (i := 277) (c := 14) (k := 18) (by decide +kernel) (by decide) (by decide +kernel) e139 rfl ?_
    refine xe_alr (ins := .aload_n 0) (len := 1) (i := 0) (by decide +kernel) rfl rfl rfl rfl rfl ?_
    obtain ⟨v140, e141, h⟩ := xbnd h
    refine xs_gi (i := 259) (c := 15) (k := 23) (by decide +kernel) (by decide) (by decide +kernel) e141 rfl ?_
    obtain ⟨v142, e143, h⟩ := xbnd h
    refine xs_iald rfl (by decide +kernel) (xq_gi_in e141) e143 rfl ?_
    refine xe_ifeq (off := 14) (t := 143) (by decide +kernel) (by decide) rfl (xq_ai_in e143) (fun c144 => ?_) (fun c144 => ?_)
    · rw [if_pos c144] at h
      refine xe_alr (ins := .aload_n 0) (len := 1) (i := 0) (by decide +kernel) rfl rfl rfl rfl rfl ?_
      obtain ⟨v145, e146, h⟩ := xbnd h
      refine xs_gr (i := 197) (c := 15) (k := 22) (by decide +kernel) (by decide) (by decide +kernel) e146 rfl ?_
      obtain ⟨v147, e148, h⟩ := xbnd h
      refine xs_gr (i := 277) (c := 14) (k := 18) (by decide +kernel) (by decide) (by decide +kernel) e148 rfl ?_
      refine xe_alr (ins := .aload_n 0) (len := 1) (i := 0) (by decide +kernel) rfl rfl rfl rfl rfl ?_
      obtain ⟨v149, e150, h⟩ := xbnd h
      refine xs_gi (i := 259) (c := 15) (k := 23) (by decide +kernel) (by decide) (by decide +kernel) e150 rfl ?_
      refine xe_ldn (ins := .iload_n 2) (len := 1) (by decide +kernel) rfl rfl rfl rfl ?_
      obtain ⟨M151, e152, h⟩ := xbnd h
      refine xs_iast (by decide +kernel) (xq_gi_in e150) e152 rfl ?_
      refine xe_alr (ins := .aload_n 0) (len := 1) (i := 0) (by decide +kernel) rfl rfl rfl rfl rfl ?_
      obtain ⟨v153, e154, h⟩ := xbnd h
      refine xs_gr (i := 197) (c := 15) (k := 22) (by decide +kernel) (by decide) (by decide +kernel) e154 rfl ?_
      obtain ⟨v155, e156, h⟩ := xbnd h
      refine xs_gr (i := 280) (c := 14) (k := 19) (by decide +kernel) (by decide) (by decide +kernel) e156 rfl ?_
      refine xe_alr (ins := .aload_n 0) (len := 1) (i := 0) (by decide +kernel) rfl rfl rfl rfl rfl ?_
      obtain ⟨v157, e158, h⟩ := xbnd h
      refine xs_gi (i := 259) (c := 15) (k := 23) (by decide +kernel) (by decide) (by decide +kernel) e158 rfl ?_
      refine xe_alr (ins := .aload_n 0) (len := 1) (i := 0) (by decide +kernel) rfl rfl rfl rfl rfl ?_
      obtain ⟨v159, e160, h⟩ := xbnd h
      refine xs_gr (i := 197) (c := 15) (k := 22) (by decide +kernel) (by decide) (by decide +kernel) e160 rfl ?_
      obtain ⟨v161, e162, h⟩ := xbnd h
      refine xs_gr (i := 274) (c := 14) (k := 17) (by decide +kernel) (by decide) (by decide +kernel) e162 rfl ?_
      refine xe_alr (ins := .aload_n 0) (len := 1) (i := 0) (by decide +kernel) rfl rfl rfl rfl rfl ?_
      obtain ⟨v163, e164, h⟩ := xbnd h
      refine xs_gi (i := 259) (c := 15) (k := 23) (by decide +kernel) (by decide) (by decide +kernel) e164 rfl ?_
      obtain ⟨v165, e166, h⟩ := xbnd h
      refine xs_iald rfl (by decide +kernel) (xq_gi_in e164) e166 rfl ?_
      obtain ⟨M167, e168, h⟩ := xbnd h
      refine xs_iast (by decide +kernel) (xq_gi_in e158) e168 rfl ?_
      refine xe_alr (ins := .aload_n 0) (len := 1) (i := 0) (by decide +kernel) rfl rfl rfl rfl rfl ?_
      obtain ⟨_, e170, h⟩ := xbnd h
      obtain ⟨M171, e169, h⟩ := xbnd h
      refine xs_cv (i := 118) (j := 213) (ar := []) (rest := []) (r2 := xr_213) (by decide +kernel) (by decide +kernel) (by decide +kernel) xr_213_e rfl (by decide) (by decide) e170 ?_
      refine xc_v (k213 (d := d + 89)   e169) rfl ?_
      refine xe_alr (ins := .aload_n 0) (len := 1) (i := 0) (by decide +kernel) rfl rfl rfl rfl rfl ?_
      refine xe_bipush (n := 40) (by decide +kernel) (by decide) rfl ?_
      obtain ⟨_, e174, h⟩ := xbnd h
      obtain ⟨M175, e173, h⟩ := xbnd h
      refine xs_cv (i := 248) (j := 222) (ar := [xI (40)]) (rest := []) (r2 := xr_222) (by decide +kernel) (by decide +kernel) (by decide +kernel) xr_222_e rfl (by decide) (by decide) e174 ?_
      refine xc_v (k222 (d := d + 88)  (show xin (40) by decide) e173) rfl ?_
      refine xe_ldn (ins := .iload_n 2) (len := 1) (by decide +kernel) rfl rfl rfl rfl ?_
      refine xe_iconst (n := 1) (by decide +kernel) rfl ?_
      refine xe_icmpeq (off := 38) (t := 230) (by decide +kernel) (by decide) rfl hy0 (show xin (1) by decide) (fun c177 => ?_) (fun c177 => ?_)
      · rw [if_pos c177] at h
        refine xW_lv rfl (l := [(0, xR_ (x0)), (1, xI (x1))]) (xsb_of ⟨rfl, rfl, trivial⟩ (show [2, 0, 1].Nodup by decide)) ?_
        exact k238_230   hx1 h
      · rw [if_neg c177] at h
        refine xe_alr (ins := .aload_n 0) (len := 1) (i := 0) (by decide +kernel) rfl rfl rfl rfl rfl ?_
        refine xe_iconst (n := 3) (by decide +kernel) rfl ?_
        obtain ⟨_, e179, h⟩ := xbnd h
        obtain ⟨R180, e178, h⟩ := xbnd h
        refine xs_cv (i := 153) (j := 221) (ar := [xI (3)]) (rest := []) (r2 := xr_221) (by decide +kernel) (by decide +kernel) (by decide +kernel) xr_221_e rfl (by decide) (by decide) e179 ?_
        refine xc_i (k221 (d := d + 94)  (show xin (3) by decide) e178) rfl (fun hi181 => ?_)
        refine xe_ifeq (off := 22) (t := 222) (by decide +kernel) (by decide) rfl hi181 (fun c182 => ?_) (fun c182 => ?_)
        · rw [if_pos c182] at h
          refine xe_alr (ins := .aload_n 0) (len := 1) (i := 0) (by decide +kernel) rfl rfl rfl rfl rfl ?_
          refine xe_alr (ins := .aload_n 0) (len := 1) (i := 0) (by decide +kernel) rfl rfl rfl rfl rfl ?_
          obtain ⟨v183, e184, h⟩ := xbnd h
          refine xs_gi (i := 43) (c := 15) (k := 4) (by decide +kernel) (by decide) (by decide +kernel) e184 rfl ?_
          obtain ⟨_, e186, h⟩ := xbnd h
          obtain ⟨M187, e185, h⟩ := xbnd h
          refine xs_cv (i := 35) (j := 210) (ar := [xI (v183)]) (rest := []) (r2 := xr_210) (by decide +kernel) (by decide +kernel) (by decide +kernel) xr_210_e rfl (by decide) (by decide) e186 ?_
          refine xc_v (k210 (d := d + 95)  (xq_gi_in e184) e185) rfl ?_
          refine xW_lv rfl (l := [(0, xR_ (x0)), (1, xI (x1))]) (xsb_of ⟨rfl, rfl, trivial⟩ (show [2, 0, 1].Nodup by decide)) ?_
          exact k238_230   hx1 h
        · rw [if_neg c182] at h
          refine xe_alr (ins := .aload_n 0) (len := 1) (i := 0) (by decide +kernel) rfl rfl rfl rfl rfl ?_
          obtain ⟨v189, e190, h⟩ := xbnd h
          refine xs_gr (i := 197) (c := 15) (k := 22) (by decide +kernel) (by decide) (by decide +kernel) e190 rfl ?_
          obtain ⟨v191, e192, h⟩ := xbnd h
          refine xs_gr (i := 283) (c := 14) (k := 20) (by decide +kernel) (by decide) (by decide +kernel) e192 rfl ?_
          refine xe_alr (ins := .aload_n 0) (len := 1) (i := 0) (by decide +kernel) rfl rfl rfl rfl rfl ?_
          obtain ⟨v193, e194, h⟩ := xbnd h
          refine xs_gi (i := 259) (c := 15) (k := 23) (by decide +kernel) (by decide) (by decide +kernel) e194 rfl ?_
          refine xe_alr (ins := .aload_n 0) (len := 1) (i := 0) (by decide +kernel) rfl rfl rfl rfl rfl ?_
          obtain ⟨_, e196, h⟩ := xbnd h
          obtain ⟨R197, e195, h⟩ := xbnd h
          refine xs_cv (i := 307) (j := 239) (ar := []) (rest := [xI (v193), xR_ (v191)]) (r2 := xr_239) (by decide +kernel) (by decide +kernel) (by decide +kernel) xr_239_e rfl (by decide) (by simp only [List.map_cons, List.map_nil, List.sum_cons, List.sum_nil, xR_cat, xI_cat, xZ_cat]; decide) e196 ?_
          refine xc_i (k239 (d := d + 88)   e195) rfl (fun hi198 => ?_)
          obtain ⟨M199, e200, h⟩ := xbnd h
          refine xs_iast (by decide +kernel) (xq_gi_in e194) e200 rfl ?_
          refine xe_goto (off := 11) (nx := 230) (by decide +kernel) (by decide) ?_
          refine xW_lv rfl (l := [(0, xR_ (x0)), (1, xI (x1))]) (xsb_of ⟨rfl, rfl, trivial⟩ (show [2, 0, 1].Nodup by decide)) ?_
          exact k238_230   hx1 h
    · rw [if_neg c144] at h
      refine xe_alr (ins := .aload_n 0) (len := 1) (i := 0) (by decide +kernel) rfl rfl rfl rfl rfl ?_
      refine xe_alr (ins := .aload_n 0) (len := 1) (i := 0) (by decide +kernel) rfl rfl rfl rfl rfl ?_
      obtain ⟨v201, e202, h⟩ := xbnd h
      refine xs_gi (i := 43) (c := 15) (k := 4) (by decide +kernel) (by decide) (by decide +kernel) e202 rfl ?_
      obtain ⟨_, e204, h⟩ := xbnd h
      obtain ⟨M205, e203, h⟩ := xbnd h
      refine xs_cv (i := 35) (j := 210) (ar := [xI (v201)]) (rest := []) (r2 := xr_210) (by decide +kernel) (by decide +kernel) (by decide +kernel) xr_210_e rfl (by decide) (by decide) e204 ?_
      refine xc_v (k210 (d := d + 95)  (xq_gi_in e202) e203) rfl ?_
      refine xe_goto (off := 96) (nx := 236) (by decide +kernel) (by decide) ?_
      refine xW_lv rfl (l := [(0, xR_ (x0)), (1, xI (x1))]) (xsb_of ⟨rfl, rfl, trivial⟩ (show [2, 0, 1].Nodup by decide)) ?_
      exact k238_236   hx1 h
  · rw [if_neg c135] at h
    refine xe_alr (ins := .aload_n 0) (len := 1) (i := 0) (by decide +kernel) rfl rfl rfl rfl rfl ?_
    obtain ⟨_, e208, h⟩ := xbnd h
    obtain ⟨M209, e207, h⟩ := xbnd h
    refine xs_cv (i := 304) (j := 243) (ar := []) (rest := []) (r2 := xr_243) (by decide +kernel) (by decide +kernel) (by decide +kernel) xr_243_e rfl (by decide) (by decide) e208 ?_
    refine xc_v (k243 (d := d + 0)   e207) rfl ?_
    refine xe_goto (off := 122) (nx := 236) (by decide +kernel) (by decide) ?_
    refine xW_lv rfl (l := [(0, xR_ (x0)), (1, xI (x1))]) (xsb_of ⟨rfl, rfl, trivial⟩ (show [2, 0, 1].Nodup by decide)) ?_
    exact k238_236   hx1 h
def f238  (f : Nat) (a0 : Nat) (M : xj_M) : Option (xj_M) := ((xq_is 15 (a0) M).bind fun _ => ((f211  f (a0) M).bind fun R213 => (if (R213.1) = 0 then ((xq_gi 15 23 (a0) R213.2).bind fun v216 => ((xq_gr 15 22 (a0) R213.2).bind fun v218 => ((xq_gr 14 17 (v218) R213.2).bind fun v220 => ((xq_gi 15 23 (a0) R213.2).bind fun v222 => ((xq_ai 3 (v220) (v222) R213.2).bind fun v224 => ((xq_gl 15 16 (a0) R213.2).bind fun v226 => ((xq_is 15 (a0) R213.2).bind fun _ => ((f225  f (a0) (v226) R213.2).bind fun R230 => (if (R230.1) = 0 then ((xq_gl 15 17 (a0) R230.2).bind fun v233 => ((xq_is 15 (a0) R230.2).bind fun _ => ((f225  f (a0) (v233) R230.2).bind fun R237 => (if (R237.1) = 0 then ((xq_gl 15 18 (a0) R237.2).bind fun v240 => ((xq_is 15 (a0) R237.2).bind fun _ => ((f225  f (a0) (v240) R237.2).bind fun R244 => (if (R244.1) = 0 then ((xq_gl 15 19 (a0) R244.2).bind fun v247 => ((xq_is 15 (a0) R244.2).bind fun _ => ((f225  f (a0) (v247) R244.2).bind fun R251 => (if (R251.1) = 0 then f238_89   f (a0) (xwr ((xwr ((v216) * (4))) + (v224))) (0) R251.2 else f238_89   f (a0) (xwr ((xwr ((v216) * (4))) + (v224))) (4) R251.2)))) else f238_89   f (a0) (xwr ((xwr ((v216) * (4))) + (v224))) (3) R244.2)))) else f238_89   f (a0) (xwr ((xwr ((v216) * (4))) + (v224))) (2) R237.2)))) else f238_89   f (a0) (xwr ((xwr ((v216) * (4))) + (v224))) (1) R230.2))))))))) else (some R213.2))))
theorem k238 {d f : Nat}   {a0 : Nat} {M : xj_M} {R : xj_M}  (h : f238  f a0 M = some R) : xT (d + 97) 238 [xR_ a0] M (xQv R) := by
  refine xT_m xr_238_e (X := (none, d + 96, none)) rfl (xa_1 (xR_cat _) xa_n) (by decide) ?_
  unfold f238 at h
  refine xe_alr (ins := .aload_n 0) (len := 1) (i := 0) (by decide +kernel) rfl rfl rfl rfl rfl ?_
  obtain ⟨_, e212, h⟩ := xbnd h
  obtain ⟨R213, e211, h⟩ := xbnd h
  refine xs_cv (i := 28) (j := 211) (ar := []) (rest := []) (r2 := xr_211) (by decide +kernel) (by decide +kernel) (by decide +kernel) xr_211_e rfl (by decide) (by decide) e212 ?_
  refine xc_i (k211 (d := d + 95)   e211) rfl (fun hi214 => ?_)
  refine xe_ifeq (off := 4) (t := 8) (by decide +kernel) (by decide) rfl hi214 (fun c215 => ?_) (fun c215 => ?_)
  · rw [if_pos c215] at h
    refine xe_alr (ins := .aload_n 0) (len := 1) (i := 0) (by decide +kernel) rfl rfl rfl rfl rfl ?_
    obtain ⟨v216, e217, h⟩ := xbnd h
    refine xs_gi (i := 259) (c := 15) (k := 23) (by decide +kernel) (by decide) (by decide +kernel) e217 rfl ?_
    refine xe_iconst (n := 4) (by decide +kernel) rfl ?_
    refine xe_imul (by decide +kernel) rfl ?_
    refine xe_alr (ins := .aload_n 0) (len := 1) (i := 0) (by decide +kernel) rfl rfl rfl rfl rfl ?_
    obtain ⟨v218, e219, h⟩ := xbnd h
    refine xs_gr (i := 197) (c := 15) (k := 22) (by decide +kernel) (by decide) (by decide +kernel) e219 rfl ?_
    obtain ⟨v220, e221, h⟩ := xbnd h
    refine xs_gr (i := 274) (c := 14) (k := 17) (by decide +kernel) (by decide) (by decide +kernel) e221 rfl ?_
    refine xe_alr (ins := .aload_n 0) (len := 1) (i := 0) (by decide +kernel) rfl rfl rfl rfl rfl ?_
    obtain ⟨v222, e223, h⟩ := xbnd h
    refine xs_gi (i := 259) (c := 15) (k := 23) (by decide +kernel) (by decide) (by decide +kernel) e223 rfl ?_
    obtain ⟨v224, e225, h⟩ := xbnd h
    refine xs_iald rfl (by decide +kernel) (xq_gi_in e223) e225 rfl ?_
    refine xe_iadd (by decide +kernel) rfl ?_
    refine xe_isr (ins := .istore_n 1) (len := 1) (i := 1) (by decide +kernel) rfl rfl rfl (by decide) (xk_k (show ¬ (0 : Nat) = 1 by decide) (Or.inr (xR_cat _)) xk_n) rfl ?_
    refine xe_alr (ins := .aload_n 0) (len := 1) (i := 0) (by decide +kernel) rfl rfl rfl rfl rfl ?_
    refine xe_alr (ins := .aload_n 0) (len := 1) (i := 0) (by decide +kernel) rfl rfl rfl rfl rfl ?_
    obtain ⟨v226, e227, h⟩ := xbnd h
    refine xs_gl (i := 141) (c := 15) (k := 16) (by decide +kernel) (by decide) (by decide +kernel) e227 rfl ?_
    obtain ⟨_, e229, h⟩ := xbnd h
    obtain ⟨R230, e228, h⟩ := xbnd h
    refine xs_cv (i := 229) (j := 225) (ar := [xZ (v226)]) (rest := []) (r2 := xr_225) (by decide +kernel) (by decide +kernel) (by decide +kernel) xr_225_e rfl (by decide) (by decide) e229 ?_
    refine xc_i (k225 (d := d + 93)  (xq_gl_in e227) e228) rfl (fun hi231 => ?_)
    refine xe_ifeq (off := 7) (t := 43) (by decide +kernel) (by decide) rfl hi231 (fun c232 => ?_) (fun c232 => ?_)
    · rw [if_pos c232] at h
      refine xe_alr (ins := .aload_n 0) (len := 1) (i := 0) (by decide +kernel) rfl rfl rfl rfl rfl ?_
      refine xe_alr (ins := .aload_n 0) (len := 1) (i := 0) (by decide +kernel) rfl rfl rfl rfl rfl ?_
      obtain ⟨v233, e234, h⟩ := xbnd h
      refine xs_gl (i := 144) (c := 15) (k := 17) (by decide +kernel) (by decide) (by decide +kernel) e234 rfl ?_
      obtain ⟨_, e236, h⟩ := xbnd h
      obtain ⟨R237, e235, h⟩ := xbnd h
      refine xs_cv (i := 229) (j := 225) (ar := [xZ (v233)]) (rest := []) (r2 := xr_225) (by decide +kernel) (by decide +kernel) (by decide +kernel) xr_225_e rfl (by decide) (by decide) e236 ?_
      refine xc_i (k225 (d := d + 93)  (xq_gl_in e234) e235) rfl (fun hi238 => ?_)
      refine xe_ifeq (off := 7) (t := 58) (by decide +kernel) (by decide) rfl hi238 (fun c239 => ?_) (fun c239 => ?_)
      · rw [if_pos c239] at h
        refine xe_alr (ins := .aload_n 0) (len := 1) (i := 0) (by decide +kernel) rfl rfl rfl rfl rfl ?_
        refine xe_alr (ins := .aload_n 0) (len := 1) (i := 0) (by decide +kernel) rfl rfl rfl rfl rfl ?_
        obtain ⟨v240, e241, h⟩ := xbnd h
        refine xs_gl (i := 147) (c := 15) (k := 18) (by decide +kernel) (by decide) (by decide +kernel) e241 rfl ?_
        obtain ⟨_, e243, h⟩ := xbnd h
        obtain ⟨R244, e242, h⟩ := xbnd h
        refine xs_cv (i := 229) (j := 225) (ar := [xZ (v240)]) (rest := []) (r2 := xr_225) (by decide +kernel) (by decide +kernel) (by decide +kernel) xr_225_e rfl (by decide) (by decide) e243 ?_
        refine xc_i (k225 (d := d + 93)  (xq_gl_in e241) e242) rfl (fun hi245 => ?_)
        refine xe_ifeq (off := 7) (t := 73) (by decide +kernel) (by decide) rfl hi245 (fun c246 => ?_) (fun c246 => ?_)
        · rw [if_pos c246] at h
          refine xe_alr (ins := .aload_n 0) (len := 1) (i := 0) (by decide +kernel) rfl rfl rfl rfl rfl ?_
          refine xe_alr (ins := .aload_n 0) (len := 1) (i := 0) (by decide +kernel) rfl rfl rfl rfl rfl ?_
          obtain ⟨v247, e248, h⟩ := xbnd h
          refine xs_gl (i := 150) (c := 15) (k := 19) (by decide +kernel) (by decide) (by decide +kernel) e248 rfl ?_
          obtain ⟨_, e250, h⟩ := xbnd h
          obtain ⟨R251, e249, h⟩ := xbnd h
          refine xs_cv (i := 229) (j := 225) (ar := [xZ (v247)]) (rest := []) (r2 := xr_225) (by decide +kernel) (by decide +kernel) (by decide +kernel) xr_225_e rfl (by decide) (by decide) e250 ?_
          refine xc_i (k225 (d := d + 93)  (xq_gl_in e248) e249) rfl (fun hi252 => ?_)
          refine xe_ifeq (off := 7) (t := 88) (by decide +kernel) (by decide) rfl hi252 (fun c253 => ?_) (fun c253 => ?_)
          · rw [if_pos c253] at h
            refine xe_iconst (n := 0) (by decide +kernel) rfl ?_
            refine xW_lv rfl (l := [(0, xR_ (a0)), (1, xI (xwr ((xwr ((v216) * (4))) + (v224))))]) (xsb_of ⟨rfl, rfl, trivial⟩ (show [1, 0].Nodup by decide)) ?_
            exact k238_89   (xin_wr _) (show xin (0) by decide) h
          · rw [if_neg c253] at h
            refine xe_iconst (n := 4) (by decide +kernel) rfl ?_
            refine xe_goto (off := 4) (nx := 89) (by decide +kernel) (by decide) ?_
            refine xW_lv rfl (l := [(0, xR_ (a0)), (1, xI (xwr ((xwr ((v216) * (4))) + (v224))))]) (xsb_of ⟨rfl, rfl, trivial⟩ (show [1, 0].Nodup by decide)) ?_
            exact k238_89   (xin_wr _) (show xin (4) by decide) h
        · rw [if_neg c246] at h
          refine xe_iconst (n := 3) (by decide +kernel) rfl ?_
          refine xe_goto (off := 19) (nx := 89) (by decide +kernel) (by decide) ?_
          refine xW_lv rfl (l := [(0, xR_ (a0)), (1, xI (xwr ((xwr ((v216) * (4))) + (v224))))]) (xsb_of ⟨rfl, rfl, trivial⟩ (show [1, 0].Nodup by decide)) ?_
          exact k238_89   (xin_wr _) (show xin (3) by decide) h
      · rw [if_neg c239] at h
        refine xe_iconst (n := 2) (by decide +kernel) rfl ?_
        refine xe_goto (off := 34) (nx := 89) (by decide +kernel) (by decide) ?_
        refine xW_lv rfl (l := [(0, xR_ (a0)), (1, xI (xwr ((xwr ((v216) * (4))) + (v224))))]) (xsb_of ⟨rfl, rfl, trivial⟩ (show [1, 0].Nodup by decide)) ?_
        exact k238_89   (xin_wr _) (show xin (2) by decide) h
    · rw [if_neg c232] at h
      refine xe_iconst (n := 1) (by decide +kernel) rfl ?_
      refine xe_goto (off := 49) (nx := 89) (by decide +kernel) (by decide) ?_
      refine xW_lv rfl (l := [(0, xR_ (a0)), (1, xI (xwr ((xwr ((v216) * (4))) + (v224))))]) (xsb_of ⟨rfl, rfl, trivial⟩ (show [1, 0].Nodup by decide)) ?_
      exact k238_89   (xin_wr _) (show xin (1) by decide) h
  · rw [if_neg c215] at h
    cases h
    exact xe_ret_v (by decide +kernel) rfl ⟨rfl, rfl⟩
-- ChangeHouseModel.readLiteral
def xr_247 : xj_mR := (15, yX15_readLiteral, cX15_readLiteral, 7, (Option.none : Option Jvm.ClassFile.FieldType), 0, false, (9, 61), (1, 12))
set_option maxRecDepth 20000 in
theorem xr_247_e : xj_row 247 = some xr_247 := rfl
def f247_261   (f : Nat) (x0 : Nat) (M : xj_M) : Option (xj_M) := ((xq_gr 15 22 (x0) M).bind fun v101 => ((xq_gr 14 21 (v101) M).bind fun v103 => ((xq_gi 15 23 (x0) M).bind fun v105 => ((xq_ai 3 (v103) (v105) M).bind fun v107 => ((xq_si (v103) (v105) (xwr ((v107) + (1))) M).bind fun M109 => (some M109))))))
theorem k247_261 {d f : Nat}     {x0 : Nat} {M : xj_M} {R : xj_M}  (h : f247_261   f x0 M = some R) : xW (d + 107) (none, d + 107, none) xr_247 (261, [(0, xR_ x0)], [], M) (xQv R) := by
  unfold f247_261 at h
  refine xe_alr (ins := .aload_n 0) (len := 1) (i := 0) (by decide +kernel) rfl rfl rfl rfl rfl ?_
  obtain ⟨v101, e102, h⟩ := xbnd h
  refine xs_gr (i := 197) (c := 15) (k := 22) (by decide +kernel) (by decide) (by decide +kernel) e102 rfl ?_
  obtain ⟨v103, e104, h⟩ := xbnd h
  refine xs_gr (i := 268) (c := 14) (k := 21) (by decide +kernel) (by decide) (by decide +kernel) e104 rfl ?_
  refine xe_alr (ins := .aload_n 0) (len := 1) (i := 0) (by decide +kernel) rfl rfl rfl rfl rfl ?_
  obtain ⟨v105, e106, h⟩ := xbnd h
  refine xs_gi (i := 259) (c := 15) (k := 23) (by decide +kernel) (by decide) (by decide +kernel) e106 rfl ?_
  refine xe_dup2r (xI_cat _) (xR_cat _) (by decide +kernel) rfl ?_
  obtain ⟨v107, e108, h⟩ := xbnd h
  refine xs_iald rfl (by decide +kernel) (xq_gi_in e106) e108 rfl ?_
  refine xe_iconst (n := 1) (by decide +kernel) rfl ?_
  refine xe_iadd (by decide +kernel) rfl ?_
  obtain ⟨M109, e110, h⟩ := xbnd h
  refine xs_iast (by decide +kernel) (xq_gi_in e106) e110 rfl ?_
  cases h
  exact xe_ret_v (by decide +kernel) rfl ⟨rfl, rfl⟩
def f247_233   (f : Nat) (x0 : Nat) (M : xj_M) : Option (xj_M) := f247_261   f (x0) M
theorem k247_233 {d f : Nat}     {x0 : Nat} {M : xj_M} {R : xj_M}  (h : f247_233   f x0 M = some R) : xW (d + 107) (none, d + 107, none) xr_247 (233, [(0, xR_ x0)], [], M) (xQv R) := by
  unfold f247_233 at h
  refine xe_goto (off := 28) (nx := 261) (by decide +kernel) (by decide) ?_
  refine xW_lv rfl (l := [(0, xR_ (x0))]) (xsb_of ⟨rfl, trivial⟩ (show [0].Nodup by decide)) ?_
  exact k247_261    h
def f247_160   (f : Nat) (x0 : Nat) (x1 : Int) (x2 : Int) (x3 : Int) (M : xj_M) : Option (xj_M) := ((xq_gi 15 24 (x0) M).bind fun v111 => ((xq_pi 15 24 (x0) (xwr ((v111) + (1))) M).bind fun M113 => ((xq_is 15 (x0) M113).bind fun _ => ((f249  f (x0) (x1) (1) (x3) (x2) M113).bind fun M117 => f247_233   f (x0) M117))))
theorem k247_160 {d f : Nat}     {x0 : Nat} {x1 : Int} {x2 : Int} {x3 : Int} {M : xj_M} {R : xj_M} (hx1 : xin x1) (hx2 : xin x2) (hx3 : xiN x3) (h : f247_160   f x0 x1 x2 x3 M = some R) : xW (d + 107) (none, d + 107, none) xr_247 (160, [(0, xR_ x0), (1, xI x1), (2, xI x2), (3, xZ x3)], [], M) (xQv R) := by
  unfold f247_160 at h
  refine xe_alr (ins := .aload_n 0) (len := 1) (i := 0) (by decide +kernel) rfl rfl rfl rfl rfl ?_
  refine xe_dupr (by decide +kernel) rfl ?_
  obtain ⟨v111, e112, h⟩ := xbnd h
  refine xs_gi (i := 262) (c := 15) (k := 24) (by decide +kernel) (by decide) (by decide +kernel) e112 rfl ?_
  refine xe_iconst (n := 1) (by decide +kernel) rfl ?_
  refine xe_iadd (by decide +kernel) rfl ?_
  obtain ⟨M113, e114, h⟩ := xbnd h
  refine xs_p (i := 262) (c := 15) (k := 24) (by decide +kernel) (by decide +kernel) (by decide +kernel) e114 rfl ?_
  refine xe_alr (ins := .aload_n 0) (len := 1) (i := 0) (by decide +kernel) rfl rfl rfl rfl rfl ?_
  refine xe_ldn (ins := .iload_n 1) (len := 1) (by decide +kernel) rfl rfl rfl rfl ?_
  refine xe_iconst (n := 1) (by decide +kernel) rfl ?_
  refine xe_ldn (ins := .lload_n 3) (len := 1) (by decide +kernel) rfl rfl rfl rfl ?_
  refine xe_ldn (ins := .iload_n 2) (len := 1) (by decide +kernel) rfl rfl rfl rfl ?_
  obtain ⟨_, e116, h⟩ := xbnd h
  obtain ⟨M117, e115, h⟩ := xbnd h
  refine xs_cv (i := 347) (j := 249) (ar := [xI (x2), xZ (x3), xI (1), xI (x1)]) (rest := []) (r2 := xr_249) (by decide +kernel) (by decide +kernel) (by decide +kernel) xr_249_e rfl (by decide) (by decide) e116 ?_
  refine xc_v (k249 (d := d + 97)  hx1 (show xin (1) by decide) hx3 hx2 e115) rfl ?_
  refine xe_goto (off := 55) (nx := 233) (by decide +kernel) (by decide) ?_
  refine xW_lv rfl (l := [(0, xR_ (x0))]) (xsb_of ⟨rfl, trivial⟩ (show [0, 1, 2, 3].Nodup by decide)) ?_
  exact k247_233    h
def f247  (f : Nat) (a0 : Nat) (M : xj_M) : Option (xj_M) := ((xq_is 15 (a0) M).bind fun _ => ((f211  f (a0) M).bind fun R121 => (if (R121.1) = 0 then ((xq_gr 15 22 (a0) R121.2).bind fun v124 => ((xq_gr 14 21 (v124) R121.2).bind fun v126 => ((xq_gi 15 23 (a0) R121.2).bind fun v128 => ((xq_ai 3 (v126) (v128) R121.2).bind fun v130 => (if ¬ (v130) = (8) then ((xq_gi 15 23 (a0) R121.2).bind fun v133 => ((xq_gr 15 22 (a0) R121.2).bind fun v135 => ((xq_gr 14 21 (v135) R121.2).bind fun v137 => ((xq_gi 15 23 (a0) R121.2).bind fun v139 => ((xq_ai 3 (v137) (v139) R121.2).bind fun v141 => ((xq_gi 15 4 (a0) R121.2).bind fun v143 => ((xq_gl 15 15 (a0) R121.2).bind fun v145 => ((xq_is 15 (a0) R121.2).bind fun _ => ((f225  f (a0) (v145) R121.2).bind fun R149 => (if (R149.1) = 0 then ((xq_is 15 (a0) R149.2).bind fun _ => ((f226  f (a0) R149.2).bind fun R154 => (if (R154.1) = 0 then ((xq_gr 15 22 (a0) R154.2).bind fun v157 => ((xq_gr 14 30 (v157) R154.2).bind fun v159 => ((xq_gr 15 22 (a0) R154.2).bind fun v161 => ((xq_gi 14 37 (v161) R154.2).bind fun v163 => ((xq_si (v159) (xwr ((xwr ((v133) * (8))) + (v141))) (v163) R154.2).bind fun M165 => ((xq_is 15 (a0) M165).bind fun _ => ((f243  f (a0) M165).bind fun M169 => ((xq_is 15 (a0) M169).bind fun _ => ((f248  f (a0) (xwr ((xwr ((v133) * (8))) + (v141))) M169).bind fun M173 => f247_261   f (a0) M173))))))))) else ((xq_gl 15 9 (a0) R154.2).bind fun v175 => ((xq_gl 15 10 (a0) R154.2).bind fun v177 => ((xq_is 15 (a0) R154.2).bind fun _ => ((f213  f (a0) R154.2).bind fun M181 => ((xq_is 15 (a0) M181).bind fun _ => ((f220  f (a0) (40) M181).bind fun R185 => (if (R185.1) = 0 then (if ¬ (v177) = (-1) then ((xq_gr 15 22 (a0) R185.2).bind fun v189 => ((xq_gr 14 30 (v189) R185.2).bind fun v191 => ((xq_gr 15 22 (a0) R185.2).bind fun v193 => ((xq_gi 14 37 (v193) R185.2).bind fun v195 => ((xq_si (v191) (xwr ((xwr ((v133) * (8))) + (v141))) (v195) R185.2).bind fun M197 => ((xq_is 15 (a0) M197).bind fun _ => ((f240  f (a0) (1) (v177) M197).bind fun M201 => ((xq_is 15 (a0) M201).bind fun _ => ((f244 (f243r f 8) f (a0) M201).bind fun M205 => ((xq_is 15 (a0) M205).bind fun _ => ((f248  f (a0) (xwr ((xwr ((v133) * (8))) + (v141))) M205).bind fun M209 => f247_233   f (a0) M209))))))))))) else ((xq_gi 15 4 (a0) R185.2).bind fun v211 => ((xq_is 15 (a0) R185.2).bind fun _ => ((f210  f (a0) (v211) R185.2).bind fun M215 => f247_233   f (a0) M215)))) else ((xq_gi 15 24 (a0) R185.2).bind fun v217 => (if ¬ (v217) = (3) then f247_160   f (a0) (xwr ((xwr ((v133) * (8))) + (v141))) (v143) (v175) R185.2 else ((xq_is 15 (a0) R185.2).bind fun _ => ((f210  f (a0) (v143) R185.2).bind fun M222 => f247_160   f (a0) (xwr ((xwr ((v133) * (8))) + (v141))) (v143) (v175) M222)))))))))))))) else ((xq_is 15 (a0) R149.2).bind fun _ => ((f213  f (a0) R149.2).bind fun M226 => ((xq_is 15 (a0) M226).bind fun _ => ((f226  f (a0) M226).bind fun R230 => (if ¬ (R230.1) = 0 then ((xq_gi 15 4 (a0) R230.2).bind fun v233 => ((xq_gl 15 9 (a0) R230.2).bind fun v235 => ((xq_is 15 (a0) R230.2).bind fun _ => ((f213  f (a0) R230.2).bind fun M239 => ((xq_is 15 (a0) M239).bind fun _ => ((f249  f (a0) (xwr ((xwr ((v133) * (8))) + (v141))) (2) (v235) (v233) M239).bind fun M243 => f247_261   f (a0) M243)))))) else ((xq_gi 15 4 (a0) R230.2).bind fun v245 => ((xq_is 15 (a0) R230.2).bind fun _ => ((f210  f (a0) (v245) R230.2).bind fun M249 => (some M249))))))))))))))))))) else ((xq_gi 15 4 (a0) R121.2).bind fun v251 => ((xq_is 15 (a0) R121.2).bind fun _ => ((f210  f (a0) (v251) R121.2).bind fun M255 => (some M255))))))))) else (some R121.2))))
theorem k247 {d f : Nat}   {a0 : Nat} {M : xj_M} {R : xj_M}  (h : f247  f a0 M = some R) : xT (d + 108) 247 [xR_ a0] M (xQv R) := by
  refine xT_m xr_247_e (X := (none, d + 107, none)) rfl (xa_1 (xR_cat _) xa_n) (by decide) ?_
  unfold f247 at h
  refine xe_alr (ins := .aload_n 0) (len := 1) (i := 0) (by decide +kernel) rfl rfl rfl rfl rfl ?_
  obtain ⟨_, e120, h⟩ := xbnd h
  obtain ⟨R121, e119, h⟩ := xbnd h
  refine xs_cv (i := 28) (j := 211) (ar := []) (rest := []) (r2 := xr_211) (by decide +kernel) (by decide +kernel) (by decide +kernel) xr_211_e rfl (by decide) (by decide) e120 ?_
  refine xc_i (k211 (d := d + 106)   e119) rfl (fun hi122 => ?_)
  refine xe_ifeq (off := 4) (t := 8) (by decide +kernel) (by decide) rfl hi122 (fun c123 => ?_) (fun c123 => ?_)
  · rw [if_pos c123] at h
    refine xe_alr (ins := .aload_n 0) (len := 1) (i := 0) (by decide +kernel) rfl rfl rfl rfl rfl ?_
    obtain ⟨v124, e125, h⟩ := xbnd h
    refine xs_gr (i := 197) (c := 15) (k := 22) (by decide +kernel) (by decide) (by decide +kernel) e125 rfl ?_
    obtain ⟨v126, e127, h⟩ := xbnd h
    refine xs_gr (i := 268) (c := 14) (k := 21) (by decide +kernel) (by decide) (by decide +kernel) e127 rfl ?_
    refine xe_alr (ins := .aload_n 0) (len := 1) (i := 0) (by decide +kernel) rfl rfl rfl rfl rfl ?_
    obtain ⟨v128, e129, h⟩ := xbnd h
    refine xs_gi (i := 259) (c := 15) (k := 23) (by decide +kernel) (by decide) (by decide +kernel) e129 rfl ?_
    obtain ⟨v130, e131, h⟩ := xbnd h
    refine xs_iald rfl (by decide +kernel) (xq_gi_in e129) e131 rfl ?_
    refine xe_bipush (n := 8) (by decide +kernel) (by decide) rfl ?_
    refine xe_icmpne (off := 12) (t := 34) (by decide +kernel) (by decide) rfl (xq_ai_in e131) (show xin (8) by decide) (fun c132 => ?_) (fun c132 => ?_)
    · rw [if_pos c132] at h
      refine xe_alr (ins := .aload_n 0) (len := 1) (i := 0) (by decide +kernel) rfl rfl rfl rfl rfl ?_
      obtain ⟨v133, e134, h⟩ := xbnd h
      refine xs_gi (i := 259) (c := 15) (k := 23) (by decide +kernel) (by decide) (by decide +kernel) e134 rfl ?_
      refine xe_bipush (n := 8) (by decide +kernel) (by decide) rfl ?_
      refine xe_imul (by decide +kernel) rfl ?_
      refine xe_alr (ins := .aload_n 0) (len := 1) (i := 0) (by decide +kernel) rfl rfl rfl rfl rfl ?_
      obtain ⟨v135, e136, h⟩ := xbnd h
      refine xs_gr (i := 197) (c := 15) (k := 22) (by decide +kernel) (by decide) (by decide +kernel) e136 rfl ?_
      obtain ⟨v137, e138, h⟩ := xbnd h
      refine xs_gr (i := 268) (c := 14) (k := 21) (by decide +kernel) (by decide) (by decide +kernel) e138 rfl ?_
      refine xe_alr (ins := .aload_n 0) (len := 1) (i := 0) (by decide +kernel) rfl rfl rfl rfl rfl ?_
      obtain ⟨v139, e140, h⟩ := xbnd h
      refine xs_gi (i := 259) (c := 15) (k := 23) (by decide +kernel) (by decide) (by decide +kernel) e140 rfl ?_
      obtain ⟨v141, e142, h⟩ := xbnd h
      refine xs_iald rfl (by decide +kernel) (xq_gi_in e140) e142 rfl ?_
      refine xe_iadd (by decide +kernel) rfl ?_
      refine xe_isr (ins := .istore_n 1) (len := 1) (i := 1) (by decide +kernel) rfl rfl rfl (by decide) (xk_k (show ¬ (0 : Nat) = 1 by decide) (Or.inr (xR_cat _)) xk_n) rfl ?_
      refine xe_alr (ins := .aload_n 0) (len := 1) (i := 0) (by decide +kernel) rfl rfl rfl rfl rfl ?_
      obtain ⟨v143, e144, h⟩ := xbnd h
      refine xs_gi (i := 43) (c := 15) (k := 4) (by decide +kernel) (by decide) (by decide +kernel) e144 rfl ?_
      refine xe_isr (ins := .istore_n 2) (len := 1) (i := 2) (by decide +kernel) rfl rfl rfl (by decide) (xk_k (show ¬ (1 : Nat) = 2 by decide) (Or.inr (xI_cat _)) (xk_k (show ¬ (0 : Nat) = 2 by decide) (Or.inl (show ¬ (0 + 1 : Nat) = 2 by decide)) xk_n)) rfl ?_
      refine xe_alr (ins := .aload_n 0) (len := 1) (i := 0) (by decide +kernel) rfl rfl rfl rfl rfl ?_
      refine xe_alr (ins := .aload_n 0) (len := 1) (i := 0) (by decide +kernel) rfl rfl rfl rfl rfl ?_
      obtain ⟨v145, e146, h⟩ := xbnd h
      refine xs_gl (i := 138) (c := 15) (k := 15) (by decide +kernel) (by decide) (by decide +kernel) e146 rfl ?_
      obtain ⟨_, e148, h⟩ := xbnd h
      obtain ⟨R149, e147, h⟩ := xbnd h
      refine xs_cv (i := 229) (j := 225) (ar := [xZ (v145)]) (rest := []) (r2 := xr_225) (by decide +kernel) (by decide +kernel) (by decide +kernel) xr_225_e rfl (by decide) (by decide) e148 ?_
      refine xc_i (k225 (d := d + 104)  (xq_gl_in e146) e147) rfl (fun hi150 => ?_)
      refine xe_ifeq (off := 48) (t := 116) (by decide +kernel) (by decide) rfl hi150 (fun c151 => ?_) (fun c151 => ?_)
      · rw [if_pos c151] at h
        refine xe_alr (ins := .aload_n 0) (len := 1) (i := 0) (by decide +kernel) rfl rfl rfl rfl rfl ?_
        obtain ⟨_, e153, h⟩ := xbnd h
        obtain ⟨R154, e152, h⟩ := xbnd h
        refine xs_cv (i := 163) (j := 226) (ar := []) (rest := []) (r2 := xr_226) (by decide +kernel) (by decide +kernel) (by decide +kernel) xr_226_e rfl (by decide) (by decide) e153 ?_
        refine xc_i (k226 (d := d + 104)   e152) rfl (fun hi155 => ?_)
        refine xe_ifeq (off := 116) (t := 236) (by decide +kernel) (by decide) rfl hi155 (fun c156 => ?_) (fun c156 => ?_)
        · rw [if_pos c156] at h
          refine xe_alr (ins := .aload_n 0) (len := 1) (i := 0) (by decide +kernel) rfl rfl rfl rfl rfl ?_
          obtain ⟨v157, e158, h⟩ := xbnd h
          refine xs_gr (i := 197) (c := 15) (k := 22) (by decide +kernel) (by decide) (by decide +kernel) e158 rfl ?_
          obtain ⟨v159, e160, h⟩ := xbnd h
          refine xs_gr (i := 351) (c := 14) (k := 30) (by decide +kernel) (by decide) (by decide +kernel) e160 rfl ?_
          refine xe_ldn (ins := .iload_n 1) (len := 1) (by decide +kernel) rfl rfl rfl rfl ?_
          refine xe_alr (ins := .aload_n 0) (len := 1) (i := 0) (by decide +kernel) rfl rfl rfl rfl rfl ?_
          obtain ⟨v161, e162, h⟩ := xbnd h
          refine xs_gr (i := 197) (c := 15) (k := 22) (by decide +kernel) (by decide) (by decide +kernel) e162 rfl ?_
          obtain ⟨v163, e164, h⟩ := xbnd h
          refine xs_gi (i := 177) (c := 14) (k := 37) (by decide +kernel) (by decide) (by decide +kernel) e164 rfl ?_
          obtain ⟨M165, e166, h⟩ := xbnd h
          refine xs_iast (by decide +kernel) (xin_wr _) e166 rfl ?_
          refine xe_alr (ins := .aload_n 0) (len := 1) (i := 0) (by decide +kernel) rfl rfl rfl rfl rfl ?_
          obtain ⟨_, e168, h⟩ := xbnd h
          obtain ⟨M169, e167, h⟩ := xbnd h
          refine xs_cv (i := 304) (j := 243) (ar := []) (rest := []) (r2 := xr_243) (by decide +kernel) (by decide +kernel) (by decide +kernel) xr_243_e rfl (by decide) (by decide) e168 ?_
          refine xc_v (k243 (d := d + 11)   e167) rfl ?_
          refine xe_alr (ins := .aload_n 0) (len := 1) (i := 0) (by decide +kernel) rfl rfl rfl rfl rfl ?_
          refine xe_ldn (ins := .iload_n 1) (len := 1) (by decide +kernel) rfl rfl rfl rfl ?_
          obtain ⟨_, e172, h⟩ := xbnd h
          obtain ⟨M173, e171, h⟩ := xbnd h
          refine xs_cv (i := 354) (j := 248) (ar := [xI (xwr ((xwr ((v133) * (8))) + (v141)))]) (rest := []) (r2 := xr_248) (by decide +kernel) (by decide +kernel) (by decide +kernel) xr_248_e rfl (by decide) (by decide) e172 ?_
          refine xc_v (k248 (d := d + 10)  (xin_wr _) e171) rfl ?_
          refine xW_lv rfl (l := [(0, xR_ (a0))]) (xsb_of ⟨rfl, trivial⟩ (show [2, 1, 0].Nodup by decide)) ?_
          exact k247_261    h
        · rw [if_neg c156] at h
          refine xe_alr (ins := .aload_n 0) (len := 1) (i := 0) (by decide +kernel) rfl rfl rfl rfl rfl ?_
          obtain ⟨v175, e176, h⟩ := xbnd h
          refine xs_gl (i := 71) (c := 15) (k := 9) (by decide +kernel) (by decide) (by decide +kernel) e176 rfl ?_
          refine xe_lsr (ins := .lstore_n 3) (len := 1) (i := 3) (by decide +kernel) rfl rfl rfl (by decide) (xk2_k (show ¬ (2 : Nat) = 3 by decide) (show ¬ (2 : Nat) = 3 + 1 by decide) (Or.inr (xI_cat _)) (xk2_k (show ¬ (1 : Nat) = 3 by decide) (show ¬ (1 : Nat) = 3 + 1 by decide) (Or.inl (show ¬ (1 + 1 : Nat) = 3 by decide)) (xk2_k (show ¬ (0 : Nat) = 3 by decide) (show ¬ (0 : Nat) = 3 + 1 by decide) (Or.inl (show ¬ (0 + 1 : Nat) = 3 by decide)) xk2_n))) rfl ?_
          refine xe_alr (ins := .aload_n 0) (len := 1) (i := 0) (by decide +kernel) rfl rfl rfl rfl rfl ?_
          obtain ⟨v177, e178, h⟩ := xbnd h
          refine xs_gl (i := 82) (c := 15) (k := 10) (by decide +kernel) (by decide) (by decide +kernel) e178 rfl ?_
          refine xe_lsr (ins := .lstore 5) (len := 2) (i := 5) (by decide +kernel) rfl rfl rfl (by decide) (xk2_k (show ¬ (3 : Nat) = 5 by decide) (show ¬ (3 : Nat) = 5 + 1 by decide) (Or.inl (show ¬ (3 + 1 : Nat) = 5 by decide)) (xk2_k (show ¬ (2 : Nat) = 5 by decide) (show ¬ (2 : Nat) = 5 + 1 by decide) (Or.inl (show ¬ (2 + 1 : Nat) = 5 by decide)) (xk2_k (show ¬ (1 : Nat) = 5 by decide) (show ¬ (1 : Nat) = 5 + 1 by decide) (Or.inl (show ¬ (1 + 1 : Nat) = 5 by decide)) (xk2_k (show ¬ (0 : Nat) = 5 by decide) (show ¬ (0 : Nat) = 5 + 1 by decide) (Or.inl (show ¬ (0 + 1 : Nat) = 5 by decide)) xk2_n)))) rfl ?_
          refine xe_alr (ins := .aload_n 0) (len := 1) (i := 0) (by decide +kernel) rfl rfl rfl rfl rfl ?_
          obtain ⟨_, e180, h⟩ := xbnd h
          obtain ⟨M181, e179, h⟩ := xbnd h
          refine xs_cv (i := 118) (j := 213) (ar := []) (rest := []) (r2 := xr_213) (by decide +kernel) (by decide +kernel) (by decide +kernel) xr_213_e rfl (by decide) (by decide) e180 ?_
          refine xc_v (k213 (d := d + 100)   e179) rfl ?_
          refine xe_alr (ins := .aload_n 0) (len := 1) (i := 0) (by decide +kernel) rfl rfl rfl rfl rfl ?_
          refine xe_bipush (n := 40) (by decide +kernel) (by decide) rfl ?_
          obtain ⟨_, e184, h⟩ := xbnd h
          obtain ⟨R185, e183, h⟩ := xbnd h
          refine xs_cv (i := 115) (j := 220) (ar := [xI (40)]) (rest := []) (r2 := xr_220) (by decide +kernel) (by decide +kernel) (by decide +kernel) xr_220_e rfl (by decide) (by decide) e184 ?_
          refine xc_i (k220 (d := d + 105)  (show xin (40) by decide) e183) rfl (fun hi186 => ?_)
          refine xe_ifeq (off := 37) (t := 181) (by decide +kernel) (by decide) rfl hi186 (fun c187 => ?_) (fun c187 => ?_)
          · rw [if_pos c187] at h
            refine xe_ldn (ins := .lload 5) (len := 2) (by decide +kernel) rfl rfl rfl rfl ?_
            refine xe_ldc2 (i := 80) (n := -1) (by decide +kernel) (by decide +kernel) rfl ?_
            refine xe_lcmp (by decide +kernel) rfl (xq_gl_in e178) (show xiN (-1) by decide) ?_
            refine xe_ifne (off := 14) (t := 201) (by decide +kernel) (by decide) rfl (xin_cmp8 _ _) (fun c188 => ?_) (fun c188 => ?_)
            · have c188 := xcmp8_ne.mp c188; rw [if_pos c188] at h
              refine xe_alr (ins := .aload_n 0) (len := 1) (i := 0) (by decide +kernel) rfl rfl rfl rfl rfl ?_
              obtain ⟨v189, e190, h⟩ := xbnd h
              refine xs_gr (i := 197) (c := 15) (k := 22) (by decide +kernel) (by decide) (by decide +kernel) e190 rfl ?_
              obtain ⟨v191, e192, h⟩ := xbnd h
              refine xs_gr (i := 351) (c := 14) (k := 30) (by decide +kernel) (by decide) (by decide +kernel) e192 rfl ?_
              refine xe_ldn (ins := .iload_n 1) (len := 1) (by decide +kernel) rfl rfl rfl rfl ?_
              refine xe_alr (ins := .aload_n 0) (len := 1) (i := 0) (by decide +kernel) rfl rfl rfl rfl rfl ?_
              obtain ⟨v193, e194, h⟩ := xbnd h
              refine xs_gr (i := 197) (c := 15) (k := 22) (by decide +kernel) (by decide) (by decide +kernel) e194 rfl ?_
              obtain ⟨v195, e196, h⟩ := xbnd h
              refine xs_gi (i := 177) (c := 14) (k := 37) (by decide +kernel) (by decide) (by decide +kernel) e196 rfl ?_
              obtain ⟨M197, e198, h⟩ := xbnd h
              refine xs_iast (by decide +kernel) (xin_wr _) e198 rfl ?_
              refine xe_alr (ins := .aload_n 0) (len := 1) (i := 0) (by decide +kernel) rfl rfl rfl rfl rfl ?_
              refine xe_iconst (n := 1) (by decide +kernel) rfl ?_
              refine xe_ldn (ins := .lload 5) (len := 2) (by decide +kernel) rfl rfl rfl rfl ?_
              obtain ⟨_, e200, h⟩ := xbnd h
              obtain ⟨M201, e199, h⟩ := xbnd h
              refine xs_cv (i := 324) (j := 240) (ar := [xZ (v177), xI (1)]) (rest := []) (r2 := xr_240) (by decide +kernel) (by decide +kernel) (by decide +kernel) xr_240_e rfl (by decide) (by decide) e200 ?_
              refine xc_v (k240 (d := d + 105)  (show xin (1) by decide) (xq_gl_in e178) e199) rfl ?_
              refine xe_alr (ins := .aload_n 0) (len := 1) (i := 0) (by decide +kernel) rfl rfl rfl rfl rfl ?_
              obtain ⟨_, e204, h⟩ := xbnd h
              obtain ⟨M205, e203, h⟩ := xbnd h
              refine xs_cv (i := 334) (j := 244) (ar := []) (rest := []) (r2 := xr_244) (by decide +kernel) (by decide +kernel) (by decide +kernel) xr_244_e rfl (by decide) (by decide) e204 ?_
              refine xc_v (k244 (d := d + 96) (fun he => k243r (d := 0) (Nat.le_trans (by omega) he))  e203) rfl ?_
              refine xe_alr (ins := .aload_n 0) (len := 1) (i := 0) (by decide +kernel) rfl rfl rfl rfl rfl ?_
              refine xe_ldn (ins := .iload_n 1) (len := 1) (by decide +kernel) rfl rfl rfl rfl ?_
              obtain ⟨_, e208, h⟩ := xbnd h
              obtain ⟨M209, e207, h⟩ := xbnd h
              refine xs_cv (i := 354) (j := 248) (ar := [xI (xwr ((xwr ((v133) * (8))) + (v141)))]) (rest := []) (r2 := xr_248) (by decide +kernel) (by decide +kernel) (by decide +kernel) xr_248_e rfl (by decide) (by decide) e208 ?_
              refine xc_v (k248 (d := d + 10)  (xin_wr _) e207) rfl ?_
              refine xW_lv rfl (l := [(0, xR_ (a0))]) (xsb_of ⟨rfl, trivial⟩ (show [5, 3, 2, 1, 0].Nodup by decide)) ?_
              exact k247_233    h
            · have c188 := (not_congr xcmp8_ne).mp c188; rw [if_neg c188] at h
              refine xe_alr (ins := .aload_n 0) (len := 1) (i := 0) (by decide +kernel) rfl rfl rfl rfl rfl ?_
              refine xe_alr (ins := .aload_n 0) (len := 1) (i := 0) (by decide +kernel) rfl rfl rfl rfl rfl ?_
              obtain ⟨v211, e212, h⟩ := xbnd h
              refine xs_gi (i := 43) (c := 15) (k := 4) (by decide +kernel) (by decide) (by decide +kernel) e212 rfl ?_
              obtain ⟨_, e214, h⟩ := xbnd h
              obtain ⟨M215, e213, h⟩ := xbnd h
              refine xs_cv (i := 35) (j := 210) (ar := [xI (v211)]) (rest := []) (r2 := xr_210) (by decide +kernel) (by decide +kernel) (by decide +kernel) xr_210_e rfl (by decide) (by decide) e214 ?_
              refine xc_v (k210 (d := d + 106)  (xq_gi_in e212) e213) rfl ?_
              refine xe_goto (off := 35) (nx := 233) (by decide +kernel) (by decide) ?_
              refine xW_lv rfl (l := [(0, xR_ (a0))]) (xsb_of ⟨rfl, trivial⟩ (show [5, 3, 2, 1, 0].Nodup by decide)) ?_
              exact k247_233    h
          · rw [if_neg c187] at h
            refine xe_alr (ins := .aload_n 0) (len := 1) (i := 0) (by decide +kernel) rfl rfl rfl rfl rfl ?_
            obtain ⟨v217, e218, h⟩ := xbnd h
            refine xs_gi (i := 262) (c := 15) (k := 24) (by decide +kernel) (by decide) (by decide +kernel) e218 rfl ?_
            refine xe_iconst (n := 3) (by decide +kernel) rfl ?_
            refine xe_icmpne (off := 8) (t := 160) (by decide +kernel) (by decide) rfl (xq_gi_in e218) (show xin (3) by decide) (fun c219 => ?_) (fun c219 => ?_)
            · rw [if_pos c219] at h
              refine xW_lv rfl (l := [(0, xR_ (a0)), (1, xI (xwr ((xwr ((v133) * (8))) + (v141)))), (2, xI (v143)), (3, xZ (v175))]) (xsb_of ⟨rfl, rfl, rfl, rfl, trivial⟩ (show [5, 3, 2, 1, 0].Nodup by decide)) ?_
              exact k247_160   (xin_wr _) (xq_gi_in e144) (xq_gl_in e176) h
            · rw [if_neg c219] at h
              refine xe_alr (ins := .aload_n 0) (len := 1) (i := 0) (by decide +kernel) rfl rfl rfl rfl rfl ?_
              refine xe_ldn (ins := .iload_n 2) (len := 1) (by decide +kernel) rfl rfl rfl rfl ?_
              obtain ⟨_, e221, h⟩ := xbnd h
              obtain ⟨M222, e220, h⟩ := xbnd h
              refine xs_cv (i := 35) (j := 210) (ar := [xI (v143)]) (rest := []) (r2 := xr_210) (by decide +kernel) (by decide +kernel) (by decide +kernel) xr_210_e rfl (by decide) (by decide) e221 ?_
              refine xc_v (k210 (d := d + 106)  (xq_gi_in e144) e220) rfl ?_
              refine xW_lv rfl (l := [(0, xR_ (a0)), (1, xI (xwr ((xwr ((v133) * (8))) + (v141)))), (2, xI (v143)), (3, xZ (v175))]) (xsb_of ⟨rfl, rfl, rfl, rfl, trivial⟩ (show [5, 3, 2, 1, 0].Nodup by decide)) ?_
              exact k247_160   (xin_wr _) (xq_gi_in e144) (xq_gl_in e176) h
      · rw [if_neg c151] at h
        refine xe_alr (ins := .aload_n 0) (len := 1) (i := 0) (by decide +kernel) rfl rfl rfl rfl rfl ?_
        obtain ⟨_, e225, h⟩ := xbnd h
        obtain ⟨M226, e224, h⟩ := xbnd h
        refine xs_cv (i := 118) (j := 213) (ar := []) (rest := []) (r2 := xr_213) (by decide +kernel) (by decide +kernel) (by decide +kernel) xr_213_e rfl (by decide) (by decide) e225 ?_
        refine xc_v (k213 (d := d + 100)   e224) rfl ?_
        refine xe_alr (ins := .aload_n 0) (len := 1) (i := 0) (by decide +kernel) rfl rfl rfl rfl rfl ?_
        obtain ⟨_, e229, h⟩ := xbnd h
        obtain ⟨R230, e228, h⟩ := xbnd h
        refine xs_cv (i := 163) (j := 226) (ar := []) (rest := []) (r2 := xr_226) (by decide +kernel) (by decide +kernel) (by decide +kernel) xr_226_e rfl (by decide) (by decide) e229 ?_
        refine xc_i (k226 (d := d + 104)   e228) rfl (fun hi231 => ?_)
        refine xe_ifne (off := 12) (t := 91) (by decide +kernel) (by decide) rfl hi231 (fun c232 => ?_) (fun c232 => ?_)
        · rw [if_pos c232] at h
          refine xe_alr (ins := .aload_n 0) (len := 1) (i := 0) (by decide +kernel) rfl rfl rfl rfl rfl ?_
          obtain ⟨v233, e234, h⟩ := xbnd h
          refine xs_gi (i := 43) (c := 15) (k := 4) (by decide +kernel) (by decide) (by decide +kernel) e234 rfl ?_
          refine xe_isr (ins := .istore_n 2) (len := 1) (i := 2) (by decide +kernel) rfl rfl rfl (by decide) (xk_d rfl (xk_k (show ¬ (1 : Nat) = 2 by decide) (Or.inr (xI_cat _)) (xk_k (show ¬ (0 : Nat) = 2 by decide) (Or.inl (show ¬ (0 + 1 : Nat) = 2 by decide)) xk_n))) rfl ?_
          refine xe_alr (ins := .aload_n 0) (len := 1) (i := 0) (by decide +kernel) rfl rfl rfl rfl rfl ?_
          obtain ⟨v235, e236, h⟩ := xbnd h
          refine xs_gl (i := 71) (c := 15) (k := 9) (by decide +kernel) (by decide) (by decide +kernel) e236 rfl ?_
          refine xe_lsr (ins := .lstore_n 3) (len := 1) (i := 3) (by decide +kernel) rfl rfl rfl (by decide) (xk2_k (show ¬ (2 : Nat) = 3 by decide) (show ¬ (2 : Nat) = 3 + 1 by decide) (Or.inr (xI_cat _)) (xk2_k (show ¬ (1 : Nat) = 3 by decide) (show ¬ (1 : Nat) = 3 + 1 by decide) (Or.inl (show ¬ (1 + 1 : Nat) = 3 by decide)) (xk2_k (show ¬ (0 : Nat) = 3 by decide) (show ¬ (0 : Nat) = 3 + 1 by decide) (Or.inl (show ¬ (0 + 1 : Nat) = 3 by decide)) xk2_n))) rfl ?_
          refine xe_alr (ins := .aload_n 0) (len := 1) (i := 0) (by decide +kernel) rfl rfl rfl rfl rfl ?_
          obtain ⟨_, e238, h⟩ := xbnd h
          obtain ⟨M239, e237, h⟩ := xbnd h
          refine xs_cv (i := 118) (j := 213) (ar := []) (rest := []) (r2 := xr_213) (by decide +kernel) (by decide +kernel) (by decide +kernel) xr_213_e rfl (by decide) (by decide) e238 ?_
          refine xc_v (k213 (d := d + 100)   e237) rfl ?_
          refine xe_alr (ins := .aload_n 0) (len := 1) (i := 0) (by decide +kernel) rfl rfl rfl rfl rfl ?_
          refine xe_ldn (ins := .iload_n 1) (len := 1) (by decide +kernel) rfl rfl rfl rfl ?_
          refine xe_iconst (n := 2) (by decide +kernel) rfl ?_
          refine xe_ldn (ins := .lload_n 3) (len := 1) (by decide +kernel) rfl rfl rfl rfl ?_
          refine xe_ldn (ins := .iload_n 2) (len := 1) (by decide +kernel) rfl rfl rfl rfl ?_
          obtain ⟨_, e242, h⟩ := xbnd h
          obtain ⟨M243, e241, h⟩ := xbnd h
          refine xs_cv (i := 347) (j := 249) (ar := [xI (v233), xZ (v235), xI (2), xI (xwr ((xwr ((v133) * (8))) + (v141)))]) (rest := []) (r2 := xr_249) (by decide +kernel) (by decide +kernel) (by decide +kernel) xr_249_e rfl (by decide) (by decide) e242 ?_
          refine xc_v (k249 (d := d + 97)  (xin_wr _) (show xin (2) by decide) (xq_gl_in e236) (xq_gi_in e234) e241) rfl ?_
          refine xe_goto (off := 148) (nx := 261) (by decide +kernel) (by decide) ?_
          refine xW_lv rfl (l := [(0, xR_ (a0))]) (xsb_of ⟨rfl, trivial⟩ (show [3, 2, 1, 0].Nodup by decide)) ?_
          exact k247_261    h
        · rw [if_neg c232] at h
          refine xe_alr (ins := .aload_n 0) (len := 1) (i := 0) (by decide +kernel) rfl rfl rfl rfl rfl ?_
          refine xe_alr (ins := .aload_n 0) (len := 1) (i := 0) (by decide +kernel) rfl rfl rfl rfl rfl ?_
          obtain ⟨v245, e246, h⟩ := xbnd h
          refine xs_gi (i := 43) (c := 15) (k := 4) (by decide +kernel) (by decide) (by decide +kernel) e246 rfl ?_
          obtain ⟨_, e248, h⟩ := xbnd h
          obtain ⟨M249, e247, h⟩ := xbnd h
          refine xs_cv (i := 35) (j := 210) (ar := [xI (v245)]) (rest := []) (r2 := xr_210) (by decide +kernel) (by decide +kernel) (by decide +kernel) xr_210_e rfl (by decide) (by decide) e248 ?_
          refine xc_v (k210 (d := d + 106)  (xq_gi_in e246) e247) rfl ?_
          cases h
          exact xe_ret_v (by decide +kernel) rfl ⟨rfl, rfl⟩
    · rw [if_neg c132] at h
      refine xe_alr (ins := .aload_n 0) (len := 1) (i := 0) (by decide +kernel) rfl rfl rfl rfl rfl ?_
      refine xe_alr (ins := .aload_n 0) (len := 1) (i := 0) (by decide +kernel) rfl rfl rfl rfl rfl ?_
      obtain ⟨v251, e252, h⟩ := xbnd h
      refine xs_gi (i := 43) (c := 15) (k := 4) (by decide +kernel) (by decide) (by decide +kernel) e252 rfl ?_
      obtain ⟨_, e254, h⟩ := xbnd h
      obtain ⟨M255, e253, h⟩ := xbnd h
      refine xs_cv (i := 35) (j := 210) (ar := [xI (v251)]) (rest := []) (r2 := xr_210) (by decide +kernel) (by decide +kernel) (by decide +kernel) xr_210_e rfl (by decide) (by decide) e254 ?_
      refine xc_v (k210 (d := d + 106)  (xq_gi_in e252) e253) rfl ?_
      cases h
      exact xe_ret_v (by decide +kernel) rfl ⟨rfl, rfl⟩
  · rw [if_neg c123] at h
    cases h
    exact xe_ret_v (by decide +kernel) rfl ⟨rfl, rfl⟩
-- ChangeHouseModel.formula
def f334_5b (q334 : Nat → xj_M → Option (Int × xj_M)) (r5 : Nat → Int → xj_M → Option (Int × xj_M)) (f : Nat) (x0 : Nat) (x1 : Int) (M : xj_M) : Option (Int × xj_M) := ((xq_is 15 (x0) M).bind fun _ => ((f242  f (x0) (0) M).bind fun R103 => (if (R103.1) = 0 then (some (x1, R103.2)) else ((xq_gi 15 3 (x0) R103.2).bind fun v106 => ((xq_is 15 (x0) R103.2).bind fun _ => ((f213  f (x0) R103.2).bind fun M110 => ((xq_is 15 (x0) M110).bind fun _ => ((f335 q334 f (x0) M110).bind fun R114 => ((xq_is 15 (x0) R114.2).bind fun _ => ((f331  f (x0) (3) (x1) (R114.1) (v106) (0) R114.2).bind fun R118 => r5 (x0) (R118.1) R118.2))))))))))
theorem k334_5b {d f : Nat} {q334 : Nat → xj_M → Option (Int × xj_M)} {r5 : Nat → Int → xj_M → Option (Int × xj_M)} (hq334 : ∀ {e : Nat} {a0 : Nat} {M : xj_M} {R : Int × xj_M}, d ≤ e → q334 a0 M = some R → xT e 334 [xR_ a0] M (xQi R)) (hr5 : ∀ {x0 : Nat} {x1 : Int} {M : xj_M} {R : Int × xj_M}, xin x1 → r5 x0 x1 M = some R → xW (d + 12) (none, d + 12, none) xr_334 (5, [(0, xR_ x0), (1, xI x1)], [], M) (xQi R)) {x0 : Nat} {x1 : Int} {M : xj_M} {R : Int × xj_M} (hx1 : xin x1) (h : f334_5b q334 r5 f x0 x1 M = some R) : xW (d + 12) (none, d + 12, none) xr_334 (5, [(0, xR_ x0), (1, xI x1)], [], M) (xQi R) := by
  unfold f334_5b at h
  refine xe_alr (ins := .aload_n 0) (len := 1) (i := 0) (by decide +kernel) rfl rfl rfl rfl rfl ?_
  refine xe_iconst (n := 0) (by decide +kernel) rfl ?_
  obtain ⟨_, e102, h⟩ := xbnd h
  obtain ⟨R103, e101, h⟩ := xbnd h
  refine xs_cv (i := 340) (j := 242) (ar := [xI (0)]) (rest := []) (r2 := xr_242) (by decide +kernel) (by decide +kernel) (by decide +kernel) xr_242_e rfl (by decide) (by decide) e102 ?_
  refine xc_i (k242 (d := d + 9)  (show xin (0) by decide) e101) rfl (fun hi104 => ?_)
  refine xe_ifeq (off := 30) (t := 40) (by decide +kernel) (by decide) rfl hi104 (fun c105 => ?_) (fun c105 => ?_)
  · rw [if_pos c105] at h
    refine xe_ldn (ins := .iload_n 1) (len := 1) (by decide +kernel) rfl rfl rfl rfl ?_
    cases h
    exact xe_ret_i (ty := .int) (by decide +kernel) rfl rfl ⟨rfl, rfl, hx1⟩
  · rw [if_neg c105] at h
    refine xe_alr (ins := .aload_n 0) (len := 1) (i := 0) (by decide +kernel) rfl rfl rfl rfl rfl ?_
    obtain ⟨v106, e107, h⟩ := xbnd h
    refine xs_gi (i := 105) (c := 15) (k := 3) (by decide +kernel) (by decide) (by decide +kernel) e107 rfl ?_
    refine xe_isr (ins := .istore_n 2) (len := 1) (i := 2) (by decide +kernel) rfl rfl rfl (by decide) (xk_k (show ¬ (0 : Nat) = 2 by decide) (Or.inl (show ¬ (0 + 1 : Nat) = 2 by decide)) (xk_k (show ¬ (1 : Nat) = 2 by decide) (Or.inr (xI_cat _)) xk_n)) rfl ?_
    refine xe_alr (ins := .aload_n 0) (len := 1) (i := 0) (by decide +kernel) rfl rfl rfl rfl rfl ?_
    obtain ⟨_, e109, h⟩ := xbnd h
    obtain ⟨M110, e108, h⟩ := xbnd h
    refine xs_cv (i := 118) (j := 213) (ar := []) (rest := []) (r2 := xr_213) (by decide +kernel) (by decide +kernel) (by decide +kernel) xr_213_e rfl (by decide) (by decide) e109 ?_
    refine xc_v (k213 (d := d + 5)   e108) rfl ?_
    refine xe_alr (ins := .aload_n 0) (len := 1) (i := 0) (by decide +kernel) rfl rfl rfl rfl rfl ?_
    obtain ⟨_, e113, h⟩ := xbnd h
    obtain ⟨R114, e112, h⟩ := xbnd h
    refine xs_cv (i := 970) (j := 335) (ar := []) (rest := []) (r2 := xr_335) (by decide +kernel) (by decide +kernel) (by decide +kernel) xr_335_e rfl (by decide) (by decide) e113 ?_
    refine xc_i (k335 (d := d + 0) (fun he => hq334 (Nat.le_trans (by omega) he))  e112) rfl (fun hi115 => ?_)
    refine xe_isr (ins := .istore_n 3) (len := 1) (i := 3) (by decide +kernel) rfl rfl rfl (by decide) (xk_k (show ¬ (2 : Nat) = 3 by decide) (Or.inr (xI_cat _)) (xk_k (show ¬ (0 : Nat) = 3 by decide) (Or.inl (show ¬ (0 + 1 : Nat) = 3 by decide)) (xk_k (show ¬ (1 : Nat) = 3 by decide) (Or.inl (show ¬ (1 + 1 : Nat) = 3 by decide)) xk_n))) rfl ?_
    refine xe_alr (ins := .aload_n 0) (len := 1) (i := 0) (by decide +kernel) rfl rfl rfl rfl rfl ?_
    refine xe_iconst (n := 3) (by decide +kernel) rfl ?_
    refine xe_ldn (ins := .iload_n 1) (len := 1) (by decide +kernel) rfl rfl rfl rfl ?_
    refine xe_ldn (ins := .iload_n 3) (len := 1) (by decide +kernel) rfl rfl rfl rfl ?_
    refine xe_ldn (ins := .iload_n 2) (len := 1) (by decide +kernel) rfl rfl rfl rfl ?_
    refine xe_lconst (n := 0) (z := 0) (by decide +kernel) rfl rfl ?_
    obtain ⟨_, e117, h⟩ := xbnd h
    obtain ⟨R118, e116, h⟩ := xbnd h
    refine xs_cv (i := 973) (j := 331) (ar := [xZ (0), xI (v106), xI (R114.1), xI (x1), xI (3)]) (rest := []) (r2 := xr_331) (by decide +kernel) (by decide +kernel) (by decide +kernel) xr_331_e rfl (by decide) (by decide) e117 ?_
    refine xc_i (k331 (d := d + 11)  (show xin (3) by decide) hx1 hi115 (xq_gi_in e107) (show xiN (0) by decide) e116) rfl (fun hi119 => ?_)
    refine xe_isr (ins := .istore_n 1) (len := 1) (i := 1) (by decide +kernel) rfl rfl rfl (by decide) (xk_k (show ¬ (3 : Nat) = 1 by decide) (Or.inl (show ¬ (3 + 1 : Nat) = 1 by decide)) (xk_k (show ¬ (2 : Nat) = 1 by decide) (Or.inl (show ¬ (2 + 1 : Nat) = 1 by decide)) (xk_k (show ¬ (0 : Nat) = 1 by decide) (Or.inr (xR_cat _)) (xk_d rfl xk_n)))) rfl ?_
    refine xe_goto (off := -32) (nx := 5) (by decide +kernel) (by decide) ?_
    refine xW_lv rfl (l := [(0, xR_ (x0)), (1, xI (R118.1))]) (xsb_of ⟨rfl, rfl, trivial⟩ (show [1, 3, 2, 0].Nodup by decide)) ?_
    exact hr5 hi119 h
def f334_5 (q334 : Nat → xj_M → Option (Int × xj_M))  (f : Nat) : Nat → Nat → Int → xj_M → Option (Int × xj_M)
  | 0, _, _, _ => none
  | n + 1, x0, x1, M => f334_5b q334  (f334_5 q334  f n) f x0 x1 M
theorem k334_5 {d f : Nat} {q334 : Nat → xj_M → Option (Int × xj_M)}  (hq334 : ∀ {e : Nat} {a0 : Nat} {M : xj_M} {R : Int × xj_M}, d ≤ e → q334 a0 M = some R → xT e 334 [xR_ a0] M (xQi R))  : ∀ {n : Nat} {x0 : Nat} {x1 : Int} {M : xj_M} {R : Int × xj_M}, xin x1 → f334_5 q334  f n x0 x1 M = some R → xW (d + 12) (none, d + 12, none) xr_334 (5, [(0, xR_ x0), (1, xI x1)], [], M) (xQi R) := by
  intro n
  induction n with
  | zero => intros; rename_i h; cases h
  | succ n ih => intros; rename_i h; exact k334_5b hq334  ih (by assumption) h
def f334b (q334 : Nat → xj_M → Option (Int × xj_M)) (f : Nat) (a0 : Nat) (M : xj_M) : Option (Int × xj_M) := ((xq_is 15 (a0) M).bind fun _ => ((f335 q334 f (a0) M).bind fun R122 => f334_5 q334  f f (a0) (R122.1) R122.2))
theorem k334b {d f : Nat} {q334 : Nat → xj_M → Option (Int × xj_M)} (hq334 : ∀ {e : Nat} {a0 : Nat} {M : xj_M} {R : Int × xj_M}, d ≤ e → q334 a0 M = some R → xT e 334 [xR_ a0] M (xQi R)) {a0 : Nat} {M : xj_M} {R : Int × xj_M}  (h : f334b q334 f a0 M = some R) : xT (d + 13) 334 [xR_ a0] M (xQi R) := by
  refine xT_m xr_334_e (X := (none, d + 12, none)) rfl (xa_1 (xR_cat _) xa_n) (by decide) ?_
  unfold f334b at h
  refine xe_alr (ins := .aload_n 0) (len := 1) (i := 0) (by decide +kernel) rfl rfl rfl rfl rfl ?_
  obtain ⟨_, e121, h⟩ := xbnd h
  obtain ⟨R122, e120, h⟩ := xbnd h
  refine xs_cv (i := 970) (j := 335) (ar := []) (rest := []) (r2 := xr_335) (by decide +kernel) (by decide +kernel) (by decide +kernel) xr_335_e rfl (by decide) (by decide) e121 ?_
  refine xc_i (k335 (d := d + 0) (fun he => hq334 (Nat.le_trans (by omega) he))  e120) rfl (fun hi123 => ?_)
  refine xe_isr (ins := .istore_n 1) (len := 1) (i := 1) (by decide +kernel) rfl rfl rfl (by decide) (xk_k (show ¬ (0 : Nat) = 1 by decide) (Or.inr (xR_cat _)) xk_n) rfl ?_
  refine xW_lv rfl (l := [(0, xR_ (a0)), (1, xI (R122.1))]) (xsb_of ⟨rfl, rfl, trivial⟩ (show [1, 0].Nodup by decide)) ?_
  exact k334_5 hq334  hi123 h
def f334r (f : Nat) : Nat → Nat → xj_M → Option (Int × xj_M)
  | 0, _, _ => none
  | n + 1, a0, M => f334b (f334r f n) f a0 M
theorem k334r {f : Nat} : ∀ {n d e : Nat} {a0 : Nat} {M : xj_M} {R : Int × xj_M}, d + 13 * n ≤ e → f334r f n a0 M = some R → xT e 334 [xR_ a0] M (xQi R) := by
  intro n
  induction n with
  | zero => intros; rename_i h; cases h
  | succ n ih =>
    intro d e
    intros
    rename_i h
    obtain ⟨d2, rfl⟩ : ∃ d2, e = d2 + 13 := ⟨e - 13, by omega⟩
    refine k334b (d := d2) ?_  h
    intros
    rename_i g
    exact ih (d := d) (by omega)  g
def f334 (f : Nat) (a0 : Nat) (M : xj_M) : Option (Int × xj_M) := f334r f 8 a0 M
theorem k334 {d f : Nat} {a0 : Nat} {M : xj_M} {R : Int × xj_M}  (h : f334 f a0 M = some R) : xT (d + 104) 334 [xR_ a0] M (xQi R) := k334r (d := 0) (by omega)  h
-- ChangeHouseModel.readLiterals
def xr_246 : xj_mR := (15, yX15_readLiterals, cX15_readLiterals, 1, (Option.none : Option Jvm.ClassFile.FieldType), 0, false, (9, 57), (1, 12))
set_option maxRecDepth 20000 in
theorem xr_246_e : xj_row 246 = some xr_246 := rfl
def f246_4b  (r4 : Nat → xj_M → Option (xj_M)) (f : Nat) (x0 : Nat) (M : xj_M) : Option (xj_M) := ((xq_is 15 (x0) M).bind fun _ => ((f220  f (x0) (44) M).bind fun R103 => (if (R103.1) = 0 then (some R103.2) else ((xq_is 15 (x0) R103.2).bind fun _ => ((f213  f (x0) R103.2).bind fun M108 => ((xq_is 15 (x0) M108).bind fun _ => ((f247  f (x0) M108).bind fun M112 => r4 (x0) M112)))))))
theorem k246_4b {d f : Nat}  {r4 : Nat → xj_M → Option (xj_M)}  (hr4 : ∀ {x0 : Nat} {M : xj_M} {R : xj_M}, r4 x0 M = some R → xW (d + 108) (none, d + 108, none) xr_246 (4, [(0, xR_ x0)], [], M) (xQv R)) {x0 : Nat} {M : xj_M} {R : xj_M}  (h : f246_4b  r4 f x0 M = some R) : xW (d + 108) (none, d + 108, none) xr_246 (4, [(0, xR_ x0)], [], M) (xQv R) := by
  unfold f246_4b at h
  refine xe_alr (ins := .aload_n 0) (len := 1) (i := 0) (by decide +kernel) rfl rfl rfl rfl rfl ?_
  refine xe_bipush (n := 44) (by decide +kernel) (by decide) rfl ?_
  obtain ⟨_, e102, h⟩ := xbnd h
  obtain ⟨R103, e101, h⟩ := xbnd h
  refine xs_cv (i := 115) (j := 220) (ar := [xI (44)]) (rest := []) (r2 := xr_220) (by decide +kernel) (by decide +kernel) (by decide +kernel) xr_220_e rfl (by decide) (by decide) e102 ?_
  refine xc_i (k220 (d := d + 106)  (show xin (44) by decide) e101) rfl (fun hi104 => ?_)
  refine xe_ifeq (off := 14) (t := 24) (by decide +kernel) (by decide) rfl hi104 (fun c105 => ?_) (fun c105 => ?_)
  · rw [if_pos c105] at h
    cases h
    exact xe_ret_v (by decide +kernel) rfl ⟨rfl, rfl⟩
  · rw [if_neg c105] at h
    refine xe_alr (ins := .aload_n 0) (len := 1) (i := 0) (by decide +kernel) rfl rfl rfl rfl rfl ?_
    obtain ⟨_, e107, h⟩ := xbnd h
    obtain ⟨M108, e106, h⟩ := xbnd h
    refine xs_cv (i := 118) (j := 213) (ar := []) (rest := []) (r2 := xr_213) (by decide +kernel) (by decide +kernel) (by decide +kernel) xr_213_e rfl (by decide) (by decide) e107 ?_
    refine xc_v (k213 (d := d + 101)   e106) rfl ?_
    refine xe_alr (ins := .aload_n 0) (len := 1) (i := 0) (by decide +kernel) rfl rfl rfl rfl rfl ?_
    obtain ⟨_, e111, h⟩ := xbnd h
    obtain ⟨M112, e110, h⟩ := xbnd h
    refine xs_cv (i := 344) (j := 247) (ar := []) (rest := []) (r2 := xr_247) (by decide +kernel) (by decide +kernel) (by decide +kernel) xr_247_e rfl (by decide) (by decide) e111 ?_
    refine xc_v (k247 (d := d + 0)   e110) rfl ?_
    refine xe_goto (off := -17) (nx := 4) (by decide +kernel) (by decide) ?_
    refine xW_lv rfl (l := [(0, xR_ (x0))]) (xsb_of ⟨rfl, trivial⟩ (show [0].Nodup by decide)) ?_
    exact hr4  h
def f246_4   (f : Nat) : Nat → Nat → xj_M → Option (xj_M)
  | 0, _, _ => none
  | n + 1, x0, M => f246_4b   (f246_4   f n) f x0 M
theorem k246_4 {d f : Nat}     : ∀ {n : Nat} {x0 : Nat} {M : xj_M} {R : xj_M}, f246_4   f n x0 M = some R → xW (d + 108) (none, d + 108, none) xr_246 (4, [(0, xR_ x0)], [], M) (xQv R) := by
  intro n
  induction n with
  | zero => intros; rename_i h; cases h
  | succ n ih => intros; rename_i h; exact k246_4b   ih  h
def f246  (f : Nat) (a0 : Nat) (M : xj_M) : Option (xj_M) := ((xq_is 15 (a0) M).bind fun _ => ((f247  f (a0) M).bind fun M116 => f246_4   f f (a0) M116))
theorem k246 {d f : Nat}   {a0 : Nat} {M : xj_M} {R : xj_M}  (h : f246  f a0 M = some R) : xT (d + 109) 246 [xR_ a0] M (xQv R) := by
  refine xT_m xr_246_e (X := (none, d + 108, none)) rfl (xa_1 (xR_cat _) xa_n) (by decide) ?_
  unfold f246 at h
  refine xe_alr (ins := .aload_n 0) (len := 1) (i := 0) (by decide +kernel) rfl rfl rfl rfl rfl ?_
  obtain ⟨_, e115, h⟩ := xbnd h
  obtain ⟨M116, e114, h⟩ := xbnd h
  refine xs_cv (i := 344) (j := 247) (ar := []) (rest := []) (r2 := xr_247) (by decide +kernel) (by decide +kernel) (by decide +kernel) xr_247_e rfl (by decide) (by decide) e115 ?_
  refine xc_v (k247 (d := d + 0)   e114) rfl ?_
  refine xW_lv rfl (l := [(0, xR_ (a0))]) (xsb_of ⟨rfl, trivial⟩ (show [0].Nodup by decide)) ?_
  exact k246_4    h
-- ChangeHouseModel.readCell
def xr_333 : xj_mR := (15, yX15_readCell, cX15_readCell, 5, (Option.some Jvm.ClassFile.FieldType.int), 3, false, (10, 93), (1, 12))
set_option maxRecDepth 20000 in
theorem xr_333_e : xj_row 333 = some xr_333 := rfl
def f333_85   (f : Nat) (x4 : Int) (M : xj_M) : Option (Int × xj_M) := (some (x4, M))
theorem k333_85 {d f : Nat}     {x4 : Int} {M : xj_M} {R : Int × xj_M} (hx4 : xin x4) (h : f333_85   f x4 M = some R) : xW (d + 104) (none, d + 104, none) xr_333 (85, [(4, xI x4)], [], M) (xQi R) := by
  unfold f333_85 at h
  refine xe_ldn (ins := .iload 4) (len := 2) (by decide +kernel) rfl rfl rfl rfl ?_
  cases h
  exact xe_ret_i (ty := .int) (by decide +kernel) rfl rfl ⟨rfl, rfl, hx4⟩
def f333_57   (f : Nat) (x0 : Nat) (M : xj_M) : Option (Int × xj_M) := ((xq_is 15 (x0) M).bind fun _ => ((f334  f (x0) M).bind fun R103 => ((xq_is 15 (x0) R103.2).bind fun _ => ((f211  f (x0) R103.2).bind fun R107 => (if ¬ (R107.1) = 0 then f333_85   f (R103.1) R107.2 else ((xq_gi 15 2 (x0) R107.2).bind fun v110 => (if (v110) = 0 then f333_85   f (R103.1) R107.2 else ((xq_gi 15 4 (x0) R107.2).bind fun v113 => ((xq_is 15 (x0) R107.2).bind fun _ => ((f210  f (x0) (v113) R107.2).bind fun M117 => f333_85   f (R103.1) M117))))))))))
theorem k333_57 {d f : Nat}     {x0 : Nat} {M : xj_M} {R : Int × xj_M}  (h : f333_57   f x0 M = some R) : xW (d + 104) (none, d + 104, none) xr_333 (57, [(0, xR_ x0)], [], M) (xQi R) := by
  unfold f333_57 at h
  refine xe_alr (ins := .aload_n 0) (len := 1) (i := 0) (by decide +kernel) rfl rfl rfl rfl rfl ?_
  obtain ⟨_, e102, h⟩ := xbnd h
  obtain ⟨R103, e101, h⟩ := xbnd h
  refine xs_cv (i := 967) (j := 334) (ar := []) (rest := []) (r2 := xr_334) (by decide +kernel) (by decide +kernel) (by decide +kernel) xr_334_e rfl (by decide) (by decide) e102 ?_
  refine xc_i (k334 (d := d + 0)   e101) rfl (fun hi104 => ?_)
  refine xe_isr (ins := .istore 4) (len := 2) (i := 4) (by decide +kernel) rfl rfl rfl (by decide) (xk_k (show ¬ (0 : Nat) = 4 by decide) (Or.inl (show ¬ (0 + 1 : Nat) = 4 by decide)) xk_n) rfl ?_
  refine xe_alr (ins := .aload_n 0) (len := 1) (i := 0) (by decide +kernel) rfl rfl rfl rfl rfl ?_
  obtain ⟨_, e106, h⟩ := xbnd h
  obtain ⟨R107, e105, h⟩ := xbnd h
  refine xs_cv (i := 28) (j := 211) (ar := []) (rest := []) (r2 := xr_211) (by decide +kernel) (by decide +kernel) (by decide +kernel) xr_211_e rfl (by decide) (by decide) e106 ?_
  refine xc_i (k211 (d := d + 103)   e105) rfl (fun hi108 => ?_)
  refine xe_ifne (off := 18) (t := 85) (by decide +kernel) (by decide) rfl hi108 (fun c109 => ?_) (fun c109 => ?_)
  · rw [if_pos c109] at h
    refine xW_lv rfl (l := [(4, xI (R103.1))]) (xsb_of ⟨rfl, trivial⟩ (show [4, 0].Nodup by decide)) ?_
    exact k333_85   hi104 h
  · rw [if_neg c109] at h
    refine xe_alr (ins := .aload_n 0) (len := 1) (i := 0) (by decide +kernel) rfl rfl rfl rfl rfl ?_
    obtain ⟨v110, e111, h⟩ := xbnd h
    refine xs_gi (i := 46) (c := 15) (k := 2) (by decide +kernel) (by decide) (by decide +kernel) e111 rfl ?_
    refine xe_ifeq (off := 11) (t := 85) (by decide +kernel) (by decide) rfl (xq_gi_in e111) (fun c112 => ?_) (fun c112 => ?_)
    · rw [if_pos c112] at h
      refine xW_lv rfl (l := [(4, xI (R103.1))]) (xsb_of ⟨rfl, trivial⟩ (show [4, 0].Nodup by decide)) ?_
      exact k333_85   hi104 h
    · rw [if_neg c112] at h
      refine xe_alr (ins := .aload_n 0) (len := 1) (i := 0) (by decide +kernel) rfl rfl rfl rfl rfl ?_
      refine xe_alr (ins := .aload_n 0) (len := 1) (i := 0) (by decide +kernel) rfl rfl rfl rfl rfl ?_
      obtain ⟨v113, e114, h⟩ := xbnd h
      refine xs_gi (i := 43) (c := 15) (k := 4) (by decide +kernel) (by decide) (by decide +kernel) e114 rfl ?_
      obtain ⟨_, e116, h⟩ := xbnd h
      obtain ⟨M117, e115, h⟩ := xbnd h
      refine xs_cv (i := 35) (j := 210) (ar := [xI (v113)]) (rest := []) (r2 := xr_210) (by decide +kernel) (by decide +kernel) (by decide +kernel) xr_210_e rfl (by decide) (by decide) e116 ?_
      refine xc_v (k210 (d := d + 103)  (xq_gi_in e114) e115) rfl ?_
      refine xW_lv rfl (l := [(4, xI (R103.1))]) (xsb_of ⟨rfl, trivial⟩ (show [4, 0].Nodup by decide)) ?_
      exact k333_85   hi104 h
def f333  (f : Nat) (a0 : Nat) (a1 : Nat) (a2 : Int) (a3 : Int) (M : xj_M) : Option (Int × xj_M) := ((xq_is 15 (a0) M).bind fun _ => ((f212  f (a0) (a1) (a2) (a3) M).bind fun M121 => ((xq_pi 15 89 (a0) (0) M121).bind fun M123 => ((xq_pi 15 25 (a0) (0) M123).bind fun M125 => ((xq_is 15 (a0) M125).bind fun _ => ((f332  f (a0) M125).bind fun R129 => ((xq_pi 15 90 (a0) (R129.1) R129.2).bind fun M131 => ((xq_pi 15 11 (a0) (1) M131).bind fun M133 => ((xq_pi 15 8 (a0) (0) M133).bind fun M135 => ((xq_is 15 (a0) M135).bind fun _ => ((f222  f (a0) (61) M135).bind fun M139 => ((xq_is 15 (a0) M139).bind fun _ => ((f211  f (a0) M139).bind fun R143 => (if ¬ (R143.1) = 0 then f333_57   f (a0) R143.2 else ((xq_gi 15 2 (a0) R143.2).bind fun v146 => (if ¬ (v146) = 0 then f333_57   f (a0) R143.2 else (some (-1, R143.2))))))))))))))))))
theorem k333 {d f : Nat}   {a0 : Nat} {a1 : Nat} {a2 : Int} {a3 : Int} {M : xj_M} {R : Int × xj_M} (ha2 : xin a2) (ha3 : xin a3) (h : f333  f a0 a1 a2 a3 M = some R) : xT (d + 105) 333 [xR_ a0, xR_ a1, xI a2, xI a3] M (xQi R) := by
  refine xT_m xr_333_e (X := (none, d + 104, none)) rfl (xa_1 (xR_cat _) (xa_1 (xR_cat _) (xa_1 (xI_cat _) (xa_1 (xI_cat _) xa_n)))) (by decide) ?_
  unfold f333 at h
  refine xe_alr (ins := .aload_n 0) (len := 1) (i := 0) (by decide +kernel) rfl rfl rfl rfl rfl ?_
  refine xe_alr (ins := .aload_n 1) (len := 1) (i := 1) (by decide +kernel) rfl rfl rfl rfl rfl ?_
  refine xe_ldn (ins := .iload_n 2) (len := 1) (by decide +kernel) rfl rfl rfl rfl ?_
  refine xe_ldn (ins := .iload_n 3) (len := 1) (by decide +kernel) rfl rfl rfl rfl ?_
  obtain ⟨_, e120, h⟩ := xbnd h
  obtain ⟨M121, e119, h⟩ := xbnd h
  refine xs_cv (i := 225) (j := 212) (ar := [xI (a3), xI (a2), xR_ (a1)]) (rest := []) (r2 := xr_212) (by decide +kernel) (by decide +kernel) (by decide +kernel) xr_212_e rfl (by decide) (by decide) e120 ?_
  refine xc_v (k212 (d := d + 97)  ha2 ha3 e119) rfl ?_
  refine xe_alr (ins := .aload_n 0) (len := 1) (i := 0) (by decide +kernel) rfl rfl rfl rfl rfl ?_
  refine xe_iconst (n := 0) (by decide +kernel) rfl ?_
  obtain ⟨M123, e124, h⟩ := xbnd h
  refine xs_p (i := 946) (c := 15) (k := 89) (by decide +kernel) (by decide +kernel) (by decide +kernel) e124 rfl ?_
  refine xe_alr (ins := .aload_n 0) (len := 1) (i := 0) (by decide +kernel) rfl rfl rfl rfl rfl ?_
  refine xe_iconst (n := 0) (by decide +kernel) rfl ?_
  obtain ⟨M125, e126, h⟩ := xbnd h
  refine xs_p (i := 265) (c := 15) (k := 25) (by decide +kernel) (by decide +kernel) (by decide +kernel) e126 rfl ?_
  refine xe_alr (ins := .aload_n 0) (len := 1) (i := 0) (by decide +kernel) rfl rfl rfl rfl rfl ?_
  refine xe_alr (ins := .aload_n 0) (len := 1) (i := 0) (by decide +kernel) rfl rfl rfl rfl rfl ?_
  obtain ⟨_, e128, h⟩ := xbnd h
  obtain ⟨R129, e127, h⟩ := xbnd h
  refine xs_cv (i := 961) (j := 332) (ar := []) (rest := [xR_ (a0)]) (r2 := xr_332) (by decide +kernel) (by decide +kernel) (by decide +kernel) xr_332_e rfl (by decide) (by simp only [List.map_cons, List.map_nil, List.sum_cons, List.sum_nil, xR_cat, xI_cat, xZ_cat]; decide) e128 ?_
  refine xc_i (k332 (d := d + 96)   e127) rfl (fun hi130 => ?_)
  obtain ⟨M131, e132, h⟩ := xbnd h
  refine xs_p (i := 964) (c := 15) (k := 90) (by decide +kernel) (by decide +kernel) (by decide +kernel) e132 rfl ?_
  refine xe_alr (ins := .aload_n 0) (len := 1) (i := 0) (by decide +kernel) rfl rfl rfl rfl rfl ?_
  refine xe_iconst (n := 1) (by decide +kernel) rfl ?_
  obtain ⟨M133, e134, h⟩ := xbnd h
  refine xs_p (i := 20) (c := 15) (k := 11) (by decide +kernel) (by decide +kernel) (by decide +kernel) e134 rfl ?_
  refine xe_alr (ins := .aload_n 0) (len := 1) (i := 0) (by decide +kernel) rfl rfl rfl rfl rfl ?_
  refine xe_iconst (n := 0) (by decide +kernel) rfl ?_
  obtain ⟨M135, e136, h⟩ := xbnd h
  refine xs_p (i := 17) (c := 15) (k := 8) (by decide +kernel) (by decide +kernel) (by decide +kernel) e136 rfl ?_
  refine xe_alr (ins := .aload_n 0) (len := 1) (i := 0) (by decide +kernel) rfl rfl rfl rfl rfl ?_
  refine xe_bipush (n := 61) (by decide +kernel) (by decide) rfl ?_
  obtain ⟨_, e138, h⟩ := xbnd h
  obtain ⟨M139, e137, h⟩ := xbnd h
  refine xs_cv (i := 248) (j := 222) (ar := [xI (61)]) (rest := []) (r2 := xr_222) (by decide +kernel) (by decide +kernel) (by decide +kernel) xr_222_e rfl (by decide) (by decide) e138 ?_
  refine xc_v (k222 (d := d + 96)  (show xin (61) by decide) e137) rfl ?_
  refine xe_alr (ins := .aload_n 0) (len := 1) (i := 0) (by decide +kernel) rfl rfl rfl rfl rfl ?_
  obtain ⟨_, e142, h⟩ := xbnd h
  obtain ⟨R143, e141, h⟩ := xbnd h
  refine xs_cv (i := 28) (j := 211) (ar := []) (rest := []) (r2 := xr_211) (by decide +kernel) (by decide +kernel) (by decide +kernel) xr_211_e rfl (by decide) (by decide) e142 ?_
  refine xc_i (k211 (d := d + 103)   e141) rfl (fun hi144 => ?_)
  refine xe_ifne (off := 12) (t := 57) (by decide +kernel) (by decide) rfl hi144 (fun c145 => ?_) (fun c145 => ?_)
  · rw [if_pos c145] at h
    refine xW_lv rfl (l := [(0, xR_ (a0))]) (xsb_of ⟨rfl, trivial⟩ (show [0, 1, 2, 3].Nodup by decide)) ?_
    exact k333_57    h
  · rw [if_neg c145] at h
    refine xe_alr (ins := .aload_n 0) (len := 1) (i := 0) (by decide +kernel) rfl rfl rfl rfl rfl ?_
    obtain ⟨v146, e147, h⟩ := xbnd h
    refine xs_gi (i := 46) (c := 15) (k := 2) (by decide +kernel) (by decide) (by decide +kernel) e147 rfl ?_
    refine xe_ifne (off := 5) (t := 57) (by decide +kernel) (by decide) rfl (xq_gi_in e147) (fun c148 => ?_) (fun c148 => ?_)
    · rw [if_pos c148] at h
      refine xW_lv rfl (l := [(0, xR_ (a0))]) (xsb_of ⟨rfl, trivial⟩ (show [0, 1, 2, 3].Nodup by decide)) ?_
      exact k333_57    h
    · rw [if_neg c148] at h
      refine xe_iconst (n := -1) (by decide +kernel) rfl ?_
      cases h
      exact xe_ret_i (ty := .int) (by decide +kernel) rfl rfl ⟨rfl, rfl, (show xin (-1) by decide)⟩
-- ChangeHouseModel.formulaOf
def xr_341 : xj_mR := (15, yX15_formulaOf, cX15_formulaOf, 3, (Option.some Jvm.ClassFile.FieldType.int), 2, false, (10, 89), (1, 12))
set_option maxRecDepth 20000 in
theorem xr_341_e : xj_row 341 = some xr_341 := rfl
def f341  (f : Nat) (a0 : Nat) (a1 : Nat) (a2 : Int) (M : xj_M) : Option (Int × xj_M) := ((xq_gr 15 67 (a0) M).bind fun v101 => ((xq_gr 15 69 (a0) M).bind fun v103 => ((xq_gr 13 18 (a1) M).bind fun v105 => ((xq_ai 3 (v105) (a2) M).bind fun v107 => ((xq_ai 3 (v103) (v107) M).bind fun v109 => ((xq_gr 15 69 (a0) M).bind fun v111 => ((xq_gr 13 18 (a1) M).bind fun v113 => ((xq_ai 3 (v113) (a2) M).bind fun v115 => ((xq_ai 3 (v111) (v115) M).bind fun v117 => ((xq_gr 15 70 (a0) M).bind fun v119 => ((xq_gr 13 18 (a1) M).bind fun v121 => ((xq_ai 3 (v121) (a2) M).bind fun v123 => ((xq_ai 3 (v119) (v123) M).bind fun v125 => ((xq_is 15 (a0) M).bind fun _ => ((f333  f (a0) (v101) (v109) (xwr ((v117) + (v125))) M).bind fun R129 => (some (R129.1, R129.2)))))))))))))))))
theorem k341 {d f : Nat}   {a0 : Nat} {a1 : Nat} {a2 : Int} {M : xj_M} {R : Int × xj_M} (ha2 : xin a2) (h : f341  f a0 a1 a2 M = some R) : xT (d + 106) 341 [xR_ a0, xR_ a1, xI a2] M (xQi R) := by
  refine xT_m xr_341_e (X := (none, d + 105, none)) rfl (xa_1 (xR_cat _) (xa_1 (xR_cat _) (xa_1 (xI_cat _) xa_n))) (by decide) ?_
  unfold f341 at h
  refine xe_alr (ins := .aload_n 0) (len := 1) (i := 0) (by decide +kernel) rfl rfl rfl rfl rfl ?_
  refine xe_alr (ins := .aload_n 0) (len := 1) (i := 0) (by decide +kernel) rfl rfl rfl rfl rfl ?_
  obtain ⟨v101, e102, h⟩ := xbnd h
  refine xs_gr (i := 642) (c := 15) (k := 67) (by decide +kernel) (by decide) (by decide +kernel) e102 rfl ?_
  refine xe_alr (ins := .aload_n 0) (len := 1) (i := 0) (by decide +kernel) rfl rfl rfl rfl rfl ?_
  obtain ⟨v103, e104, h⟩ := xbnd h
  refine xs_gr (i := 630) (c := 15) (k := 69) (by decide +kernel) (by decide) (by decide +kernel) e104 rfl ?_
  refine xe_alr (ins := .aload_n 1) (len := 1) (i := 1) (by decide +kernel) rfl rfl rfl rfl rfl ?_
  obtain ⟨v105, e106, h⟩ := xbnd h
  refine xs_gr (i := 865) (c := 13) (k := 18) (by decide +kernel) (by decide) (by decide +kernel) e106 rfl ?_
  refine xe_ldn (ins := .iload_n 2) (len := 1) (by decide +kernel) rfl rfl rfl rfl ?_
  obtain ⟨v107, e108, h⟩ := xbnd h
  refine xs_iald rfl (by decide +kernel) ha2 e108 rfl ?_
  obtain ⟨v109, e110, h⟩ := xbnd h
  refine xs_iald rfl (by decide +kernel) (xq_ai_in e108) e110 rfl ?_
  refine xe_alr (ins := .aload_n 0) (len := 1) (i := 0) (by decide +kernel) rfl rfl rfl rfl rfl ?_
  obtain ⟨v111, e112, h⟩ := xbnd h
  refine xs_gr (i := 630) (c := 15) (k := 69) (by decide +kernel) (by decide) (by decide +kernel) e112 rfl ?_
  refine xe_alr (ins := .aload_n 1) (len := 1) (i := 1) (by decide +kernel) rfl rfl rfl rfl rfl ?_
  obtain ⟨v113, e114, h⟩ := xbnd h
  refine xs_gr (i := 865) (c := 13) (k := 18) (by decide +kernel) (by decide) (by decide +kernel) e114 rfl ?_
  refine xe_ldn (ins := .iload_n 2) (len := 1) (by decide +kernel) rfl rfl rfl rfl ?_
  obtain ⟨v115, e116, h⟩ := xbnd h
  refine xs_iald rfl (by decide +kernel) ha2 e116 rfl ?_
  obtain ⟨v117, e118, h⟩ := xbnd h
  refine xs_iald rfl (by decide +kernel) (xq_ai_in e116) e118 rfl ?_
  refine xe_alr (ins := .aload_n 0) (len := 1) (i := 0) (by decide +kernel) rfl rfl rfl rfl rfl ?_
  obtain ⟨v119, e120, h⟩ := xbnd h
  refine xs_gr (i := 639) (c := 15) (k := 70) (by decide +kernel) (by decide) (by decide +kernel) e120 rfl ?_
  refine xe_alr (ins := .aload_n 1) (len := 1) (i := 1) (by decide +kernel) rfl rfl rfl rfl rfl ?_
  obtain ⟨v121, e122, h⟩ := xbnd h
  refine xs_gr (i := 865) (c := 13) (k := 18) (by decide +kernel) (by decide) (by decide +kernel) e122 rfl ?_
  refine xe_ldn (ins := .iload_n 2) (len := 1) (by decide +kernel) rfl rfl rfl rfl ?_
  obtain ⟨v123, e124, h⟩ := xbnd h
  refine xs_iald rfl (by decide +kernel) ha2 e124 rfl ?_
  obtain ⟨v125, e126, h⟩ := xbnd h
  refine xs_iald rfl (by decide +kernel) (xq_ai_in e124) e126 rfl ?_
  refine xe_iadd (by decide +kernel) rfl ?_
  obtain ⟨_, e128, h⟩ := xbnd h
  obtain ⟨R129, e127, h⟩ := xbnd h
  refine xs_cv (i := 995) (j := 333) (ar := [xI (xwr ((v117) + (v125))), xI (v109), xR_ (v101)]) (rest := []) (r2 := xr_333) (by decide +kernel) (by decide +kernel) (by decide +kernel) xr_333_e rfl (by decide) (by decide) e128 ?_
  refine xc_i (k333 (d := d + 0)  (xq_ai_in e110) (xin_wr _) e127) rfl (fun hi130 => ?_)
  cases h
  exact xe_ret_i (ty := .int) (by decide +kernel) rfl rfl ⟨rfl, rfl, hi130⟩
-- ChangeHouseModel.findReadings
def xr_344 : xj_mR := (15, yX15_findReadings, cX15_findReadings, 6, (Option.none : Option Jvm.ClassFile.FieldType), 2, false, (10, 85), (1, 12))
set_option maxRecDepth 20000 in
theorem xr_344_e : xj_row 344 = some xr_344 := rfl
def f344_141  (r48 : Nat → Int → Int → xj_M → Option (xj_M)) (r105 : Nat → Int → Int → Int → xj_M → Option (xj_M)) (f : Nat) (x0 : Nat) (x2 : Int) (x4 : Int) (x5 : Int) (M : xj_M) : Option (xj_M) := r105 (x0) (x2) (x4) (xwr ((x5) + (1))) M
theorem k344_141 {d f : Nat}  {r48 : Nat → Int → Int → xj_M → Option (xj_M)} {r105 : Nat → Int → Int → Int → xj_M → Option (xj_M)}  (hr48 : ∀ {x0 : Nat} {x2 : Int} {x4 : Int} {M : xj_M} {R : xj_M}, xin x2 → xin x4 → r48 x0 x2 x4 M = some R → xW (d + 106) (none, d + 106, none) xr_344 (48, [(0, xR_ x0), (2, xI x2), (4, xI x4)], [], M) (xQv R)) (hr105 : ∀ {x0 : Nat} {x2 : Int} {x4 : Int} {x5 : Int} {M : xj_M} {R : xj_M}, xin x2 → xin x4 → xin x5 → r105 x0 x2 x4 x5 M = some R → xW (d + 106) (none, d + 106, none) xr_344 (105, [(0, xR_ x0), (2, xI x2), (4, xI x4), (5, xI x5)], [], M) (xQv R)) {x0 : Nat} {x2 : Int} {x4 : Int} {x5 : Int} {M : xj_M} {R : xj_M} (hx2 : xin x2) (hx4 : xin x4) (hx5 : xin x5) (h : f344_141  r48 r105 f x0 x2 x4 x5 M = some R) : xW (d + 106) (none, d + 106, none) xr_344 (141, [(0, xR_ x0), (2, xI x2), (4, xI x4), (5, xI x5)], [], M) (xQv R) := by
  unfold f344_141 at h
  refine xe_iincr (i := 5) (n := 1) (by decide +kernel) (by decide) rfl (xk_k (show ¬ (0 : Nat) = 5 by decide) (Or.inl (show ¬ (0 + 1 : Nat) = 5 by decide)) (xk_k (show ¬ (2 : Nat) = 5 by decide) (Or.inl (show ¬ (2 + 1 : Nat) = 5 by decide)) (xk_k (show ¬ (4 : Nat) = 5 by decide) (Or.inr (xI_cat _)) (xk_d rfl xk_n)))) rfl ?_
  refine xe_goto (off := -39) (nx := 105) (by decide +kernel) (by decide) ?_
  refine xW_lv rfl (l := [(0, xR_ (x0)), (2, xI (x2)), (4, xI (x4)), (5, xI (xwr ((x5) + (1))))]) (xsb_of ⟨rfl, rfl, rfl, rfl, trivial⟩ (show [5, 0, 2, 4].Nodup by decide)) ?_
  exact hr105 hx2 hx4 (xin_wr _) h
def f344_216  (r48 : Nat → Int → Int → xj_M → Option (xj_M)) (f : Nat) (x0 : Nat) (x2 : Int) (x4 : Int) (M : xj_M) : Option (xj_M) := r48 (x0) (x2) (xwr ((x4) + (1))) M
theorem k344_216 {d f : Nat}  {r48 : Nat → Int → Int → xj_M → Option (xj_M)}  (hr48 : ∀ {x0 : Nat} {x2 : Int} {x4 : Int} {M : xj_M} {R : xj_M}, xin x2 → xin x4 → r48 x0 x2 x4 M = some R → xW (d + 106) (none, d + 106, none) xr_344 (48, [(0, xR_ x0), (2, xI x2), (4, xI x4)], [], M) (xQv R)) {x0 : Nat} {x2 : Int} {x4 : Int} {M : xj_M} {R : xj_M} (hx2 : xin x2) (hx4 : xin x4) (h : f344_216  r48 f x0 x2 x4 M = some R) : xW (d + 106) (none, d + 106, none) xr_344 (216, [(0, xR_ x0), (2, xI x2), (4, xI x4)], [], M) (xQv R) := by
  unfold f344_216 at h
  refine xe_iincr (i := 4) (n := 1) (by decide +kernel) (by decide) rfl (xk_k (show ¬ (0 : Nat) = 4 by decide) (Or.inl (show ¬ (0 + 1 : Nat) = 4 by decide)) (xk_k (show ¬ (2 : Nat) = 4 by decide) (Or.inl (show ¬ (2 + 1 : Nat) = 4 by decide)) (xk_d rfl xk_n))) rfl ?_
  refine xe_goto (off := -171) (nx := 48) (by decide +kernel) (by decide) ?_
  refine xW_lv rfl (l := [(0, xR_ (x0)), (2, xI (x2)), (4, xI (xwr ((x4) + (1))))]) (xsb_of ⟨rfl, rfl, rfl, trivial⟩ (show [4, 0, 2].Nodup by decide)) ?_
  exact hr48 hx2 (xin_wr _) h
def f344_147  (r48 : Nat → Int → Int → xj_M → Option (xj_M)) (f : Nat) (x0 : Nat) (x2 : Int) (x4 : Int) (M : xj_M) : Option (xj_M) := ((xq_gr 15 84 (x0) M).bind fun v101 => ((xq_ai 3 (v101) (x4) M).bind fun v103 => (if (v103) < (6) then f344_216  r48 f (x0) (x2) (x4) M else ((xq_gr 15 84 (x0) M).bind fun v106 => ((xq_ai 3 (v106) (x4) M).bind fun v108 => (if (v108) ≤ (9) then ((xq_gr 15 95 (x0) M).bind fun v111 => ((xq_sb (v111) (x2) (1) M).bind fun M113 => ((xq_gr 15 29 (x0) M113).bind fun v115 => ((xq_gr 15 88 (x0) M113).bind fun v117 => ((xq_al (v117) (x4) M113).bind fun v119 => ((xq_is 14 (v115) M113).bind fun _ => ((f205  f (v115) (v119) M113).bind fun R123 => (if (R123.1) = (-1) then f344_216  r48 f (x0) (x2) (x4) R123.2 else ((xq_gr 15 94 (x0) R123.2).bind fun v126 => ((xq_ai 3 (v126) (x2) R123.2).bind fun v128 => ((xq_si (v126) (x2) (xor_ (v128) (xshl (1) (R123.1))) R123.2).bind fun M130 => f344_216  r48 f (x0) (x2) (x4) M130))))))))))) else f344_216  r48 f (x0) (x2) (x4) M))))))
theorem k344_147 {d f : Nat}  {r48 : Nat → Int → Int → xj_M → Option (xj_M)}  (hr48 : ∀ {x0 : Nat} {x2 : Int} {x4 : Int} {M : xj_M} {R : xj_M}, xin x2 → xin x4 → r48 x0 x2 x4 M = some R → xW (d + 106) (none, d + 106, none) xr_344 (48, [(0, xR_ x0), (2, xI x2), (4, xI x4)], [], M) (xQv R)) {x0 : Nat} {x2 : Int} {x4 : Int} {M : xj_M} {R : xj_M} (hx2 : xin x2) (hx4 : xin x4) (h : f344_147  r48 f x0 x2 x4 M = some R) : xW (d + 106) (none, d + 106, none) xr_344 (147, [(0, xR_ x0), (2, xI x2), (4, xI x4)], [], M) (xQv R) := by
  unfold f344_147 at h
  refine xe_alr (ins := .aload_n 0) (len := 1) (i := 0) (by decide +kernel) rfl rfl rfl rfl rfl ?_
  obtain ⟨v101, e102, h⟩ := xbnd h
  refine xs_gr (i := 943) (c := 15) (k := 84) (by decide +kernel) (by decide) (by decide +kernel) e102 rfl ?_
  refine xe_ldn (ins := .iload 4) (len := 2) (by decide +kernel) rfl rfl rfl rfl ?_
  obtain ⟨v103, e104, h⟩ := xbnd h
  refine xs_iald rfl (by decide +kernel) hx4 e104 rfl ?_
  refine xe_bipush (n := 6) (by decide +kernel) (by decide) rfl ?_
  refine xe_icmplt (off := 60) (t := 216) (by decide +kernel) (by decide) rfl (xq_ai_in e104) (show xin (6) by decide) (fun c105 => ?_) (fun c105 => ?_)
  · rw [if_pos c105] at h
    refine xW_lv rfl (l := [(0, xR_ (x0)), (2, xI (x2)), (4, xI (x4))]) (xsb_of ⟨rfl, rfl, rfl, trivial⟩ (show [0, 2, 4].Nodup by decide)) ?_
    exact k344_216  hr48 hx2 hx4 h
  · rw [if_neg c105] at h
    refine xe_alr (ins := .aload_n 0) (len := 1) (i := 0) (by decide +kernel) rfl rfl rfl rfl rfl ?_
    obtain ⟨v106, e107, h⟩ := xbnd h
    refine xs_gr (i := 943) (c := 15) (k := 84) (by decide +kernel) (by decide) (by decide +kernel) e107 rfl ?_
    refine xe_ldn (ins := .iload 4) (len := 2) (by decide +kernel) rfl rfl rfl rfl ?_
    obtain ⟨v108, e109, h⟩ := xbnd h
    refine xs_iald rfl (by decide +kernel) hx4 e109 rfl ?_
    refine xe_bipush (n := 9) (by decide +kernel) (by decide) rfl ?_
    refine xe_icmple (off := 6) (t := 174) (by decide +kernel) (by decide) rfl (xq_ai_in e109) (show xin (9) by decide) (fun c110 => ?_) (fun c110 => ?_)
    · rw [if_pos c110] at h
      refine xe_alr (ins := .aload_n 0) (len := 1) (i := 0) (by decide +kernel) rfl rfl rfl rfl rfl ?_
      obtain ⟨v111, e112, h⟩ := xbnd h
      refine xs_gr (i := 1007) (c := 15) (k := 95) (by decide +kernel) (by decide) (by decide +kernel) e112 rfl ?_
      refine xe_ldn (ins := .iload_n 2) (len := 1) (by decide +kernel) rfl rfl rfl rfl ?_
      refine xe_iconst (n := 1) (by decide +kernel) rfl ?_
      obtain ⟨M113, e114, h⟩ := xbnd h
      refine xs_bast (by decide +kernel) hx2 e114 rfl ?_
      refine xe_alr (ins := .aload_n 0) (len := 1) (i := 0) (by decide +kernel) rfl rfl rfl rfl rfl ?_
      obtain ⟨v115, e116, h⟩ := xbnd h
      refine xs_gr (i := 439) (c := 15) (k := 29) (by decide +kernel) (by decide) (by decide +kernel) e116 rfl ?_
      refine xe_alr (ins := .aload_n 0) (len := 1) (i := 0) (by decide +kernel) rfl rfl rfl rfl rfl ?_
      obtain ⟨v117, e118, h⟩ := xbnd h
      refine xs_gr (i := 958) (c := 15) (k := 88) (by decide +kernel) (by decide) (by decide +kernel) e118 rfl ?_
      refine xe_ldn (ins := .iload 4) (len := 2) (by decide +kernel) rfl rfl rfl rfl ?_
      obtain ⟨v119, e120, h⟩ := xbnd h
      refine xs_lald (by decide +kernel) hx4 e120 rfl ?_
      obtain ⟨_, e122, h⟩ := xbnd h
      obtain ⟨R123, e121, h⟩ := xbnd h
      refine xs_cv (i := 213) (j := 205) (ar := [xZ (v119)]) (rest := []) (r2 := xr_205) (by decide +kernel) (by decide +kernel) (by decide +kernel) xr_205_e rfl (by decide) (by decide) e122 ?_
      refine xc_i (k205 (d := d + 105)  (xq_al_in e120) e121) rfl (fun hi124 => ?_)
      refine xe_isr (ins := .istore 5) (len := 2) (i := 5) (by decide +kernel) rfl rfl rfl (by decide) (xk_k (show ¬ (0 : Nat) = 5 by decide) (Or.inl (show ¬ (0 + 1 : Nat) = 5 by decide)) (xk_k (show ¬ (2 : Nat) = 5 by decide) (Or.inl (show ¬ (2 + 1 : Nat) = 5 by decide)) (xk_k (show ¬ (4 : Nat) = 5 by decide) (Or.inr (xI_cat _)) xk_n))) rfl ?_
      refine xe_ldn (ins := .iload 5) (len := 2) (by decide +kernel) rfl rfl rfl rfl ?_
      refine xe_iconst (n := -1) (by decide +kernel) rfl ?_
      refine xe_icmpeq (off := 16) (t := 216) (by decide +kernel) (by decide) rfl hi124 (show xin (-1) by decide) (fun c125 => ?_) (fun c125 => ?_)
      · rw [if_pos c125] at h
        refine xW_lv rfl (l := [(0, xR_ (x0)), (2, xI (x2)), (4, xI (x4))]) (xsb_of ⟨rfl, rfl, rfl, trivial⟩ (show [5, 0, 2, 4].Nodup by decide)) ?_
        exact k344_216  hr48 hx2 hx4 h
      · rw [if_neg c125] at h
        refine xe_alr (ins := .aload_n 0) (len := 1) (i := 0) (by decide +kernel) rfl rfl rfl rfl rfl ?_
        obtain ⟨v126, e127, h⟩ := xbnd h
        refine xs_gr (i := 1005) (c := 15) (k := 94) (by decide +kernel) (by decide) (by decide +kernel) e127 rfl ?_
        refine xe_ldn (ins := .iload_n 2) (len := 1) (by decide +kernel) rfl rfl rfl rfl ?_
        refine xe_dup2r (xI_cat _) (xR_cat _) (by decide +kernel) rfl ?_
        obtain ⟨v128, e129, h⟩ := xbnd h
        refine xs_iald rfl (by decide +kernel) hx2 e129 rfl ?_
        refine xe_iconst (n := 1) (by decide +kernel) rfl ?_
        refine xe_ldn (ins := .iload 5) (len := 2) (by decide +kernel) rfl rfl rfl rfl ?_
        refine xe_ishl (by decide +kernel) rfl ?_
        refine xe_ior (by decide +kernel) rfl ?_
        obtain ⟨M130, e131, h⟩ := xbnd h
        refine xs_iast (by decide +kernel) hx2 e131 rfl ?_
        refine xW_lv rfl (l := [(0, xR_ (x0)), (2, xI (x2)), (4, xI (x4))]) (xsb_of ⟨rfl, rfl, rfl, trivial⟩ (show [5, 0, 2, 4].Nodup by decide)) ?_
        exact k344_216  hr48 hx2 hx4 h
    · rw [if_neg c110] at h
      refine xe_goto (off := 45) (nx := 216) (by decide +kernel) (by decide) ?_
      refine xW_lv rfl (l := [(0, xR_ (x0)), (2, xI (x2)), (4, xI (x4))]) (xsb_of ⟨rfl, rfl, rfl, trivial⟩ (show [0, 2, 4].Nodup by decide)) ?_
      exact k344_216  hr48 hx2 hx4 h
def f344_105b  (r48 : Nat → Int → Int → xj_M → Option (xj_M)) (r105 : Nat → Int → Int → Int → xj_M → Option (xj_M)) (f : Nat) (x0 : Nat) (x2 : Int) (x4 : Int) (x5 : Int) (M : xj_M) : Option (xj_M) := (if (72) ≤ (x5) then f344_147  r48 f (x0) (x2) (x4) M else ((xq_gr 15 85 (x0) M).bind fun v133 => ((xq_ai 3 (v133) (x4) M).bind fun v135 => ((xq_gr 15 86 (x0) M).bind fun v137 => ((xq_ai 3 (v137) (x4) M).bind fun v139 => ((f345  f (x5) (v135) (v139) M).bind fun R142 => (if (R142.1) = 0 then f344_141  r48 r105 f (x0) (x2) (x4) (x5) R142.2 else ((xq_is 15 (x0) R142.2).bind fun _ => ((f342  f (x0) (x2) (x5) R142.2).bind fun M147 => f344_141  r48 r105 f (x0) (x2) (x4) (x5) M147)))))))))
theorem k344_105b {d f : Nat}  {r48 : Nat → Int → Int → xj_M → Option (xj_M)} {r105 : Nat → Int → Int → Int → xj_M → Option (xj_M)}  (hr48 : ∀ {x0 : Nat} {x2 : Int} {x4 : Int} {M : xj_M} {R : xj_M}, xin x2 → xin x4 → r48 x0 x2 x4 M = some R → xW (d + 106) (none, d + 106, none) xr_344 (48, [(0, xR_ x0), (2, xI x2), (4, xI x4)], [], M) (xQv R)) (hr105 : ∀ {x0 : Nat} {x2 : Int} {x4 : Int} {x5 : Int} {M : xj_M} {R : xj_M}, xin x2 → xin x4 → xin x5 → r105 x0 x2 x4 x5 M = some R → xW (d + 106) (none, d + 106, none) xr_344 (105, [(0, xR_ x0), (2, xI x2), (4, xI x4), (5, xI x5)], [], M) (xQv R)) {x0 : Nat} {x2 : Int} {x4 : Int} {x5 : Int} {M : xj_M} {R : xj_M} (hx2 : xin x2) (hx4 : xin x4) (hx5 : xin x5) (h : f344_105b  r48 r105 f x0 x2 x4 x5 M = some R) : xW (d + 106) (none, d + 106, none) xr_344 (105, [(0, xR_ x0), (2, xI x2), (4, xI x4), (5, xI x5)], [], M) (xQv R) := by
  unfold f344_105b at h
  refine xe_ldn (ins := .iload 5) (len := 2) (by decide +kernel) rfl rfl rfl rfl ?_
  refine xe_bipush (n := 72) (by decide +kernel) (by decide) rfl ?_
  refine xe_icmpge (off := 38) (t := 147) (by decide +kernel) (by decide) rfl hx5 (show xin (72) by decide) (fun c132 => ?_) (fun c132 => ?_)
  · rw [if_pos c132] at h
    refine xW_lv rfl (l := [(0, xR_ (x0)), (2, xI (x2)), (4, xI (x4))]) (xsb_of ⟨rfl, rfl, rfl, trivial⟩ (show [0, 2, 4, 5].Nodup by decide)) ?_
    exact k344_147  hr48 hx2 hx4 h
  · rw [if_neg c132] at h
    refine xe_ldn (ins := .iload 5) (len := 2) (by decide +kernel) rfl rfl rfl rfl ?_
    refine xe_alr (ins := .aload_n 0) (len := 1) (i := 0) (by decide +kernel) rfl rfl rfl rfl rfl ?_
    obtain ⟨v133, e134, h⟩ := xbnd h
    refine xs_gr (i := 949) (c := 15) (k := 85) (by decide +kernel) (by decide) (by decide +kernel) e134 rfl ?_
    refine xe_ldn (ins := .iload 4) (len := 2) (by decide +kernel) rfl rfl rfl rfl ?_
    obtain ⟨v135, e136, h⟩ := xbnd h
    refine xs_iald rfl (by decide +kernel) hx4 e136 rfl ?_
    refine xe_alr (ins := .aload_n 0) (len := 1) (i := 0) (by decide +kernel) rfl rfl rfl rfl rfl ?_
    obtain ⟨v137, e138, h⟩ := xbnd h
    refine xs_gr (i := 952) (c := 15) (k := 86) (by decide +kernel) (by decide) (by decide +kernel) e138 rfl ?_
    refine xe_ldn (ins := .iload 4) (len := 2) (by decide +kernel) rfl rfl rfl rfl ?_
    obtain ⟨v139, e140, h⟩ := xbnd h
    refine xs_iald rfl (by decide +kernel) hx4 e140 rfl ?_
    obtain ⟨R142, e141, h⟩ := xbnd h
    refine xs_cs (kd := 2) (by decide) (i := 1017) (j := 345) (ar := [xI (v139), xI (v135), xI (x5)]) (rest := []) (r2 := xr_345) (by decide +kernel) (by decide +kernel) (by decide +kernel) xr_345_e rfl (by decide) ?_
    refine xc_i (k345 (d := d + 105)  hx5 (xq_ai_in e136) (xq_ai_in e140) e141) rfl (fun hi143 => ?_)
    refine xe_ifeq (off := 10) (t := 141) (by decide +kernel) (by decide) rfl hi143 (fun c144 => ?_) (fun c144 => ?_)
    · rw [if_pos c144] at h
      refine xW_lv rfl (l := [(0, xR_ (x0)), (2, xI (x2)), (4, xI (x4)), (5, xI (x5))]) (xsb_of ⟨rfl, rfl, rfl, rfl, trivial⟩ (show [0, 2, 4, 5].Nodup by decide)) ?_
      exact k344_141  hr48 hr105 hx2 hx4 hx5 h
    · rw [if_neg c144] at h
      refine xe_alr (ins := .aload_n 0) (len := 1) (i := 0) (by decide +kernel) rfl rfl rfl rfl rfl ?_
      refine xe_ldn (ins := .iload_n 2) (len := 1) (by decide +kernel) rfl rfl rfl rfl ?_
      refine xe_ldn (ins := .iload 5) (len := 2) (by decide +kernel) rfl rfl rfl rfl ?_
      obtain ⟨_, e146, h⟩ := xbnd h
      obtain ⟨M147, e145, h⟩ := xbnd h
      refine xs_cv (i := 1014) (j := 342) (ar := [xI (x5), xI (x2)]) (rest := []) (r2 := xr_342) (by decide +kernel) (by decide +kernel) (by decide +kernel) xr_342_e rfl (by decide) (by decide) e146 ?_
      refine xc_v (k342 (d := d + 105)  hx2 hx5 e145) rfl ?_
      refine xW_lv rfl (l := [(0, xR_ (x0)), (2, xI (x2)), (4, xI (x4)), (5, xI (x5))]) (xsb_of ⟨rfl, rfl, rfl, rfl, trivial⟩ (show [0, 2, 4, 5].Nodup by decide)) ?_
      exact k344_141  hr48 hr105 hx2 hx4 hx5 h
def f344_105  (r48 : Nat → Int → Int → xj_M → Option (xj_M)) (f : Nat) : Nat → Nat → Int → Int → Int → xj_M → Option (xj_M)
  | 0, _, _, _, _, _ => none
  | n + 1, x0, x2, x4, x5, M => f344_105b  r48 (f344_105  r48 f n) f x0 x2 x4 x5 M
theorem k344_105 {d f : Nat}  {r48 : Nat → Int → Int → xj_M → Option (xj_M)}  (hr48 : ∀ {x0 : Nat} {x2 : Int} {x4 : Int} {M : xj_M} {R : xj_M}, xin x2 → xin x4 → r48 x0 x2 x4 M = some R → xW (d + 106) (none, d + 106, none) xr_344 (48, [(0, xR_ x0), (2, xI x2), (4, xI x4)], [], M) (xQv R)) : ∀ {n : Nat} {x0 : Nat} {x2 : Int} {x4 : Int} {x5 : Int} {M : xj_M} {R : xj_M}, xin x2 → xin x4 → xin x5 → f344_105  r48 f n x0 x2 x4 x5 M = some R → xW (d + 106) (none, d + 106, none) xr_344 (105, [(0, xR_ x0), (2, xI x2), (4, xI x4), (5, xI x5)], [], M) (xQv R) := by
  intro n
  induction n with
  | zero => intros; rename_i h; cases h
  | succ n ih => intros; rename_i h; exact k344_105b  hr48 ih (by assumption) (by assumption) (by assumption) h
def f344_102  (r48 : Nat → Int → Int → xj_M → Option (xj_M)) (f : Nat) (x0 : Nat) (x2 : Int) (x4 : Int) (M : xj_M) : Option (xj_M) := f344_105  r48 f f (x0) (x2) (x4) (0) M
theorem k344_102 {d f : Nat}  {r48 : Nat → Int → Int → xj_M → Option (xj_M)}  (hr48 : ∀ {x0 : Nat} {x2 : Int} {x4 : Int} {M : xj_M} {R : xj_M}, xin x2 → xin x4 → r48 x0 x2 x4 M = some R → xW (d + 106) (none, d + 106, none) xr_344 (48, [(0, xR_ x0), (2, xI x2), (4, xI x4)], [], M) (xQv R)) {x0 : Nat} {x2 : Int} {x4 : Int} {M : xj_M} {R : xj_M} (hx2 : xin x2) (hx4 : xin x4) (h : f344_102  r48 f x0 x2 x4 M = some R) : xW (d + 106) (none, d + 106, none) xr_344 (102, [(0, xR_ x0), (2, xI x2), (4, xI x4)], [], M) (xQv R) := by
  unfold f344_102 at h
  refine xe_iconst (n := 0) (by decide +kernel) rfl ?_
  refine xe_isr (ins := .istore 5) (len := 2) (i := 5) (by decide +kernel) rfl rfl rfl (by decide) (xk_k (show ¬ (0 : Nat) = 5 by decide) (Or.inl (show ¬ (0 + 1 : Nat) = 5 by decide)) (xk_k (show ¬ (2 : Nat) = 5 by decide) (Or.inl (show ¬ (2 + 1 : Nat) = 5 by decide)) (xk_k (show ¬ (4 : Nat) = 5 by decide) (Or.inr (xI_cat _)) xk_n))) rfl ?_
  refine xW_lv rfl (l := [(0, xR_ (x0)), (2, xI (x2)), (4, xI (x4)), (5, xI (0))]) (xsb_of ⟨rfl, rfl, rfl, rfl, trivial⟩ (show [5, 0, 2, 4].Nodup by decide)) ?_
  exact k344_105  hr48 hx2 hx4 (show xin (0) by decide) h
def f344_80  (r48 : Nat → Int → Int → xj_M → Option (xj_M)) (f : Nat) (x0 : Nat) (x2 : Int) (x4 : Int) (M : xj_M) : Option (xj_M) := ((xq_gr 15 84 (x0) M).bind fun v149 => ((xq_ai 3 (v149) (x4) M).bind fun v151 => (if (v151) = (4) then f344_102  r48 f (x0) (x2) (x4) M else ((xq_gr 15 84 (x0) M).bind fun v154 => ((xq_ai 3 (v154) (x4) M).bind fun v156 => (if ¬ (v156) = (5) then f344_147  r48 f (x0) (x2) (x4) M else f344_102  r48 f (x0) (x2) (x4) M))))))
theorem k344_80 {d f : Nat}  {r48 : Nat → Int → Int → xj_M → Option (xj_M)}  (hr48 : ∀ {x0 : Nat} {x2 : Int} {x4 : Int} {M : xj_M} {R : xj_M}, xin x2 → xin x4 → r48 x0 x2 x4 M = some R → xW (d + 106) (none, d + 106, none) xr_344 (48, [(0, xR_ x0), (2, xI x2), (4, xI x4)], [], M) (xQv R)) {x0 : Nat} {x2 : Int} {x4 : Int} {M : xj_M} {R : xj_M} (hx2 : xin x2) (hx4 : xin x4) (h : f344_80  r48 f x0 x2 x4 M = some R) : xW (d + 106) (none, d + 106, none) xr_344 (80, [(0, xR_ x0), (2, xI x2), (4, xI x4)], [], M) (xQv R) := by
  unfold f344_80 at h
  refine xe_alr (ins := .aload_n 0) (len := 1) (i := 0) (by decide +kernel) rfl rfl rfl rfl rfl ?_
  obtain ⟨v149, e150, h⟩ := xbnd h
  refine xs_gr (i := 943) (c := 15) (k := 84) (by decide +kernel) (by decide) (by decide +kernel) e150 rfl ?_
  refine xe_ldn (ins := .iload 4) (len := 2) (by decide +kernel) rfl rfl rfl rfl ?_
  obtain ⟨v151, e152, h⟩ := xbnd h
  refine xs_iald rfl (by decide +kernel) hx4 e152 rfl ?_
  refine xe_iconst (n := 4) (by decide +kernel) rfl ?_
  refine xe_icmpeq (off := 14) (t := 102) (by decide +kernel) (by decide) rfl (xq_ai_in e152) (show xin (4) by decide) (fun c153 => ?_) (fun c153 => ?_)
  · rw [if_pos c153] at h
    refine xW_lv rfl (l := [(0, xR_ (x0)), (2, xI (x2)), (4, xI (x4))]) (xsb_of ⟨rfl, rfl, rfl, trivial⟩ (show [0, 2, 4].Nodup by decide)) ?_
    exact k344_102  hr48 hx2 hx4 h
  · rw [if_neg c153] at h
    refine xe_alr (ins := .aload_n 0) (len := 1) (i := 0) (by decide +kernel) rfl rfl rfl rfl rfl ?_
    obtain ⟨v154, e155, h⟩ := xbnd h
    refine xs_gr (i := 943) (c := 15) (k := 84) (by decide +kernel) (by decide) (by decide +kernel) e155 rfl ?_
    refine xe_ldn (ins := .iload 4) (len := 2) (by decide +kernel) rfl rfl rfl rfl ?_
    obtain ⟨v156, e157, h⟩ := xbnd h
    refine xs_iald rfl (by decide +kernel) hx4 e157 rfl ?_
    refine xe_iconst (n := 5) (by decide +kernel) rfl ?_
    refine xe_icmpne (off := 48) (t := 147) (by decide +kernel) (by decide) rfl (xq_ai_in e157) (show xin (5) by decide) (fun c158 => ?_) (fun c158 => ?_)
    · rw [if_pos c158] at h
      refine xW_lv rfl (l := [(0, xR_ (x0)), (2, xI (x2)), (4, xI (x4))]) (xsb_of ⟨rfl, rfl, rfl, trivial⟩ (show [0, 2, 4].Nodup by decide)) ?_
      exact k344_147  hr48 hx2 hx4 h
    · rw [if_neg c158] at h
      refine xW_lv rfl (l := [(0, xR_ (x0)), (2, xI (x2)), (4, xI (x4))]) (xsb_of ⟨rfl, rfl, rfl, trivial⟩ (show [0, 2, 4].Nodup by decide)) ?_
      exact k344_102  hr48 hx2 hx4 h
def f344_48b  (r48 : Nat → Int → Int → xj_M → Option (xj_M)) (f : Nat) (x0 : Nat) (x2 : Int) (x4 : Int) (M : xj_M) : Option (xj_M) := ((xq_gi 15 89 (x0) M).bind fun v159 => (if (v159) ≤ (x4) then (some M) else ((xq_gr 15 84 (x0) M).bind fun v162 => ((xq_ai 3 (v162) (x4) M).bind fun v164 => (if ¬ (v164) = (2) then f344_80  r48 f (x0) (x2) (x4) M else ((xq_gr 15 85 (x0) M).bind fun v167 => ((xq_ai 3 (v167) (x4) M).bind fun v169 => ((xq_is 15 (x0) M).bind fun _ => ((f342  f (x0) (x2) (v169) M).bind fun M173 => f344_80  r48 f (x0) (x2) (x4) M173)))))))))
theorem k344_48b {d f : Nat}  {r48 : Nat → Int → Int → xj_M → Option (xj_M)}  (hr48 : ∀ {x0 : Nat} {x2 : Int} {x4 : Int} {M : xj_M} {R : xj_M}, xin x2 → xin x4 → r48 x0 x2 x4 M = some R → xW (d + 106) (none, d + 106, none) xr_344 (48, [(0, xR_ x0), (2, xI x2), (4, xI x4)], [], M) (xQv R)) {x0 : Nat} {x2 : Int} {x4 : Int} {M : xj_M} {R : xj_M} (hx2 : xin x2) (hx4 : xin x4) (h : f344_48b  r48 f x0 x2 x4 M = some R) : xW (d + 106) (none, d + 106, none) xr_344 (48, [(0, xR_ x0), (2, xI x2), (4, xI x4)], [], M) (xQv R) := by
  unfold f344_48b at h
  refine xe_ldn (ins := .iload 4) (len := 2) (by decide +kernel) rfl rfl rfl rfl ?_
  refine xe_alr (ins := .aload_n 0) (len := 1) (i := 0) (by decide +kernel) rfl rfl rfl rfl rfl ?_
  obtain ⟨v159, e160, h⟩ := xbnd h
  refine xs_gi (i := 946) (c := 15) (k := 89) (by decide +kernel) (by decide) (by decide +kernel) e160 rfl ?_
  refine xe_icmpge (off := 168) (t := 222) (by decide +kernel) (by decide) rfl hx4 (xq_gi_in e160) (fun c161 => ?_) (fun c161 => ?_)
  · rw [if_pos c161] at h
    cases h
    exact xe_ret_v (by decide +kernel) rfl ⟨rfl, rfl⟩
  · rw [if_neg c161] at h
    refine xe_alr (ins := .aload_n 0) (len := 1) (i := 0) (by decide +kernel) rfl rfl rfl rfl rfl ?_
    obtain ⟨v162, e163, h⟩ := xbnd h
    refine xs_gr (i := 943) (c := 15) (k := 84) (by decide +kernel) (by decide) (by decide +kernel) e163 rfl ?_
    refine xe_ldn (ins := .iload 4) (len := 2) (by decide +kernel) rfl rfl rfl rfl ?_
    obtain ⟨v164, e165, h⟩ := xbnd h
    refine xs_iald rfl (by decide +kernel) hx4 e165 rfl ?_
    refine xe_iconst (n := 2) (by decide +kernel) rfl ?_
    refine xe_icmpne (off := 15) (t := 80) (by decide +kernel) (by decide) rfl (xq_ai_in e165) (show xin (2) by decide) (fun c166 => ?_) (fun c166 => ?_)
    · rw [if_pos c166] at h
      refine xW_lv rfl (l := [(0, xR_ (x0)), (2, xI (x2)), (4, xI (x4))]) (xsb_of ⟨rfl, rfl, rfl, trivial⟩ (show [0, 2, 4].Nodup by decide)) ?_
      exact k344_80  hr48 hx2 hx4 h
    · rw [if_neg c166] at h
      refine xe_alr (ins := .aload_n 0) (len := 1) (i := 0) (by decide +kernel) rfl rfl rfl rfl rfl ?_
      refine xe_ldn (ins := .iload_n 2) (len := 1) (by decide +kernel) rfl rfl rfl rfl ?_
      refine xe_alr (ins := .aload_n 0) (len := 1) (i := 0) (by decide +kernel) rfl rfl rfl rfl rfl ?_
      obtain ⟨v167, e168, h⟩ := xbnd h
      refine xs_gr (i := 949) (c := 15) (k := 85) (by decide +kernel) (by decide) (by decide +kernel) e168 rfl ?_
      refine xe_ldn (ins := .iload 4) (len := 2) (by decide +kernel) rfl rfl rfl rfl ?_
      obtain ⟨v169, e170, h⟩ := xbnd h
      refine xs_iald rfl (by decide +kernel) hx4 e170 rfl ?_
      obtain ⟨_, e172, h⟩ := xbnd h
      obtain ⟨M173, e171, h⟩ := xbnd h
      refine xs_cv (i := 1014) (j := 342) (ar := [xI (v169), xI (x2)]) (rest := []) (r2 := xr_342) (by decide +kernel) (by decide +kernel) (by decide +kernel) xr_342_e rfl (by decide) (by decide) e172 ?_
      refine xc_v (k342 (d := d + 105)  hx2 (xq_ai_in e170) e171) rfl ?_
      refine xW_lv rfl (l := [(0, xR_ (x0)), (2, xI (x2)), (4, xI (x4))]) (xsb_of ⟨rfl, rfl, rfl, trivial⟩ (show [0, 2, 4].Nodup by decide)) ?_
      exact k344_80  hr48 hx2 hx4 h
def f344_48   (f : Nat) : Nat → Nat → Int → Int → xj_M → Option (xj_M)
  | 0, _, _, _, _ => none
  | n + 1, x0, x2, x4, M => f344_48b   (f344_48   f n) f x0 x2 x4 M
theorem k344_48 {d f : Nat}     : ∀ {n : Nat} {x0 : Nat} {x2 : Int} {x4 : Int} {M : xj_M} {R : xj_M}, xin x2 → xin x4 → f344_48   f n x0 x2 x4 M = some R → xW (d + 106) (none, d + 106, none) xr_344 (48, [(0, xR_ x0), (2, xI x2), (4, xI x4)], [], M) (xQv R) := by
  intro n
  induction n with
  | zero => intros; rename_i h; cases h
  | succ n ih => intros; rename_i h; exact k344_48b   ih (by assumption) (by assumption) h
def f344  (f : Nat) (a0 : Nat) (a1 : Nat) (a2 : Int) (M : xj_M) : Option (xj_M) := ((xq_gr 15 92 (a0) M).bind fun v175 => ((xq_sl (v175) (a2) (0) M).bind fun M177 => ((xq_gr 15 93 (a0) M177).bind fun v179 => ((xq_sl (v179) (a2) (0) M177).bind fun M181 => ((xq_gr 15 94 (a0) M181).bind fun v183 => ((xq_si (v183) (a2) (0) M181).bind fun M185 => ((xq_gr 15 95 (a0) M185).bind fun v187 => ((xq_sb (v187) (a2) (0) M185).bind fun M189 => ((xq_gr 13 18 (a1) M189).bind fun v191 => ((xq_ai 3 (v191) (a2) M189).bind fun v193 => (if ¬ (v193) = 0 then ((xq_is 15 (a0) M189).bind fun _ => ((f341  f (a0) (a1) (a2) M189).bind fun R198 => f344_48   f f (a0) (a2) (0) R198.2)) else (some M189))))))))))))
theorem k344 {d f : Nat}   {a0 : Nat} {a1 : Nat} {a2 : Int} {M : xj_M} {R : xj_M} (ha2 : xin a2) (h : f344  f a0 a1 a2 M = some R) : xT (d + 107) 344 [xR_ a0, xR_ a1, xI a2] M (xQv R) := by
  refine xT_m xr_344_e (X := (none, d + 106, none)) rfl (xa_1 (xR_cat _) (xa_1 (xR_cat _) (xa_1 (xI_cat _) xa_n))) (by decide) ?_
  unfold f344 at h
  refine xe_alr (ins := .aload_n 0) (len := 1) (i := 0) (by decide +kernel) rfl rfl rfl rfl rfl ?_
  obtain ⟨v175, e176, h⟩ := xbnd h
  refine xs_gr (i := 999) (c := 15) (k := 92) (by decide +kernel) (by decide) (by decide +kernel) e176 rfl ?_
  refine xe_ldn (ins := .iload_n 2) (len := 1) (by decide +kernel) rfl rfl rfl rfl ?_
  refine xe_lconst (n := 0) (z := 0) (by decide +kernel) rfl rfl ?_
  obtain ⟨M177, e178, h⟩ := xbnd h
  refine xs_last (by decide +kernel) ha2 e178 rfl ?_
  refine xe_alr (ins := .aload_n 0) (len := 1) (i := 0) (by decide +kernel) rfl rfl rfl rfl rfl ?_
  obtain ⟨v179, e180, h⟩ := xbnd h
  refine xs_gr (i := 1002) (c := 15) (k := 93) (by decide +kernel) (by decide) (by decide +kernel) e180 rfl ?_
  refine xe_ldn (ins := .iload_n 2) (len := 1) (by decide +kernel) rfl rfl rfl rfl ?_
  refine xe_lconst (n := 0) (z := 0) (by decide +kernel) rfl rfl ?_
  obtain ⟨M181, e182, h⟩ := xbnd h
  refine xs_last (by decide +kernel) ha2 e182 rfl ?_
  refine xe_alr (ins := .aload_n 0) (len := 1) (i := 0) (by decide +kernel) rfl rfl rfl rfl rfl ?_
  obtain ⟨v183, e184, h⟩ := xbnd h
  refine xs_gr (i := 1005) (c := 15) (k := 94) (by decide +kernel) (by decide) (by decide +kernel) e184 rfl ?_
  refine xe_ldn (ins := .iload_n 2) (len := 1) (by decide +kernel) rfl rfl rfl rfl ?_
  refine xe_iconst (n := 0) (by decide +kernel) rfl ?_
  obtain ⟨M185, e186, h⟩ := xbnd h
  refine xs_iast (by decide +kernel) ha2 e186 rfl ?_
  refine xe_alr (ins := .aload_n 0) (len := 1) (i := 0) (by decide +kernel) rfl rfl rfl rfl rfl ?_
  obtain ⟨v187, e188, h⟩ := xbnd h
  refine xs_gr (i := 1007) (c := 15) (k := 95) (by decide +kernel) (by decide) (by decide +kernel) e188 rfl ?_
  refine xe_ldn (ins := .iload_n 2) (len := 1) (by decide +kernel) rfl rfl rfl rfl ?_
  refine xe_iconst (n := 0) (by decide +kernel) rfl ?_
  obtain ⟨M189, e190, h⟩ := xbnd h
  refine xs_bast (by decide +kernel) ha2 e190 rfl ?_
  refine xe_alr (ins := .aload_n 1) (len := 1) (i := 1) (by decide +kernel) rfl rfl rfl rfl rfl ?_
  obtain ⟨v191, e192, h⟩ := xbnd h
  refine xs_gr (i := 865) (c := 13) (k := 18) (by decide +kernel) (by decide) (by decide +kernel) e192 rfl ?_
  refine xe_ldn (ins := .iload_n 2) (len := 1) (by decide +kernel) rfl rfl rfl rfl ?_
  obtain ⟨v193, e194, h⟩ := xbnd h
  refine xs_iald rfl (by decide +kernel) ha2 e194 rfl ?_
  refine xe_ifne (off := 4) (t := 38) (by decide +kernel) (by decide) rfl (xq_ai_in e194) (fun c195 => ?_) (fun c195 => ?_)
  · rw [if_pos c195] at h
    refine xe_alr (ins := .aload_n 0) (len := 1) (i := 0) (by decide +kernel) rfl rfl rfl rfl rfl ?_
    refine xe_alr (ins := .aload_n 1) (len := 1) (i := 1) (by decide +kernel) rfl rfl rfl rfl rfl ?_
    refine xe_ldn (ins := .iload_n 2) (len := 1) (by decide +kernel) rfl rfl rfl rfl ?_
    obtain ⟨_, e197, h⟩ := xbnd h
    obtain ⟨R198, e196, h⟩ := xbnd h
    refine xs_cv (i := 1010) (j := 341) (ar := [xI (a2), xR_ (a1)]) (rest := []) (r2 := xr_341) (by decide +kernel) (by decide +kernel) (by decide +kernel) xr_341_e rfl (by decide) (by decide) e197 ?_
    refine xc_i (k341 (d := d + 0)  ha2 e196) rfl (fun hi199 => ?_)
    refine xe_isr (ins := .istore_n 3) (len := 1) (i := 3) (by decide +kernel) rfl rfl rfl (by decide) (xk_k (show ¬ (0 : Nat) = 3 by decide) (Or.inl (show ¬ (0 + 1 : Nat) = 3 by decide)) (xk_k (show ¬ (1 : Nat) = 3 by decide) (Or.inl (show ¬ (1 + 1 : Nat) = 3 by decide)) (xk_k (show ¬ (2 : Nat) = 3 by decide) (Or.inr (xI_cat _)) xk_n))) rfl ?_
    refine xe_iconst (n := 0) (by decide +kernel) rfl ?_
    refine xe_isr (ins := .istore 4) (len := 2) (i := 4) (by decide +kernel) rfl rfl rfl (by decide) (xk_k (show ¬ (3 : Nat) = 4 by decide) (Or.inr (xI_cat _)) (xk_k (show ¬ (0 : Nat) = 4 by decide) (Or.inl (show ¬ (0 + 1 : Nat) = 4 by decide)) (xk_k (show ¬ (1 : Nat) = 4 by decide) (Or.inl (show ¬ (1 + 1 : Nat) = 4 by decide)) (xk_k (show ¬ (2 : Nat) = 4 by decide) (Or.inl (show ¬ (2 + 1 : Nat) = 4 by decide)) xk_n)))) rfl ?_
    refine xW_lv rfl (l := [(0, xR_ (a0)), (2, xI (a2)), (4, xI (0))]) (xsb_of ⟨rfl, rfl, rfl, trivial⟩ (show [4, 3, 0, 1, 2].Nodup by decide)) ?_
    exact k344_48   ha2 (show xin (0) by decide) h
  · rw [if_neg c195] at h
    cases h
    exact xe_ret_v (by decide +kernel) rfl ⟨rfl, rfl⟩
-- ChangeHouseModel.valueCell
def xr_349 : xj_mR := (15, yX15_valueCell, cX15_valueCell, 6, (Option.none : Option Jvm.ClassFile.FieldType), 2, false, (10, 150), (1, 12))
set_option maxRecDepth 20000 in
theorem xr_349_e : xj_row 349 = some xr_349 := rfl
def f349_51   (f : Nat) (x0 : Nat) (x2 : Int) (y0 : Int) (y1 : Int) (y2 : Int) (y3 : Nat) (M : xj_M) : Option (xj_M) := ((f348  f (y3) (y2) (y1) (y0) M).bind fun M102 => ((xq_gr 15 96 (x0) M102).bind fun v104 => ((xq_sb (v104) (x2) (1) M102).bind fun M106 => (some M106))))
theorem k349_51 {d f : Nat}     {x0 : Nat} {x2 : Int} {y0 : Int} {y1 : Int} {y2 : Int} {y3 : Nat} {M : xj_M} {R : xj_M} (hx2 : xin x2) (hy0 : xiN y0) (hy1 : xin y1) (hy2 : xin y2) (h : f349_51   f x0 x2 y0 y1 y2 y3 M = some R) : xW (d + 256) (none, d + 256, none) xr_349 (51, [(0, xR_ x0), (2, xI x2)], [xZ y0, xI y1, xI y2, xR_ y3], M) (xQv R) := by
  unfold f349_51 at h
  obtain ⟨M102, e101, h⟩ := xbnd h
  refine xs_cs (kd := 2) (by decide) (i := 1032) (j := 348) (ar := [xZ (y0), xI (y1), xI (y2), xR_ (y3)]) (rest := []) (r2 := xr_348) (by decide +kernel) (by decide +kernel) (by decide +kernel) xr_348_e rfl (by decide) ?_
  refine xc_v (k348 (d := d + 255)  hy2 hy1 hy0 e101) rfl ?_
  refine xe_alr (ins := .aload_n 0) (len := 1) (i := 0) (by decide +kernel) rfl rfl rfl rfl rfl ?_
  obtain ⟨v104, e105, h⟩ := xbnd h
  refine xs_gr (i := 1029) (c := 15) (k := 96) (by decide +kernel) (by decide) (by decide +kernel) e105 rfl ?_
  refine xe_ldn (ins := .iload_n 2) (len := 1) (by decide +kernel) rfl rfl rfl rfl ?_
  refine xe_iconst (n := 1) (by decide +kernel) rfl ?_
  obtain ⟨M106, e107, h⟩ := xbnd h
  refine xs_bast (by decide +kernel) hx2 e107 rfl ?_
  cases h
  exact xe_ret_v (by decide +kernel) rfl ⟨rfl, rfl⟩
def f349_34   (f : Nat) (x0 : Nat) (x2 : Int) (x4 : Int) (y0 : Int) (y1 : Int) (y2 : Nat) (M : xj_M) : Option (xj_M) := ((xq_gi 15 91 (x0) M).bind fun v108 => (if ¬ (v108) = 0 then ((xq_gi 15 91 (x0) M).bind fun v111 => f349_51   f (x0) (x2) (v111) (y0) (y1) (y2) M) else f349_51   f (x0) (x2) (x4) (y0) (y1) (y2) M))
theorem k349_34 {d f : Nat}     {x0 : Nat} {x2 : Int} {x4 : Int} {y0 : Int} {y1 : Int} {y2 : Nat} {M : xj_M} {R : xj_M} (hx2 : xin x2) (hx4 : xiN x4) (hy0 : xin y0) (hy1 : xin y1) (h : f349_34   f x0 x2 x4 y0 y1 y2 M = some R) : xW (d + 256) (none, d + 256, none) xr_349 (34, [(0, xR_ x0), (2, xI x2), (4, xZ x4)], [xI y0, xI y1, xR_ y2], M) (xQv R) := by
  unfold f349_34 at h
  refine xe_alr (ins := .aload_n 0) (len := 1) (i := 0) (by decide +kernel) rfl rfl rfl rfl rfl ?_
  obtain ⟨v108, e109, h⟩ := xbnd h
  refine xs_gi (i := 1051) (c := 15) (k := 91) (by decide +kernel) (by decide) (by decide +kernel) e109 rfl ?_
  refine xe_ifne (off := 8) (t := 46) (by decide +kernel) (by decide) rfl (xq_gi_in e109) (fun c110 => ?_) (fun c110 => ?_)
  · rw [if_pos c110] at h
    refine xe_alr (ins := .aload_n 0) (len := 1) (i := 0) (by decide +kernel) rfl rfl rfl rfl rfl ?_
    obtain ⟨v111, e112, h⟩ := xbnd h
    refine xs_gi (i := 1051) (c := 15) (k := 91) (by decide +kernel) (by decide) (by decide +kernel) e112 rfl ?_
    refine xe_i2l (by decide +kernel) rfl (xq_gi_in e112) ?_
    refine xW_lv rfl (l := [(0, xR_ (x0)), (2, xI (x2))]) (xsb_of ⟨rfl, rfl, trivial⟩ (show [0, 2, 4].Nodup by decide)) ?_
    exact k349_51   hx2 (xin_N (xq_gi_in e112)) hy0 hy1 h
  · rw [if_neg c110] at h
    refine xe_ldn (ins := .lload 4) (len := 2) (by decide +kernel) rfl rfl rfl rfl ?_
    refine xe_goto (off := 8) (nx := 51) (by decide +kernel) (by decide) ?_
    refine xW_lv rfl (l := [(0, xR_ (x0)), (2, xI (x2))]) (xsb_of ⟨rfl, rfl, trivial⟩ (show [0, 2, 4].Nodup by decide)) ?_
    exact k349_51   hx2 hx4 hy0 hy1 h
def f349  (f : Nat) (a0 : Nat) (a1 : Nat) (a2 : Int) (M : xj_M) : Option (xj_M) := ((xq_is 15 (a0) M).bind fun _ => ((f341  f (a0) (a1) (a2) M).bind fun R115 => ((xq_pi 15 91 (a0) (0) R115.2).bind fun M117 => ((xq_is 15 (a0) M117).bind fun _ => ((f350  f (a0) (a1) (R115.1) M117).bind fun R121 => ((xq_gi 15 91 (a0) R121.2).bind fun v123 => (if ¬ (v123) = 0 then f349_34   f (a0) (a2) (R121.1) (2) (a2) (a1) R121.2 else f349_34   f (a0) (a2) (R121.1) (1) (a2) (a1) R121.2)))))))
theorem k349 {d f : Nat}   {a0 : Nat} {a1 : Nat} {a2 : Int} {M : xj_M} {R : xj_M} (ha2 : xin a2) (h : f349  f a0 a1 a2 M = some R) : xT (d + 257) 349 [xR_ a0, xR_ a1, xI a2] M (xQv R) := by
  refine xT_m xr_349_e (X := (none, d + 256, none)) rfl (xa_1 (xR_cat _) (xa_1 (xR_cat _) (xa_1 (xI_cat _) xa_n))) (by decide) ?_
  unfold f349 at h
  refine xe_alr (ins := .aload_n 0) (len := 1) (i := 0) (by decide +kernel) rfl rfl rfl rfl rfl ?_
  refine xe_alr (ins := .aload_n 1) (len := 1) (i := 1) (by decide +kernel) rfl rfl rfl rfl rfl ?_
  refine xe_ldn (ins := .iload_n 2) (len := 1) (by decide +kernel) rfl rfl rfl rfl ?_
  obtain ⟨_, e114, h⟩ := xbnd h
  obtain ⟨R115, e113, h⟩ := xbnd h
  refine xs_cv (i := 1010) (j := 341) (ar := [xI (a2), xR_ (a1)]) (rest := []) (r2 := xr_341) (by decide +kernel) (by decide +kernel) (by decide +kernel) xr_341_e rfl (by decide) (by decide) e114 ?_
  refine xc_i (k341 (d := d + 150)  ha2 e113) rfl (fun hi116 => ?_)
  refine xe_isr (ins := .istore_n 3) (len := 1) (i := 3) (by decide +kernel) rfl rfl rfl (by decide) (xk_k (show ¬ (0 : Nat) = 3 by decide) (Or.inl (show ¬ (0 + 1 : Nat) = 3 by decide)) (xk_k (show ¬ (1 : Nat) = 3 by decide) (Or.inl (show ¬ (1 + 1 : Nat) = 3 by decide)) (xk_k (show ¬ (2 : Nat) = 3 by decide) (Or.inr (xI_cat _)) xk_n))) rfl ?_
  refine xe_alr (ins := .aload_n 0) (len := 1) (i := 0) (by decide +kernel) rfl rfl rfl rfl rfl ?_
  refine xe_iconst (n := 0) (by decide +kernel) rfl ?_
  obtain ⟨M117, e118, h⟩ := xbnd h
  refine xs_p (i := 1051) (c := 15) (k := 91) (by decide +kernel) (by decide +kernel) (by decide +kernel) e118 rfl ?_
  refine xe_alr (ins := .aload_n 0) (len := 1) (i := 0) (by decide +kernel) rfl rfl rfl rfl rfl ?_
  refine xe_alr (ins := .aload_n 1) (len := 1) (i := 1) (by decide +kernel) rfl rfl rfl rfl rfl ?_
  refine xe_ldn (ins := .iload_n 3) (len := 1) (by decide +kernel) rfl rfl rfl rfl ?_
  obtain ⟨_, e120, h⟩ := xbnd h
  obtain ⟨R121, e119, h⟩ := xbnd h
  refine xs_cv (i := 1054) (j := 350) (ar := [xI (R115.1), xR_ (a1)]) (rest := []) (r2 := xr_350) (by decide +kernel) (by decide +kernel) (by decide +kernel) xr_350_e rfl (by decide) (by decide) e120 ?_
  refine xc_l (k350 (d := d + 0)  hi116 e119) rfl (fun hi122 => ?_)
  refine xe_lsr (ins := .lstore 4) (len := 2) (i := 4) (by decide +kernel) rfl rfl rfl (by decide) (xk2_k (show ¬ (3 : Nat) = 4 by decide) (show ¬ (3 : Nat) = 4 + 1 by decide) (Or.inr (xI_cat _)) (xk2_k (show ¬ (0 : Nat) = 4 by decide) (show ¬ (0 : Nat) = 4 + 1 by decide) (Or.inl (show ¬ (0 + 1 : Nat) = 4 by decide)) (xk2_k (show ¬ (1 : Nat) = 4 by decide) (show ¬ (1 : Nat) = 4 + 1 by decide) (Or.inl (show ¬ (1 + 1 : Nat) = 4 by decide)) (xk2_k (show ¬ (2 : Nat) = 4 by decide) (show ¬ (2 : Nat) = 4 + 1 by decide) (Or.inl (show ¬ (2 + 1 : Nat) = 4 by decide)) xk2_n)))) rfl ?_
  refine xe_alr (ins := .aload_n 1) (len := 1) (i := 1) (by decide +kernel) rfl rfl rfl rfl rfl ?_
  refine xe_ldn (ins := .iload_n 2) (len := 1) (by decide +kernel) rfl rfl rfl rfl ?_
  refine xe_alr (ins := .aload_n 0) (len := 1) (i := 0) (by decide +kernel) rfl rfl rfl rfl rfl ?_
  obtain ⟨v123, e124, h⟩ := xbnd h
  refine xs_gi (i := 1051) (c := 15) (k := 91) (by decide +kernel) (by decide) (by decide +kernel) e124 rfl ?_
  refine xe_ifne (off := 7) (t := 33) (by decide +kernel) (by decide) rfl (xq_gi_in e124) (fun c125 => ?_) (fun c125 => ?_)
  · rw [if_pos c125] at h
    refine xe_iconst (n := 2) (by decide +kernel) rfl ?_
    refine xW_lv rfl (l := [(0, xR_ (a0)), (2, xI (a2)), (4, xZ (R121.1))]) (xsb_of ⟨rfl, rfl, rfl, trivial⟩ (show [4, 3, 0, 1, 2].Nodup by decide)) ?_
    exact k349_34   ha2 hi122 (show xin (2) by decide) ha2 h
  · rw [if_neg c125] at h
    refine xe_iconst (n := 1) (by decide +kernel) rfl ?_
    refine xe_goto (off := 4) (nx := 34) (by decide +kernel) (by decide) ?_
    refine xW_lv rfl (l := [(0, xR_ (a0)), (2, xI (a2)), (4, xZ (R121.1))]) (xsb_of ⟨rfl, rfl, rfl, trivial⟩ (show [4, 3, 0, 1, 2].Nodup by decide)) ?_
    exact k349_34   ha2 hi122 (show xin (1) by decide) ha2 h
-- ChangeHouseModel.cell
def xr_356 : xj_mR := (15, yX15_cell, cX15_cell, 3, (Option.some Jvm.ClassFile.FieldType.int), 0, false, (11, 31), (1, 12))
set_option maxRecDepth 20000 in
theorem xr_356_e : xj_row 356 = some xr_356 := rfl
def f356_60   (f : Nat) (x0 : Nat) (y0 : Int) (y1 : Int) (y2 : Nat) (M : xj_M) : Option (Int × xj_M) := ((xq_si (y2) (y1) (y0) M).bind fun M101 => ((xq_gi 15 90 (x0) M101).bind fun v103 => (some (v103, M101))))
theorem k356_60 {d f : Nat}     {x0 : Nat} {y0 : Int} {y1 : Int} {y2 : Nat} {M : xj_M} {R : Int × xj_M} (hy0 : xin y0) (hy1 : xin y1) (h : f356_60   f x0 y0 y1 y2 M = some R) : xW (d + 105) (none, d + 105, none) xr_356 (60, [(0, xR_ x0)], [xI y0, xI y1, xR_ y2], M) (xQi R) := by
  unfold f356_60 at h
  obtain ⟨M101, e102, h⟩ := xbnd h
  refine xs_iast (by decide +kernel) hy1 e102 rfl ?_
  refine xe_alr (ins := .aload_n 0) (len := 1) (i := 0) (by decide +kernel) rfl rfl rfl rfl rfl ?_
  obtain ⟨v103, e104, h⟩ := xbnd h
  refine xs_gi (i := 964) (c := 15) (k := 90) (by decide +kernel) (by decide) (by decide +kernel) e104 rfl ?_
  cases h
  exact xe_ret_i (ty := .int) (by decide +kernel) rfl rfl ⟨rfl, rfl, (xq_gi_in e104)⟩
def f356  (f : Nat) (a0 : Nat) (M : xj_M) : Option (Int × xj_M) := ((xq_is 15 (a0) M).bind fun _ => ((f361  f (a0) M).bind fun R107 => ((xq_gr 15 68 (a0) R107.2).bind fun v109 => ((xq_is 15 (a0) R107.2).bind fun _ => ((f333  f (a0) (v109) (0) (R107.1) R107.2).bind fun R113 => ((xq_is 15 (a0) R113.2).bind fun _ => ((f211  f (a0) R113.2).bind fun R117 => (if (R117.1) = 0 then ((xq_gr 15 61 (a0) R117.2).bind fun v120 => ((xq_gi 15 62 (a0) R117.2).bind fun v122 => ((xq_ar (v120) (v122) R117.2).bind fun v124 => ((xq_gr 13 30 (v124) R117.2).bind fun v126 => ((xq_gi 15 90 (a0) R117.2).bind fun v128 => (if ¬ (R113.1) = (-1) then ((xq_is 15 (a0) R117.2).bind fun _ => ((f294  f (a0) (R107.1) R117.2).bind fun R133 => f356_60   f (a0) (R133.1) (v128) (v126) R133.2)) else f356_60   f (a0) (0) (v128) (v126) R117.2)))))) else ((xq_gi 15 7 (a0) R117.2).bind fun v135 => (some (xwr ((-1) - (v135)), R117.2)))))))))))
theorem k356 {d f : Nat}   {a0 : Nat} {M : xj_M} {R : Int × xj_M}  (h : f356  f a0 M = some R) : xT (d + 106) 356 [xR_ a0] M (xQi R) := by
  refine xT_m xr_356_e (X := (none, d + 105, none)) rfl (xa_1 (xR_cat _) xa_n) (by decide) ?_
  unfold f356 at h
  refine xe_alr (ins := .aload_n 0) (len := 1) (i := 0) (by decide +kernel) rfl rfl rfl rfl rfl ?_
  obtain ⟨_, e106, h⟩ := xbnd h
  obtain ⟨R107, e105, h⟩ := xbnd h
  refine xs_cv (i := 1080) (j := 361) (ar := []) (rest := []) (r2 := xr_361) (by decide +kernel) (by decide +kernel) (by decide +kernel) xr_361_e rfl (by decide) (by decide) e106 ?_
  refine xc_i (k361 (d := d + 104)   e105) rfl (fun hi108 => ?_)
  refine xe_isr (ins := .istore_n 1) (len := 1) (i := 1) (by decide +kernel) rfl rfl rfl (by decide) (xk_k (show ¬ (0 : Nat) = 1 by decide) (Or.inr (xR_cat _)) xk_n) rfl ?_
  refine xe_alr (ins := .aload_n 0) (len := 1) (i := 0) (by decide +kernel) rfl rfl rfl rfl rfl ?_
  refine xe_alr (ins := .aload_n 0) (len := 1) (i := 0) (by decide +kernel) rfl rfl rfl rfl rfl ?_
  obtain ⟨v109, e110, h⟩ := xbnd h
  refine xs_gr (i := 645) (c := 15) (k := 68) (by decide +kernel) (by decide) (by decide +kernel) e110 rfl ?_
  refine xe_iconst (n := 0) (by decide +kernel) rfl ?_
  refine xe_ldn (ins := .iload_n 1) (len := 1) (by decide +kernel) rfl rfl rfl rfl ?_
  obtain ⟨_, e112, h⟩ := xbnd h
  obtain ⟨R113, e111, h⟩ := xbnd h
  refine xs_cv (i := 995) (j := 333) (ar := [xI (R107.1), xI (0), xR_ (v109)]) (rest := []) (r2 := xr_333) (by decide +kernel) (by decide +kernel) (by decide +kernel) xr_333_e rfl (by decide) (by decide) e112 ?_
  refine xc_i (k333 (d := d + 0)  (show xin (0) by decide) hi108 e111) rfl (fun hi114 => ?_)
  refine xe_isr (ins := .istore_n 2) (len := 1) (i := 2) (by decide +kernel) rfl rfl rfl (by decide) (xk_k (show ¬ (1 : Nat) = 2 by decide) (Or.inr (xI_cat _)) (xk_k (show ¬ (0 : Nat) = 2 by decide) (Or.inl (show ¬ (0 + 1 : Nat) = 2 by decide)) xk_n)) rfl ?_
  refine xe_alr (ins := .aload_n 0) (len := 1) (i := 0) (by decide +kernel) rfl rfl rfl rfl rfl ?_
  obtain ⟨_, e116, h⟩ := xbnd h
  obtain ⟨R117, e115, h⟩ := xbnd h
  refine xs_cv (i := 28) (j := 211) (ar := []) (rest := []) (r2 := xr_211) (by decide +kernel) (by decide +kernel) (by decide +kernel) xr_211_e rfl (by decide) (by decide) e116 ?_
  refine xc_i (k211 (d := d + 104)   e115) rfl (fun hi118 => ?_)
  refine xe_ifeq (off := 10) (t := 30) (by decide +kernel) (by decide) rfl hi118 (fun c119 => ?_) (fun c119 => ?_)
  · rw [if_pos c119] at h
    refine xe_alr (ins := .aload_n 0) (len := 1) (i := 0) (by decide +kernel) rfl rfl rfl rfl rfl ?_
    obtain ⟨v120, e121, h⟩ := xbnd h
    refine xs_gr (i := 667) (c := 15) (k := 61) (by decide +kernel) (by decide) (by decide +kernel) e121 rfl ?_
    refine xe_alr (ins := .aload_n 0) (len := 1) (i := 0) (by decide +kernel) rfl rfl rfl rfl rfl ?_
    obtain ⟨v122, e123, h⟩ := xbnd h
    refine xs_gi (i := 664) (c := 15) (k := 62) (by decide +kernel) (by decide) (by decide +kernel) e123 rfl ?_
    obtain ⟨v124, e125, h⟩ := xbnd h
    refine xs_aald (by decide +kernel) (xq_gi_in e123) e125 rfl ?_
    obtain ⟨v126, e127, h⟩ := xbnd h
    refine xs_gr (i := 1077) (c := 13) (k := 30) (by decide +kernel) (by decide) (by decide +kernel) e127 rfl ?_
    refine xe_alr (ins := .aload_n 0) (len := 1) (i := 0) (by decide +kernel) rfl rfl rfl rfl rfl ?_
    obtain ⟨v128, e129, h⟩ := xbnd h
    refine xs_gi (i := 964) (c := 15) (k := 90) (by decide +kernel) (by decide) (by decide +kernel) e129 rfl ?_
    refine xe_ldn (ins := .iload_n 2) (len := 1) (by decide +kernel) rfl rfl rfl rfl ?_
    refine xe_iconst (n := -1) (by decide +kernel) rfl ?_
    refine xe_icmpne (off := 7) (t := 55) (by decide +kernel) (by decide) rfl hi114 (show xin (-1) by decide) (fun c130 => ?_) (fun c130 => ?_)
    · rw [if_pos c130] at h
      refine xe_alr (ins := .aload_n 0) (len := 1) (i := 0) (by decide +kernel) rfl rfl rfl rfl rfl ?_
      refine xe_ldn (ins := .iload_n 1) (len := 1) (by decide +kernel) rfl rfl rfl rfl ?_
      obtain ⟨_, e132, h⟩ := xbnd h
      obtain ⟨R133, e131, h⟩ := xbnd h
      refine xs_cv (i := 1083) (j := 294) (ar := [xI (R107.1)]) (rest := [xI (v128), xR_ (v126)]) (r2 := xr_294) (by decide +kernel) (by decide +kernel) (by decide +kernel) xr_294_e rfl (by decide) (by simp only [List.map_cons, List.map_nil, List.sum_cons, List.sum_nil, xR_cat, xI_cat, xZ_cat]; decide) e132 ?_
      refine xc_i (k294 (d := d + 104)  hi108 e131) rfl (fun hi134 => ?_)
      refine xW_lv rfl (l := [(0, xR_ (a0))]) (xsb_of ⟨rfl, trivial⟩ (show [2, 1, 0].Nodup by decide)) ?_
      exact k356_60   hi134 (xq_gi_in e129) h
    · rw [if_neg c130] at h
      refine xe_iconst (n := 0) (by decide +kernel) rfl ?_
      refine xe_goto (off := 8) (nx := 60) (by decide +kernel) (by decide) ?_
      refine xW_lv rfl (l := [(0, xR_ (a0))]) (xsb_of ⟨rfl, trivial⟩ (show [2, 1, 0].Nodup by decide)) ?_
      exact k356_60   (show xin (0) by decide) (xq_gi_in e129) h
  · rw [if_neg c119] at h
    refine xe_iconst (n := -1) (by decide +kernel) rfl ?_
    refine xe_alr (ins := .aload_n 0) (len := 1) (i := 0) (by decide +kernel) rfl rfl rfl rfl rfl ?_
    obtain ⟨v135, e136, h⟩ := xbnd h
    refine xs_gi (i := 11) (c := 15) (k := 7) (by decide +kernel) (by decide) (by decide +kernel) e136 rfl ?_
    refine xe_isub (by decide +kernel) rfl ?_
    cases h
    exact xe_ret_i (ty := .int) (by decide +kernel) rfl rfl ⟨rfl, rfl, (xin_wr _)⟩
-- ChangeHouseModel.readRule
def xr_237 : xj_mR := (15, yX15_readRule, cX15_readRule, 3, (Option.none : Option Jvm.ClassFile.FieldType), 0, false, (9, 13), (1, 12))
set_option maxRecDepth 20000 in
theorem xr_237_e : xj_row 237 = some xr_237 := rfl
def f237_176   (f : Nat) (x0 : Nat) (M : xj_M) : Option (xj_M) := ((xq_is 15 (x0) M).bind fun _ => ((f222  f (x0) (46) M).bind fun M103 => ((xq_gr 15 22 (x0) M103).bind fun v105 => ((xq_gi 14 9 (v105) M103).bind fun v107 => ((xq_pi 14 9 (v105) (xwr ((v107) + (1))) M103).bind fun M109 => (some M109))))))
theorem k237_176 {d f : Nat}     {x0 : Nat} {M : xj_M} {R : xj_M}  (h : f237_176   f x0 M = some R) : xW (d + 109) (none, d + 109, none) xr_237 (176, [(0, xR_ x0)], [], M) (xQv R) := by
  unfold f237_176 at h
  refine xe_alr (ins := .aload_n 0) (len := 1) (i := 0) (by decide +kernel) rfl rfl rfl rfl rfl ?_
  refine xe_bipush (n := 46) (by decide +kernel) (by decide) rfl ?_
  obtain ⟨_, e102, h⟩ := xbnd h
  obtain ⟨M103, e101, h⟩ := xbnd h
  refine xs_cv (i := 248) (j := 222) (ar := [xI (46)]) (rest := []) (r2 := xr_222) (by decide +kernel) (by decide +kernel) (by decide +kernel) xr_222_e rfl (by decide) (by decide) e102 ?_
  refine xc_v (k222 (d := d + 101)  (show xin (46) by decide) e101) rfl ?_
  refine xe_alr (ins := .aload_n 0) (len := 1) (i := 0) (by decide +kernel) rfl rfl rfl rfl rfl ?_
  obtain ⟨v105, e106, h⟩ := xbnd h
  refine xs_gr (i := 197) (c := 15) (k := 22) (by decide +kernel) (by decide) (by decide +kernel) e106 rfl ?_
  refine xe_dupr (by decide +kernel) rfl ?_
  obtain ⟨v107, e108, h⟩ := xbnd h
  refine xs_gi (i := 171) (c := 14) (k := 9) (by decide +kernel) (by decide) (by decide +kernel) e108 rfl ?_
  refine xe_iconst (n := 1) (by decide +kernel) rfl ?_
  refine xe_iadd (by decide +kernel) rfl ?_
  obtain ⟨M109, e110, h⟩ := xbnd h
  refine xs_p (i := 171) (c := 14) (k := 9) (by decide +kernel) (by decide +kernel) (by decide +kernel) e110 rfl ?_
  cases h
  exact xe_ret_v (by decide +kernel) rfl ⟨rfl, rfl⟩
def f237_89   (f : Nat) (x0 : Nat) (x1 : Int) (x2 : Int) (M : xj_M) : Option (xj_M) := ((xq_is 15 (x0) M).bind fun _ => ((f222  f (x0) (41) M).bind fun M113 => ((xq_is 15 (x0) M113).bind fun _ => ((f211  f (x0) M113).bind fun R117 => (if (R117.1) = 0 then ((xq_gr 15 22 (x0) R117.2).bind fun v120 => ((xq_gr 14 15 (v120) R117.2).bind fun v122 => ((xq_gi 15 23 (x0) R117.2).bind fun v124 => ((xq_si (v122) (v124) (x2) R117.2).bind fun M126 => ((xq_gr 15 22 (x0) M126).bind fun v128 => ((xq_gr 14 16 (v128) M126).bind fun v130 => ((xq_gi 15 23 (x0) M126).bind fun v132 => ((xq_si (v130) (v132) (x1) M126).bind fun M134 => ((xq_gr 15 22 (x0) M134).bind fun v136 => ((xq_gr 14 7 (v136) M134).bind fun v138 => ((xq_sb (v138) (x2) (1) M134).bind fun M140 => ((xq_gr 15 22 (x0) M140).bind fun v142 => ((xq_gr 14 17 (v142) M140).bind fun v144 => ((xq_gi 15 23 (x0) M140).bind fun v146 => ((xq_ai 3 (v144) (v146) M140).bind fun v148 => ((xq_is 15 (x0) M140).bind fun _ => ((f229  f (x0) (x2) (x1) (v148) (3) M140).bind fun M152 => ((xq_is 15 (x0) M152).bind fun _ => ((f220  f (x0) (300) M152).bind fun R156 => (if (R156.1) = 0 then f237_176   f (x0) R156.2 else ((xq_is 15 (x0) R156.2).bind fun _ => ((f213  f (x0) R156.2).bind fun M161 => ((xq_is 15 (x0) M161).bind fun _ => ((f246  f (x0) M161).bind fun M165 => f237_176   f (x0) M165)))))))))))))))))))))))) else (some R117.2))))))
theorem k237_89 {d f : Nat}     {x0 : Nat} {x1 : Int} {x2 : Int} {M : xj_M} {R : xj_M} (hx1 : xin x1) (hx2 : xin x2) (h : f237_89   f x0 x1 x2 M = some R) : xW (d + 109) (none, d + 109, none) xr_237 (89, [(0, xR_ x0), (1, xI x1), (2, xI x2)], [], M) (xQv R) := by
  unfold f237_89 at h
  refine xe_alr (ins := .aload_n 0) (len := 1) (i := 0) (by decide +kernel) rfl rfl rfl rfl rfl ?_
  refine xe_bipush (n := 41) (by decide +kernel) (by decide) rfl ?_
  obtain ⟨_, e112, h⟩ := xbnd h
  obtain ⟨M113, e111, h⟩ := xbnd h
  refine xs_cv (i := 248) (j := 222) (ar := [xI (41)]) (rest := []) (r2 := xr_222) (by decide +kernel) (by decide +kernel) (by decide +kernel) xr_222_e rfl (by decide) (by decide) e112 ?_
  refine xc_v (k222 (d := d + 101)  (show xin (41) by decide) e111) rfl ?_
  refine xe_alr (ins := .aload_n 0) (len := 1) (i := 0) (by decide +kernel) rfl rfl rfl rfl rfl ?_
  obtain ⟨_, e116, h⟩ := xbnd h
  obtain ⟨R117, e115, h⟩ := xbnd h
  refine xs_cv (i := 28) (j := 211) (ar := []) (rest := []) (r2 := xr_211) (by decide +kernel) (by decide +kernel) (by decide +kernel) xr_211_e rfl (by decide) (by decide) e116 ?_
  refine xc_i (k211 (d := d + 108)   e115) rfl (fun hi118 => ?_)
  refine xe_ifeq (off := 4) (t := 103) (by decide +kernel) (by decide) rfl hi118 (fun c119 => ?_) (fun c119 => ?_)
  · rw [if_pos c119] at h
    refine xe_alr (ins := .aload_n 0) (len := 1) (i := 0) (by decide +kernel) rfl rfl rfl rfl rfl ?_
    obtain ⟨v120, e121, h⟩ := xbnd h
    refine xs_gr (i := 197) (c := 15) (k := 22) (by decide +kernel) (by decide) (by decide +kernel) e121 rfl ?_
    obtain ⟨v122, e123, h⟩ := xbnd h
    refine xs_gr (i := 292) (c := 14) (k := 15) (by decide +kernel) (by decide) (by decide +kernel) e123 rfl ?_
    refine xe_alr (ins := .aload_n 0) (len := 1) (i := 0) (by decide +kernel) rfl rfl rfl rfl rfl ?_
    obtain ⟨v124, e125, h⟩ := xbnd h
    refine xs_gi (i := 259) (c := 15) (k := 23) (by decide +kernel) (by decide) (by decide +kernel) e125 rfl ?_
    refine xe_ldn (ins := .iload_n 2) (len := 1) (by decide +kernel) rfl rfl rfl rfl ?_
    obtain ⟨M126, e127, h⟩ := xbnd h
    refine xs_iast (by decide +kernel) (xq_gi_in e125) e127 rfl ?_
    refine xe_alr (ins := .aload_n 0) (len := 1) (i := 0) (by decide +kernel) rfl rfl rfl rfl rfl ?_
    obtain ⟨v128, e129, h⟩ := xbnd h
    refine xs_gr (i := 197) (c := 15) (k := 22) (by decide +kernel) (by decide) (by decide +kernel) e129 rfl ?_
    obtain ⟨v130, e131, h⟩ := xbnd h
    refine xs_gr (i := 295) (c := 14) (k := 16) (by decide +kernel) (by decide) (by decide +kernel) e131 rfl ?_
    refine xe_alr (ins := .aload_n 0) (len := 1) (i := 0) (by decide +kernel) rfl rfl rfl rfl rfl ?_
    obtain ⟨v132, e133, h⟩ := xbnd h
    refine xs_gi (i := 259) (c := 15) (k := 23) (by decide +kernel) (by decide) (by decide +kernel) e133 rfl ?_
    refine xe_ldn (ins := .iload_n 1) (len := 1) (by decide +kernel) rfl rfl rfl rfl ?_
    obtain ⟨M134, e135, h⟩ := xbnd h
    refine xs_iast (by decide +kernel) (xq_gi_in e133) e135 rfl ?_
    refine xe_alr (ins := .aload_n 0) (len := 1) (i := 0) (by decide +kernel) rfl rfl rfl rfl rfl ?_
    obtain ⟨v136, e137, h⟩ := xbnd h
    refine xs_gr (i := 197) (c := 15) (k := 22) (by decide +kernel) (by decide) (by decide +kernel) e137 rfl ?_
    obtain ⟨v138, e139, h⟩ := xbnd h
    refine xs_gr (i := 194) (c := 14) (k := 7) (by decide +kernel) (by decide) (by decide +kernel) e139 rfl ?_
    refine xe_ldn (ins := .iload_n 2) (len := 1) (by decide +kernel) rfl rfl rfl rfl ?_
    refine xe_iconst (n := 1) (by decide +kernel) rfl ?_
    obtain ⟨M140, e141, h⟩ := xbnd h
    refine xs_bast (by decide +kernel) hx2 e141 rfl ?_
    refine xe_alr (ins := .aload_n 0) (len := 1) (i := 0) (by decide +kernel) rfl rfl rfl rfl rfl ?_
    refine xe_ldn (ins := .iload_n 2) (len := 1) (by decide +kernel) rfl rfl rfl rfl ?_
    refine xe_ldn (ins := .iload_n 1) (len := 1) (by decide +kernel) rfl rfl rfl rfl ?_
    refine xe_alr (ins := .aload_n 0) (len := 1) (i := 0) (by decide +kernel) rfl rfl rfl rfl rfl ?_
    obtain ⟨v142, e143, h⟩ := xbnd h
    refine xs_gr (i := 197) (c := 15) (k := 22) (by decide +kernel) (by decide) (by decide +kernel) e143 rfl ?_
    obtain ⟨v144, e145, h⟩ := xbnd h
    refine xs_gr (i := 274) (c := 14) (k := 17) (by decide +kernel) (by decide) (by decide +kernel) e145 rfl ?_
    refine xe_alr (ins := .aload_n 0) (len := 1) (i := 0) (by decide +kernel) rfl rfl rfl rfl rfl ?_
    obtain ⟨v146, e147, h⟩ := xbnd h
    refine xs_gi (i := 259) (c := 15) (k := 23) (by decide +kernel) (by decide) (by decide +kernel) e147 rfl ?_
    obtain ⟨v148, e149, h⟩ := xbnd h
    refine xs_iald rfl (by decide +kernel) (xq_gi_in e147) e149 rfl ?_
    refine xe_iconst (n := 3) (by decide +kernel) rfl ?_
    obtain ⟨_, e151, h⟩ := xbnd h
    obtain ⟨M152, e150, h⟩ := xbnd h
    refine xs_cv (i := 255) (j := 229) (ar := [xI (3), xI (v148), xI (x1), xI (x2)]) (rest := []) (r2 := xr_229) (by decide +kernel) (by decide +kernel) (by decide +kernel) xr_229_e rfl (by decide) (by decide) e151 ?_
    refine xc_v (k229 (d := d + 108)  hx2 hx1 (xq_ai_in e149) (show xin (3) by decide) e150) rfl ?_
    refine xe_alr (ins := .aload_n 0) (len := 1) (i := 0) (by decide +kernel) rfl rfl rfl rfl rfl ?_
    refine xe_sipush (n := 300) (by decide +kernel) (by decide) rfl ?_
    obtain ⟨_, e155, h⟩ := xbnd h
    obtain ⟨R156, e154, h⟩ := xbnd h
    refine xs_cv (i := 115) (j := 220) (ar := [xI (300)]) (rest := []) (r2 := xr_220) (by decide +kernel) (by decide +kernel) (by decide +kernel) xr_220_e rfl (by decide) (by decide) e155 ?_
    refine xc_i (k220 (d := d + 107)  (show xin (300) by decide) e154) rfl (fun hi157 => ?_)
    refine xe_ifeq (off := 11) (t := 176) (by decide +kernel) (by decide) rfl hi157 (fun c158 => ?_) (fun c158 => ?_)
    · rw [if_pos c158] at h
      refine xW_lv rfl (l := [(0, xR_ (x0))]) (xsb_of ⟨rfl, trivial⟩ (show [0, 1, 2].Nodup by decide)) ?_
      exact k237_176    h
    · rw [if_neg c158] at h
      refine xe_alr (ins := .aload_n 0) (len := 1) (i := 0) (by decide +kernel) rfl rfl rfl rfl rfl ?_
      obtain ⟨_, e160, h⟩ := xbnd h
      obtain ⟨M161, e159, h⟩ := xbnd h
      refine xs_cv (i := 118) (j := 213) (ar := []) (rest := []) (r2 := xr_213) (by decide +kernel) (by decide +kernel) (by decide +kernel) xr_213_e rfl (by decide) (by decide) e160 ?_
      refine xc_v (k213 (d := d + 102)   e159) rfl ?_
      refine xe_alr (ins := .aload_n 0) (len := 1) (i := 0) (by decide +kernel) rfl rfl rfl rfl rfl ?_
      obtain ⟨_, e164, h⟩ := xbnd h
      obtain ⟨M165, e163, h⟩ := xbnd h
      refine xs_cv (i := 298) (j := 246) (ar := []) (rest := []) (r2 := xr_246) (by decide +kernel) (by decide +kernel) (by decide +kernel) xr_246_e rfl (by decide) (by decide) e164 ?_
      refine xc_v (k246 (d := d + 0)   e163) rfl ?_
      refine xW_lv rfl (l := [(0, xR_ (x0))]) (xsb_of ⟨rfl, trivial⟩ (show [0, 1, 2].Nodup by decide)) ?_
      exact k237_176    h
  · rw [if_neg c119] at h
    cases h
    exact xe_ret_v (by decide +kernel) rfl ⟨rfl, rfl⟩
def f237_53b  (r53 : Nat → Int → Int → xj_M → Option (xj_M)) (f : Nat) (x0 : Nat) (x1 : Int) (x2 : Int) (M : xj_M) : Option (xj_M) := ((xq_is 15 (x0) M).bind fun _ => ((f220  f (x0) (44) M).bind fun R169 => (if (R169.1) = 0 then f237_89   f (x0) (x1) (x2) R169.2 else ((xq_gr 15 22 (x0) R169.2).bind fun v172 => ((xq_gr 14 17 (v172) R169.2).bind fun v174 => ((xq_gi 15 23 (x0) R169.2).bind fun v176 => ((xq_ai 3 (v174) (v176) R169.2).bind fun v178 => (if (4) ≤ (v178) then f237_89   f (x0) (x1) (x2) R169.2 else ((xq_is 15 (x0) R169.2).bind fun _ => ((f213  f (x0) R169.2).bind fun M183 => ((xq_is 15 (x0) M183).bind fun _ => ((f238  f (x0) M183).bind fun M187 => r53 (x0) (x1) (x2) M187))))))))))))
theorem k237_53b {d f : Nat}  {r53 : Nat → Int → Int → xj_M → Option (xj_M)}  (hr53 : ∀ {x0 : Nat} {x1 : Int} {x2 : Int} {M : xj_M} {R : xj_M}, xin x1 → xin x2 → r53 x0 x1 x2 M = some R → xW (d + 109) (none, d + 109, none) xr_237 (53, [(0, xR_ x0), (1, xI x1), (2, xI x2)], [], M) (xQv R)) {x0 : Nat} {x1 : Int} {x2 : Int} {M : xj_M} {R : xj_M} (hx1 : xin x1) (hx2 : xin x2) (h : f237_53b  r53 f x0 x1 x2 M = some R) : xW (d + 109) (none, d + 109, none) xr_237 (53, [(0, xR_ x0), (1, xI x1), (2, xI x2)], [], M) (xQv R) := by
  unfold f237_53b at h
  refine xe_alr (ins := .aload_n 0) (len := 1) (i := 0) (by decide +kernel) rfl rfl rfl rfl rfl ?_
  refine xe_bipush (n := 44) (by decide +kernel) (by decide) rfl ?_
  obtain ⟨_, e168, h⟩ := xbnd h
  obtain ⟨R169, e167, h⟩ := xbnd h
  refine xs_cv (i := 115) (j := 220) (ar := [xI (44)]) (rest := []) (r2 := xr_220) (by decide +kernel) (by decide +kernel) (by decide +kernel) xr_220_e rfl (by decide) (by decide) e168 ?_
  refine xc_i (k220 (d := d + 107)  (show xin (44) by decide) e167) rfl (fun hi170 => ?_)
  refine xe_ifeq (off := 30) (t := 89) (by decide +kernel) (by decide) rfl hi170 (fun c171 => ?_) (fun c171 => ?_)
  · rw [if_pos c171] at h
    refine xW_lv rfl (l := [(0, xR_ (x0)), (1, xI (x1)), (2, xI (x2))]) (xsb_of ⟨rfl, rfl, rfl, trivial⟩ (show [0, 1, 2].Nodup by decide)) ?_
    exact k237_89   hx1 hx2 h
  · rw [if_neg c171] at h
    refine xe_alr (ins := .aload_n 0) (len := 1) (i := 0) (by decide +kernel) rfl rfl rfl rfl rfl ?_
    obtain ⟨v172, e173, h⟩ := xbnd h
    refine xs_gr (i := 197) (c := 15) (k := 22) (by decide +kernel) (by decide) (by decide +kernel) e173 rfl ?_
    obtain ⟨v174, e175, h⟩ := xbnd h
    refine xs_gr (i := 274) (c := 14) (k := 17) (by decide +kernel) (by decide) (by decide +kernel) e175 rfl ?_
    refine xe_alr (ins := .aload_n 0) (len := 1) (i := 0) (by decide +kernel) rfl rfl rfl rfl rfl ?_
    obtain ⟨v176, e177, h⟩ := xbnd h
    refine xs_gi (i := 259) (c := 15) (k := 23) (by decide +kernel) (by decide) (by decide +kernel) e177 rfl ?_
    obtain ⟨v178, e179, h⟩ := xbnd h
    refine xs_iald rfl (by decide +kernel) (xq_gi_in e177) e179 rfl ?_
    refine xe_iconst (n := 4) (by decide +kernel) rfl ?_
    refine xe_icmpge (off := 14) (t := 89) (by decide +kernel) (by decide) rfl (xq_ai_in e179) (show xin (4) by decide) (fun c180 => ?_) (fun c180 => ?_)
    · rw [if_pos c180] at h
      refine xW_lv rfl (l := [(0, xR_ (x0)), (1, xI (x1)), (2, xI (x2))]) (xsb_of ⟨rfl, rfl, rfl, trivial⟩ (show [0, 1, 2].Nodup by decide)) ?_
      exact k237_89   hx1 hx2 h
    · rw [if_neg c180] at h
      refine xe_alr (ins := .aload_n 0) (len := 1) (i := 0) (by decide +kernel) rfl rfl rfl rfl rfl ?_
      obtain ⟨_, e182, h⟩ := xbnd h
      obtain ⟨M183, e181, h⟩ := xbnd h
      refine xs_cv (i := 118) (j := 213) (ar := []) (rest := []) (r2 := xr_213) (by decide +kernel) (by decide +kernel) (by decide +kernel) xr_213_e rfl (by decide) (by decide) e182 ?_
      refine xc_v (k213 (d := d + 102)   e181) rfl ?_
      refine xe_alr (ins := .aload_n 0) (len := 1) (i := 0) (by decide +kernel) rfl rfl rfl rfl rfl ?_
      obtain ⟨_, e186, h⟩ := xbnd h
      obtain ⟨M187, e185, h⟩ := xbnd h
      refine xs_cv (i := 289) (j := 238) (ar := []) (rest := []) (r2 := xr_238) (by decide +kernel) (by decide +kernel) (by decide +kernel) xr_238_e rfl (by decide) (by decide) e186 ?_
      refine xc_v (k238 (d := d + 12)   e185) rfl ?_
      refine xe_goto (off := -33) (nx := 53) (by decide +kernel) (by decide) ?_
      refine xW_lv rfl (l := [(0, xR_ (x0)), (1, xI (x1)), (2, xI (x2))]) (xsb_of ⟨rfl, rfl, rfl, trivial⟩ (show [0, 1, 2].Nodup by decide)) ?_
      exact hr53 hx1 hx2 h
def f237_53   (f : Nat) : Nat → Nat → Int → Int → xj_M → Option (xj_M)
  | 0, _, _, _, _ => none
  | n + 1, x0, x1, x2, M => f237_53b   (f237_53   f n) f x0 x1 x2 M
theorem k237_53 {d f : Nat}     : ∀ {n : Nat} {x0 : Nat} {x1 : Int} {x2 : Int} {M : xj_M} {R : xj_M}, xin x1 → xin x2 → f237_53   f n x0 x1 x2 M = some R → xW (d + 109) (none, d + 109, none) xr_237 (53, [(0, xR_ x0), (1, xI x1), (2, xI x2)], [], M) (xQv R) := by
  intro n
  induction n with
  | zero => intros; rename_i h; cases h
  | succ n ih => intros; rename_i h; exact k237_53b   ih (by assumption) (by assumption) h
def f237  (f : Nat) (a0 : Nat) (M : xj_M) : Option (xj_M) := ((xq_gi 15 4 (a0) M).bind fun v189 => ((xq_gr 15 22 (a0) M).bind fun v191 => ((xq_gi 14 9 (v191) M).bind fun v193 => (if ¬ (v193) = (24) then ((xq_is 15 (a0) M).bind fun _ => ((f232  f (a0) M).bind fun R198 => ((xq_gr 15 22 (a0) R198.2).bind fun v200 => ((xq_gi 14 9 (v200) R198.2).bind fun v202 => ((xq_is 15 (a0) R198.2).bind fun _ => ((f236  f (a0) (v202) R198.2).bind fun M206 => ((xq_is 15 (a0) M206).bind fun _ => ((f213  f (a0) M206).bind fun M210 => ((xq_is 15 (a0) M210).bind fun _ => ((f222  f (a0) (40) M210).bind fun M214 => ((xq_is 15 (a0) M214).bind fun _ => ((f238  f (a0) M214).bind fun M218 => f237_53   f f (a0) (v189) (R198.1) M218)))))))))))) else ((xq_is 15 (a0) M).bind fun _ => ((f210  f (a0) (v189) M).bind fun M222 => (some M222)))))))
theorem k237 {d f : Nat}   {a0 : Nat} {M : xj_M} {R : xj_M}  (h : f237  f a0 M = some R) : xT (d + 110) 237 [xR_ a0] M (xQv R) := by
  refine xT_m xr_237_e (X := (none, d + 109, none)) rfl (xa_1 (xR_cat _) xa_n) (by decide) ?_
  unfold f237 at h
  refine xe_alr (ins := .aload_n 0) (len := 1) (i := 0) (by decide +kernel) rfl rfl rfl rfl rfl ?_
  obtain ⟨v189, e190, h⟩ := xbnd h
  refine xs_gi (i := 43) (c := 15) (k := 4) (by decide +kernel) (by decide) (by decide +kernel) e190 rfl ?_
  refine xe_isr (ins := .istore_n 1) (len := 1) (i := 1) (by decide +kernel) rfl rfl rfl (by decide) (xk_k (show ¬ (0 : Nat) = 1 by decide) (Or.inr (xR_cat _)) xk_n) rfl ?_
  refine xe_alr (ins := .aload_n 0) (len := 1) (i := 0) (by decide +kernel) rfl rfl rfl rfl rfl ?_
  obtain ⟨v191, e192, h⟩ := xbnd h
  refine xs_gr (i := 197) (c := 15) (k := 22) (by decide +kernel) (by decide) (by decide +kernel) e192 rfl ?_
  obtain ⟨v193, e194, h⟩ := xbnd h
  refine xs_gi (i := 171) (c := 14) (k := 9) (by decide +kernel) (by decide) (by decide +kernel) e194 rfl ?_
  refine xe_bipush (n := 24) (by decide +kernel) (by decide) rfl ?_
  refine xe_icmpne (off := 9) (t := 23) (by decide +kernel) (by decide) rfl (xq_gi_in e194) (show xin (24) by decide) (fun c195 => ?_) (fun c195 => ?_)
  · rw [if_pos c195] at h
    refine xe_alr (ins := .aload_n 0) (len := 1) (i := 0) (by decide +kernel) rfl rfl rfl rfl rfl ?_
    obtain ⟨_, e197, h⟩ := xbnd h
    obtain ⟨R198, e196, h⟩ := xbnd h
    refine xs_cv (i := 245) (j := 232) (ar := []) (rest := []) (r2 := xr_232) (by decide +kernel) (by decide +kernel) (by decide +kernel) xr_232_e rfl (by decide) (by decide) e197 ?_
    refine xc_i (k232 (d := d + 105)   e196) rfl (fun hi199 => ?_)
    refine xe_isr (ins := .istore_n 2) (len := 1) (i := 2) (by decide +kernel) rfl rfl rfl (by decide) (xk_k (show ¬ (1 : Nat) = 2 by decide) (Or.inr (xI_cat _)) (xk_k (show ¬ (0 : Nat) = 2 by decide) (Or.inl (show ¬ (0 + 1 : Nat) = 2 by decide)) xk_n)) rfl ?_
    refine xe_alr (ins := .aload_n 0) (len := 1) (i := 0) (by decide +kernel) rfl rfl rfl rfl rfl ?_
    refine xe_alr (ins := .aload_n 0) (len := 1) (i := 0) (by decide +kernel) rfl rfl rfl rfl rfl ?_
    obtain ⟨v200, e201, h⟩ := xbnd h
    refine xs_gr (i := 197) (c := 15) (k := 22) (by decide +kernel) (by decide) (by decide +kernel) e201 rfl ?_
    obtain ⟨v202, e203, h⟩ := xbnd h
    refine xs_gi (i := 171) (c := 14) (k := 9) (by decide +kernel) (by decide) (by decide +kernel) e203 rfl ?_
    obtain ⟨_, e205, h⟩ := xbnd h
    obtain ⟨M206, e204, h⟩ := xbnd h
    refine xs_cv (i := 286) (j := 236) (ar := [xI (v202)]) (rest := []) (r2 := xr_236) (by decide +kernel) (by decide +kernel) (by decide +kernel) xr_236_e rfl (by decide) (by decide) e205 ?_
    refine xc_v (k236 (d := d + 108)  (xq_gi_in e203) e204) rfl ?_
    refine xe_alr (ins := .aload_n 0) (len := 1) (i := 0) (by decide +kernel) rfl rfl rfl rfl rfl ?_
    obtain ⟨_, e209, h⟩ := xbnd h
    obtain ⟨M210, e208, h⟩ := xbnd h
    refine xs_cv (i := 118) (j := 213) (ar := []) (rest := []) (r2 := xr_213) (by decide +kernel) (by decide +kernel) (by decide +kernel) xr_213_e rfl (by decide) (by decide) e209 ?_
    refine xc_v (k213 (d := d + 102)   e208) rfl ?_
    refine xe_alr (ins := .aload_n 0) (len := 1) (i := 0) (by decide +kernel) rfl rfl rfl rfl rfl ?_
    refine xe_bipush (n := 40) (by decide +kernel) (by decide) rfl ?_
    obtain ⟨_, e213, h⟩ := xbnd h
    obtain ⟨M214, e212, h⟩ := xbnd h
    refine xs_cv (i := 248) (j := 222) (ar := [xI (40)]) (rest := []) (r2 := xr_222) (by decide +kernel) (by decide +kernel) (by decide +kernel) xr_222_e rfl (by decide) (by decide) e213 ?_
    refine xc_v (k222 (d := d + 101)  (show xin (40) by decide) e212) rfl ?_
    refine xe_alr (ins := .aload_n 0) (len := 1) (i := 0) (by decide +kernel) rfl rfl rfl rfl rfl ?_
    obtain ⟨_, e217, h⟩ := xbnd h
    obtain ⟨M218, e216, h⟩ := xbnd h
    refine xs_cv (i := 289) (j := 238) (ar := []) (rest := []) (r2 := xr_238) (by decide +kernel) (by decide +kernel) (by decide +kernel) xr_238_e rfl (by decide) (by decide) e217 ?_
    refine xc_v (k238 (d := d + 12)   e216) rfl ?_
    refine xW_lv rfl (l := [(0, xR_ (a0)), (1, xI (v189)), (2, xI (R198.1))]) (xsb_of ⟨rfl, rfl, rfl, trivial⟩ (show [2, 1, 0].Nodup by decide)) ?_
    exact k237_53   (xq_gi_in e190) hi199 h
  · rw [if_neg c195] at h
    refine xe_alr (ins := .aload_n 0) (len := 1) (i := 0) (by decide +kernel) rfl rfl rfl rfl rfl ?_
    refine xe_ldn (ins := .iload_n 1) (len := 1) (by decide +kernel) rfl rfl rfl rfl ?_
    obtain ⟨_, e221, h⟩ := xbnd h
    obtain ⟨M222, e220, h⟩ := xbnd h
    refine xs_cv (i := 35) (j := 210) (ar := [xI (v189)]) (rest := []) (r2 := xr_210) (by decide +kernel) (by decide +kernel) (by decide +kernel) xr_210_e rfl (by decide) (by decide) e221 ?_
    refine xc_v (k210 (d := d + 108)  (xq_gi_in e190) e220) rfl ?_
    cases h
    exact xe_ret_v (by decide +kernel) rfl ⟨rfl, rfl⟩
-- ChangeHouseModel.valueCells
def xr_346 : xj_mR := (15, yX15_valueCells, cX15_valueCells, 4, (Option.none : Option Jvm.ClassFile.FieldType), 1, false, (10, 81), (1, 12))
set_option maxRecDepth 20000 in
theorem xr_346_e : xj_row 346 = some xr_346 := rfl
def f346_74  (r2 : Nat → Nat → Int → xj_M → Option (xj_M)) (f : Nat) (x0 : Nat) (x1 : Nat) (x2 : Int) (M : xj_M) : Option (xj_M) := r2 (x0) (x1) (xwr ((x2) + (1))) M
theorem k346_74 {d f : Nat}  {r2 : Nat → Nat → Int → xj_M → Option (xj_M)}  (hr2 : ∀ {x0 : Nat} {x1 : Nat} {x2 : Int} {M : xj_M} {R : xj_M}, xin x2 → r2 x0 x1 x2 M = some R → xW (d + 257) (none, d + 257, none) xr_346 (2, [(0, xR_ x0), (1, xR_ x1), (2, xI x2)], [], M) (xQv R)) {x0 : Nat} {x1 : Nat} {x2 : Int} {M : xj_M} {R : xj_M} (hx2 : xin x2) (h : f346_74  r2 f x0 x1 x2 M = some R) : xW (d + 257) (none, d + 257, none) xr_346 (74, [(0, xR_ x0), (1, xR_ x1), (2, xI x2)], [], M) (xQv R) := by
  unfold f346_74 at h
  refine xe_iincr (i := 2) (n := 1) (by decide +kernel) (by decide) rfl (xk_k (show ¬ (0 : Nat) = 2 by decide) (Or.inl (show ¬ (0 + 1 : Nat) = 2 by decide)) (xk_k (show ¬ (1 : Nat) = 2 by decide) (Or.inr (xR_cat _)) (xk_d rfl xk_n))) rfl ?_
  refine xe_goto (off := -75) (nx := 2) (by decide +kernel) (by decide) ?_
  refine xW_lv rfl (l := [(0, xR_ (x0)), (1, xR_ (x1)), (2, xI (xwr ((x2) + (1))))]) (xsb_of ⟨rfl, rfl, rfl, trivial⟩ (show [2, 0, 1].Nodup by decide)) ?_
  exact hr2 (xin_wr _) h
def f346_57  (r2 : Nat → Nat → Int → xj_M → Option (xj_M)) (f : Nat) (x0 : Nat) (x1 : Nat) (x2 : Int) (y0 : Int) (y1 : Int) (y2 : Nat) (M : xj_M) : Option (xj_M) := ((xq_sb (y2) (y1) (y0) M).bind fun M101 => ((xq_gr 15 96 (x0) M101).bind fun v103 => ((xq_ab (v103) (x2) M101).bind fun v105 => (if (v105) = 0 then f346_74  r2 f (x0) (x1) (x2) M101 else ((f348  f (x1) (x2) (0) (0) M101).bind fun M109 => f346_74  r2 f (x0) (x1) (x2) M109)))))
theorem k346_57 {d f : Nat}  {r2 : Nat → Nat → Int → xj_M → Option (xj_M)}  (hr2 : ∀ {x0 : Nat} {x1 : Nat} {x2 : Int} {M : xj_M} {R : xj_M}, xin x2 → r2 x0 x1 x2 M = some R → xW (d + 257) (none, d + 257, none) xr_346 (2, [(0, xR_ x0), (1, xR_ x1), (2, xI x2)], [], M) (xQv R)) {x0 : Nat} {x1 : Nat} {x2 : Int} {y0 : Int} {y1 : Int} {y2 : Nat} {M : xj_M} {R : xj_M} (hx2 : xin x2) (hy0 : xin y0) (hy1 : xin y1) (h : f346_57  r2 f x0 x1 x2 y0 y1 y2 M = some R) : xW (d + 257) (none, d + 257, none) xr_346 (57, [(0, xR_ x0), (1, xR_ x1), (2, xI x2)], [xI y0, xI y1, xR_ y2], M) (xQv R) := by
  unfold f346_57 at h
  obtain ⟨M101, e102, h⟩ := xbnd h
  refine xs_bast (by decide +kernel) hy1 e102 rfl ?_
  refine xe_alr (ins := .aload_n 0) (len := 1) (i := 0) (by decide +kernel) rfl rfl rfl rfl rfl ?_
  obtain ⟨v103, e104, h⟩ := xbnd h
  refine xs_gr (i := 1029) (c := 15) (k := 96) (by decide +kernel) (by decide) (by decide +kernel) e104 rfl ?_
  refine xe_ldn (ins := .iload_n 2) (len := 1) (by decide +kernel) rfl rfl rfl rfl ?_
  obtain ⟨v105, e106, h⟩ := xbnd h
  refine xs_bald (by decide +kernel) hx2 e106 rfl ?_
  refine xe_ifeq (off := 10) (t := 74) (by decide +kernel) (by decide) rfl (xq_ab_in e106) (fun c107 => ?_) (fun c107 => ?_)
  · rw [if_pos c107] at h
    refine xW_lv rfl (l := [(0, xR_ (x0)), (1, xR_ (x1)), (2, xI (x2))]) (xsb_of ⟨rfl, rfl, rfl, trivial⟩ (show [0, 1, 2].Nodup by decide)) ?_
    exact k346_74  hr2 hx2 h
  · rw [if_neg c107] at h
    refine xe_alr (ins := .aload_n 1) (len := 1) (i := 1) (by decide +kernel) rfl rfl rfl rfl rfl ?_
    refine xe_ldn (ins := .iload_n 2) (len := 1) (by decide +kernel) rfl rfl rfl rfl ?_
    refine xe_iconst (n := 0) (by decide +kernel) rfl ?_
    refine xe_lconst (n := 0) (z := 0) (by decide +kernel) rfl rfl ?_
    obtain ⟨M109, e108, h⟩ := xbnd h
    refine xs_cs (kd := 2) (by decide) (i := 1032) (j := 348) (ar := [xZ (0), xI (0), xI (x2), xR_ (x1)]) (rest := []) (r2 := xr_348) (by decide +kernel) (by decide +kernel) (by decide +kernel) xr_348_e rfl (by decide) ?_
    refine xc_v (k348 (d := d + 256)  hx2 (show xin (0) by decide) (show xiN (0) by decide) e108) rfl ?_
    refine xW_lv rfl (l := [(0, xR_ (x0)), (1, xR_ (x1)), (2, xI (x2))]) (xsb_of ⟨rfl, rfl, rfl, trivial⟩ (show [0, 1, 2].Nodup by decide)) ?_
    exact k346_74  hr2 hx2 h
def f346_148  (r82 : Nat → Nat → Int → xj_M → Option (xj_M)) (r90 : Nat → Nat → Int → Int → xj_M → Option (xj_M)) (f : Nat) (x0 : Nat) (x1 : Nat) (x2 : Int) (x3 : Int) (M : xj_M) : Option (xj_M) := r90 (x0) (x1) (x2) (xwr ((x3) + (1))) M
theorem k346_148 {d f : Nat}  {r82 : Nat → Nat → Int → xj_M → Option (xj_M)} {r90 : Nat → Nat → Int → Int → xj_M → Option (xj_M)}  (hr82 : ∀ {x0 : Nat} {x1 : Nat} {x2 : Int} {M : xj_M} {R : xj_M}, xin x2 → r82 x0 x1 x2 M = some R → xW (d + 257) (none, d + 257, none) xr_346 (82, [(0, xR_ x0), (1, xR_ x1), (2, xI x2)], [], M) (xQv R)) (hr90 : ∀ {x0 : Nat} {x1 : Nat} {x2 : Int} {x3 : Int} {M : xj_M} {R : xj_M}, xin x2 → xin x3 → r90 x0 x1 x2 x3 M = some R → xW (d + 257) (none, d + 257, none) xr_346 (90, [(0, xR_ x0), (1, xR_ x1), (2, xI x2), (3, xI x3)], [], M) (xQv R)) {x0 : Nat} {x1 : Nat} {x2 : Int} {x3 : Int} {M : xj_M} {R : xj_M} (hx2 : xin x2) (hx3 : xin x3) (h : f346_148  r82 r90 f x0 x1 x2 x3 M = some R) : xW (d + 257) (none, d + 257, none) xr_346 (148, [(0, xR_ x0), (1, xR_ x1), (2, xI x2), (3, xI x3)], [], M) (xQv R) := by
  unfold f346_148 at h
  refine xe_iincr (i := 3) (n := 1) (by decide +kernel) (by decide) rfl (xk_k (show ¬ (0 : Nat) = 3 by decide) (Or.inl (show ¬ (0 + 1 : Nat) = 3 by decide)) (xk_k (show ¬ (1 : Nat) = 3 by decide) (Or.inl (show ¬ (1 + 1 : Nat) = 3 by decide)) (xk_k (show ¬ (2 : Nat) = 3 by decide) (Or.inr (xI_cat _)) (xk_d rfl xk_n)))) rfl ?_
  refine xe_goto (off := -61) (nx := 90) (by decide +kernel) (by decide) ?_
  refine xW_lv rfl (l := [(0, xR_ (x0)), (1, xR_ (x1)), (2, xI (x2)), (3, xI (xwr ((x3) + (1))))]) (xsb_of ⟨rfl, rfl, rfl, rfl, trivial⟩ (show [3, 0, 1, 2].Nodup by decide)) ?_
  exact hr90 hx2 (xin_wr _) h
def f346_90b  (r82 : Nat → Nat → Int → xj_M → Option (xj_M)) (r90 : Nat → Nat → Int → Int → xj_M → Option (xj_M)) (f : Nat) (x0 : Nat) (x1 : Nat) (x2 : Int) (x3 : Int) (M : xj_M) : Option (xj_M) := (if (72) ≤ (x3) then r82 (x0) (x1) (xwr ((x2) + (1))) M else ((xq_gr 15 98 (x0) M).bind fun v112 => ((xq_al (v112) (x3) M).bind fun v114 => ((xq_gr 15 99 (x0) M).bind fun v116 => ((xq_al (v116) (x3) M).bind fun v118 => ((f343  f (v114) (v118) (x2) M).bind fun R121 => (if ¬ (R121.1) = 0 then ((xq_gr 15 98 (x0) R121.2).bind fun v124 => ((xq_al (v124) (x3) R121.2).bind fun v126 => ((xq_gr 15 98 (x0) R121.2).bind fun v128 => ((xq_al (v128) (x2) R121.2).bind fun v130 => ((xq_sl (v124) (x3) (xor8 (v126) (v130)) R121.2).bind fun M132 => ((xq_gr 15 99 (x0) M132).bind fun v134 => ((xq_al (v134) (x3) M132).bind fun v136 => ((xq_gr 15 99 (x0) M132).bind fun v138 => ((xq_al (v138) (x2) M132).bind fun v140 => ((xq_sl (v134) (x3) (xor8 (v136) (v140)) M132).bind fun M142 => f346_148  r82 r90 f (x0) (x1) (x2) (x3) M142)))))))))) else f346_148  r82 r90 f (x0) (x1) (x2) (x3) R121.2)))))))
theorem k346_90b {d f : Nat}  {r82 : Nat → Nat → Int → xj_M → Option (xj_M)} {r90 : Nat → Nat → Int → Int → xj_M → Option (xj_M)}  (hr82 : ∀ {x0 : Nat} {x1 : Nat} {x2 : Int} {M : xj_M} {R : xj_M}, xin x2 → r82 x0 x1 x2 M = some R → xW (d + 257) (none, d + 257, none) xr_346 (82, [(0, xR_ x0), (1, xR_ x1), (2, xI x2)], [], M) (xQv R)) (hr90 : ∀ {x0 : Nat} {x1 : Nat} {x2 : Int} {x3 : Int} {M : xj_M} {R : xj_M}, xin x2 → xin x3 → r90 x0 x1 x2 x3 M = some R → xW (d + 257) (none, d + 257, none) xr_346 (90, [(0, xR_ x0), (1, xR_ x1), (2, xI x2), (3, xI x3)], [], M) (xQv R)) {x0 : Nat} {x1 : Nat} {x2 : Int} {x3 : Int} {M : xj_M} {R : xj_M} (hx2 : xin x2) (hx3 : xin x3) (h : f346_90b  r82 r90 f x0 x1 x2 x3 M = some R) : xW (d + 257) (none, d + 257, none) xr_346 (90, [(0, xR_ x0), (1, xR_ x1), (2, xI x2), (3, xI x3)], [], M) (xQv R) := by
  unfold f346_90b at h
  refine xe_ldn (ins := .iload_n 3) (len := 1) (by decide +kernel) rfl rfl rfl rfl ?_
  refine xe_bipush (n := 72) (by decide +kernel) (by decide) rfl ?_
  refine xe_icmpge (off := 61) (t := 154) (by decide +kernel) (by decide) rfl hx3 (show xin (72) by decide) (fun c111 => ?_) (fun c111 => ?_)
  · rw [if_pos c111] at h
    refine xe_iincr (i := 2) (n := 1) (by decide +kernel) (by decide) rfl (xk_k (show ¬ (0 : Nat) = 2 by decide) (Or.inl (show ¬ (0 + 1 : Nat) = 2 by decide)) (xk_k (show ¬ (1 : Nat) = 2 by decide) (Or.inr (xR_cat _)) (xk_d rfl (xk_k (show ¬ (3 : Nat) = 2 by decide) (Or.inl (show ¬ (3 + 1 : Nat) = 2 by decide)) xk_n)))) rfl ?_
    refine xe_goto (off := -75) (nx := 82) (by decide +kernel) (by decide) ?_
    refine xW_lv rfl (l := [(0, xR_ (x0)), (1, xR_ (x1)), (2, xI (xwr ((x2) + (1))))]) (xsb_of ⟨rfl, rfl, rfl, trivial⟩ (show [2, 0, 1, 3].Nodup by decide)) ?_
    exact hr82 (xin_wr _) h
  · rw [if_neg c111] at h
    refine xe_alr (ins := .aload_n 0) (len := 1) (i := 0) (by decide +kernel) rfl rfl rfl rfl rfl ?_
    obtain ⟨v112, e113, h⟩ := xbnd h
    refine xs_gr (i := 1023) (c := 15) (k := 98) (by decide +kernel) (by decide) (by decide +kernel) e113 rfl ?_
    refine xe_ldn (ins := .iload_n 3) (len := 1) (by decide +kernel) rfl rfl rfl rfl ?_
    obtain ⟨v114, e115, h⟩ := xbnd h
    refine xs_lald (by decide +kernel) hx3 e115 rfl ?_
    refine xe_alr (ins := .aload_n 0) (len := 1) (i := 0) (by decide +kernel) rfl rfl rfl rfl rfl ?_
    obtain ⟨v116, e117, h⟩ := xbnd h
    refine xs_gr (i := 1026) (c := 15) (k := 99) (by decide +kernel) (by decide) (by decide +kernel) e117 rfl ?_
    refine xe_ldn (ins := .iload_n 3) (len := 1) (by decide +kernel) rfl rfl rfl rfl ?_
    obtain ⟨v118, e119, h⟩ := xbnd h
    refine xs_lald (by decide +kernel) hx3 e119 rfl ?_
    refine xe_ldn (ins := .iload_n 2) (len := 1) (by decide +kernel) rfl rfl rfl rfl ?_
    obtain ⟨R121, e120, h⟩ := xbnd h
    refine xs_cs (kd := 2) (by decide) (i := 1036) (j := 343) (ar := [xI (x2), xZ (v118), xZ (v114)]) (rest := []) (r2 := xr_343) (by decide +kernel) (by decide +kernel) (by decide +kernel) xr_343_e rfl (by decide) ?_
    refine xc_i (k343 (d := d + 256)  (xq_al_in e115) (xq_al_in e119) hx2 e120) rfl (fun hi122 => ?_)
    refine xe_ifne (off := 6) (t := 118) (by decide +kernel) (by decide) rfl hi122 (fun c123 => ?_) (fun c123 => ?_)
    · rw [if_pos c123] at h
      refine xe_alr (ins := .aload_n 0) (len := 1) (i := 0) (by decide +kernel) rfl rfl rfl rfl rfl ?_
      obtain ⟨v124, e125, h⟩ := xbnd h
      refine xs_gr (i := 1023) (c := 15) (k := 98) (by decide +kernel) (by decide) (by decide +kernel) e125 rfl ?_
      refine xe_ldn (ins := .iload_n 3) (len := 1) (by decide +kernel) rfl rfl rfl rfl ?_
      refine xe_dup2r (xI_cat _) (xR_cat _) (by decide +kernel) rfl ?_
      obtain ⟨v126, e127, h⟩ := xbnd h
      refine xs_lald (by decide +kernel) hx3 e127 rfl ?_
      refine xe_alr (ins := .aload_n 0) (len := 1) (i := 0) (by decide +kernel) rfl rfl rfl rfl rfl ?_
      obtain ⟨v128, e129, h⟩ := xbnd h
      refine xs_gr (i := 1023) (c := 15) (k := 98) (by decide +kernel) (by decide) (by decide +kernel) e129 rfl ?_
      refine xe_ldn (ins := .iload_n 2) (len := 1) (by decide +kernel) rfl rfl rfl rfl ?_
      obtain ⟨v130, e131, h⟩ := xbnd h
      refine xs_lald (by decide +kernel) hx2 e131 rfl ?_
      refine xe_lor (by decide +kernel) rfl ?_
      obtain ⟨M132, e133, h⟩ := xbnd h
      refine xs_last (by decide +kernel) hx3 e133 rfl ?_
      refine xe_alr (ins := .aload_n 0) (len := 1) (i := 0) (by decide +kernel) rfl rfl rfl rfl rfl ?_
      obtain ⟨v134, e135, h⟩ := xbnd h
      refine xs_gr (i := 1026) (c := 15) (k := 99) (by decide +kernel) (by decide) (by decide +kernel) e135 rfl ?_
      refine xe_ldn (ins := .iload_n 3) (len := 1) (by decide +kernel) rfl rfl rfl rfl ?_
      refine xe_dup2r (xI_cat _) (xR_cat _) (by decide +kernel) rfl ?_
      obtain ⟨v136, e137, h⟩ := xbnd h
      refine xs_lald (by decide +kernel) hx3 e137 rfl ?_
      refine xe_alr (ins := .aload_n 0) (len := 1) (i := 0) (by decide +kernel) rfl rfl rfl rfl rfl ?_
      obtain ⟨v138, e139, h⟩ := xbnd h
      refine xs_gr (i := 1026) (c := 15) (k := 99) (by decide +kernel) (by decide) (by decide +kernel) e139 rfl ?_
      refine xe_ldn (ins := .iload_n 2) (len := 1) (by decide +kernel) rfl rfl rfl rfl ?_
      obtain ⟨v140, e141, h⟩ := xbnd h
      refine xs_lald (by decide +kernel) hx2 e141 rfl ?_
      refine xe_lor (by decide +kernel) rfl ?_
      obtain ⟨M142, e143, h⟩ := xbnd h
      refine xs_last (by decide +kernel) hx3 e143 rfl ?_
      refine xW_lv rfl (l := [(0, xR_ (x0)), (1, xR_ (x1)), (2, xI (x2)), (3, xI (x3))]) (xsb_of ⟨rfl, rfl, rfl, rfl, trivial⟩ (show [0, 1, 2, 3].Nodup by decide)) ?_
      exact k346_148  hr82 hr90 hx2 hx3 h
    · rw [if_neg c123] at h
      refine xe_goto (off := 33) (nx := 148) (by decide +kernel) (by decide) ?_
      refine xW_lv rfl (l := [(0, xR_ (x0)), (1, xR_ (x1)), (2, xI (x2)), (3, xI (x3))]) (xsb_of ⟨rfl, rfl, rfl, rfl, trivial⟩ (show [0, 1, 2, 3].Nodup by decide)) ?_
      exact k346_148  hr82 hr90 hx2 hx3 h
def f346_90  (r82 : Nat → Nat → Int → xj_M → Option (xj_M)) (f : Nat) : Nat → Nat → Nat → Int → Int → xj_M → Option (xj_M)
  | 0, _, _, _, _, _ => none
  | n + 1, x0, x1, x2, x3, M => f346_90b  r82 (f346_90  r82 f n) f x0 x1 x2 x3 M
theorem k346_90 {d f : Nat}  {r82 : Nat → Nat → Int → xj_M → Option (xj_M)}  (hr82 : ∀ {x0 : Nat} {x1 : Nat} {x2 : Int} {M : xj_M} {R : xj_M}, xin x2 → r82 x0 x1 x2 M = some R → xW (d + 257) (none, d + 257, none) xr_346 (82, [(0, xR_ x0), (1, xR_ x1), (2, xI x2)], [], M) (xQv R)) : ∀ {n : Nat} {x0 : Nat} {x1 : Nat} {x2 : Int} {x3 : Int} {M : xj_M} {R : xj_M}, xin x2 → xin x3 → f346_90  r82 f n x0 x1 x2 x3 M = some R → xW (d + 257) (none, d + 257, none) xr_346 (90, [(0, xR_ x0), (1, xR_ x1), (2, xI x2), (3, xI x3)], [], M) (xQv R) := by
  intro n
  induction n with
  | zero => intros; rename_i h; cases h
  | succ n ih => intros; rename_i h; exact k346_90b  hr82 ih (by assumption) (by assumption) h
def f346_213  (r162 : Nat → Nat → Int → xj_M → Option (xj_M)) (f : Nat) (x0 : Nat) (x1 : Nat) (x2 : Int) (M : xj_M) : Option (xj_M) := r162 (x0) (x1) (xwr ((x2) + (1))) M
theorem k346_213 {d f : Nat}  {r162 : Nat → Nat → Int → xj_M → Option (xj_M)}  (hr162 : ∀ {x0 : Nat} {x1 : Nat} {x2 : Int} {M : xj_M} {R : xj_M}, xin x2 → r162 x0 x1 x2 M = some R → xW (d + 257) (none, d + 257, none) xr_346 (162, [(0, xR_ x0), (1, xR_ x1), (2, xI x2)], [], M) (xQv R)) {x0 : Nat} {x1 : Nat} {x2 : Int} {M : xj_M} {R : xj_M} (hx2 : xin x2) (h : f346_213  r162 f x0 x1 x2 M = some R) : xW (d + 257) (none, d + 257, none) xr_346 (213, [(0, xR_ x0), (1, xR_ x1), (2, xI x2)], [], M) (xQv R) := by
  unfold f346_213 at h
  refine xe_iincr (i := 2) (n := 1) (by decide +kernel) (by decide) rfl (xk_k (show ¬ (0 : Nat) = 2 by decide) (Or.inl (show ¬ (0 + 1 : Nat) = 2 by decide)) (xk_k (show ¬ (1 : Nat) = 2 by decide) (Or.inr (xR_cat _)) (xk_d rfl xk_n))) rfl ?_
  refine xe_goto (off := -54) (nx := 162) (by decide +kernel) (by decide) ?_
  refine xW_lv rfl (l := [(0, xR_ (x0)), (1, xR_ (x1)), (2, xI (xwr ((x2) + (1))))]) (xsb_of ⟨rfl, rfl, rfl, trivial⟩ (show [2, 0, 1].Nodup by decide)) ?_
  exact hr162 (xin_wr _) h
def f346_263  (r221 : Nat → Nat → Int → xj_M → Option (xj_M)) (r229 : Nat → Nat → Int → Int → xj_M → Option (xj_M)) (f : Nat) (x0 : Nat) (x1 : Nat) (x2 : Int) (x3 : Int) (M : xj_M) : Option (xj_M) := r229 (x0) (x1) (x2) (xwr ((x3) + (1))) M
theorem k346_263 {d f : Nat}  {r221 : Nat → Nat → Int → xj_M → Option (xj_M)} {r229 : Nat → Nat → Int → Int → xj_M → Option (xj_M)}  (hr221 : ∀ {x0 : Nat} {x1 : Nat} {x2 : Int} {M : xj_M} {R : xj_M}, xin x2 → r221 x0 x1 x2 M = some R → xW (d + 257) (none, d + 257, none) xr_346 (221, [(0, xR_ x0), (1, xR_ x1), (2, xI x2)], [], M) (xQv R)) (hr229 : ∀ {x0 : Nat} {x1 : Nat} {x2 : Int} {x3 : Int} {M : xj_M} {R : xj_M}, xin x2 → xin x3 → r229 x0 x1 x2 x3 M = some R → xW (d + 257) (none, d + 257, none) xr_346 (229, [(0, xR_ x0), (1, xR_ x1), (2, xI x2), (3, xI x3)], [], M) (xQv R)) {x0 : Nat} {x1 : Nat} {x2 : Int} {x3 : Int} {M : xj_M} {R : xj_M} (hx2 : xin x2) (hx3 : xin x3) (h : f346_263  r221 r229 f x0 x1 x2 x3 M = some R) : xW (d + 257) (none, d + 257, none) xr_346 (263, [(0, xR_ x0), (1, xR_ x1), (2, xI x2), (3, xI x3)], [], M) (xQv R) := by
  unfold f346_263 at h
  refine xe_iincr (i := 3) (n := 1) (by decide +kernel) (by decide) rfl (xk_k (show ¬ (0 : Nat) = 3 by decide) (Or.inl (show ¬ (0 + 1 : Nat) = 3 by decide)) (xk_k (show ¬ (1 : Nat) = 3 by decide) (Or.inl (show ¬ (1 + 1 : Nat) = 3 by decide)) (xk_k (show ¬ (2 : Nat) = 3 by decide) (Or.inr (xI_cat _)) (xk_d rfl xk_n)))) rfl ?_
  refine xe_goto (off := -37) (nx := 229) (by decide +kernel) (by decide) ?_
  refine xW_lv rfl (l := [(0, xR_ (x0)), (1, xR_ (x1)), (2, xI (x2)), (3, xI (xwr ((x3) + (1))))]) (xsb_of ⟨rfl, rfl, rfl, rfl, trivial⟩ (show [3, 0, 1, 2].Nodup by decide)) ?_
  exact hr229 hx2 (xin_wr _) h
def f346_229b  (r221 : Nat → Nat → Int → xj_M → Option (xj_M)) (r229 : Nat → Nat → Int → Int → xj_M → Option (xj_M)) (f : Nat) (x0 : Nat) (x1 : Nat) (x2 : Int) (x3 : Int) (M : xj_M) : Option (xj_M) := (if (72) ≤ (x3) then r221 (x0) (x1) (x2) M else ((xq_gr 15 96 (x0) M).bind fun v145 => ((xq_ab (v145) (x3) M).bind fun v147 => (if ¬ (v147) = 0 then f346_263  r221 r229 f (x0) (x1) (x2) (x3) M else ((xq_is 15 (x0) M).bind fun _ => ((f347  f (x0) (x3) M).bind fun R152 => (if (R152.1) = 0 then ((xq_is 15 (x0) R152.2).bind fun _ => ((f349  f (x0) (x1) (x3) R152.2).bind fun M157 => f346_263  r221 r229 f (x0) (x1) (1) (x3) M157)) else f346_263  r221 r229 f (x0) (x1) (x2) (x3) R152.2)))))))
theorem k346_229b {d f : Nat}  {r221 : Nat → Nat → Int → xj_M → Option (xj_M)} {r229 : Nat → Nat → Int → Int → xj_M → Option (xj_M)}  (hr221 : ∀ {x0 : Nat} {x1 : Nat} {x2 : Int} {M : xj_M} {R : xj_M}, xin x2 → r221 x0 x1 x2 M = some R → xW (d + 257) (none, d + 257, none) xr_346 (221, [(0, xR_ x0), (1, xR_ x1), (2, xI x2)], [], M) (xQv R)) (hr229 : ∀ {x0 : Nat} {x1 : Nat} {x2 : Int} {x3 : Int} {M : xj_M} {R : xj_M}, xin x2 → xin x3 → r229 x0 x1 x2 x3 M = some R → xW (d + 257) (none, d + 257, none) xr_346 (229, [(0, xR_ x0), (1, xR_ x1), (2, xI x2), (3, xI x3)], [], M) (xQv R)) {x0 : Nat} {x1 : Nat} {x2 : Int} {x3 : Int} {M : xj_M} {R : xj_M} (hx2 : xin x2) (hx3 : xin x3) (h : f346_229b  r221 r229 f x0 x1 x2 x3 M = some R) : xW (d + 257) (none, d + 257, none) xr_346 (229, [(0, xR_ x0), (1, xR_ x1), (2, xI x2), (3, xI x3)], [], M) (xQv R) := by
  unfold f346_229b at h
  refine xe_ldn (ins := .iload_n 3) (len := 1) (by decide +kernel) rfl rfl rfl rfl ?_
  refine xe_bipush (n := 72) (by decide +kernel) (by decide) rfl ?_
  refine xe_icmpge (off := 37) (t := 269) (by decide +kernel) (by decide) rfl hx3 (show xin (72) by decide) (fun c144 => ?_) (fun c144 => ?_)
  · rw [if_pos c144] at h
    refine xe_goto (off := -48) (nx := 221) (by decide +kernel) (by decide) ?_
    refine xW_lv rfl (l := [(0, xR_ (x0)), (1, xR_ (x1)), (2, xI (x2))]) (xsb_of ⟨rfl, rfl, rfl, trivial⟩ (show [0, 1, 2, 3].Nodup by decide)) ?_
    exact hr221 hx2 h
  · rw [if_neg c144] at h
    refine xe_alr (ins := .aload_n 0) (len := 1) (i := 0) (by decide +kernel) rfl rfl rfl rfl rfl ?_
    obtain ⟨v145, e146, h⟩ := xbnd h
    refine xs_gr (i := 1029) (c := 15) (k := 96) (by decide +kernel) (by decide) (by decide +kernel) e146 rfl ?_
    refine xe_ldn (ins := .iload_n 3) (len := 1) (by decide +kernel) rfl rfl rfl rfl ?_
    obtain ⟨v147, e148, h⟩ := xbnd h
    refine xs_bald (by decide +kernel) hx3 e148 rfl ?_
    refine xe_ifne (off := 22) (t := 263) (by decide +kernel) (by decide) rfl (xq_ab_in e148) (fun c149 => ?_) (fun c149 => ?_)
    · rw [if_pos c149] at h
      refine xW_lv rfl (l := [(0, xR_ (x0)), (1, xR_ (x1)), (2, xI (x2)), (3, xI (x3))]) (xsb_of ⟨rfl, rfl, rfl, rfl, trivial⟩ (show [0, 1, 2, 3].Nodup by decide)) ?_
      exact k346_263  hr221 hr229 hx2 hx3 h
    · rw [if_neg c149] at h
      refine xe_alr (ins := .aload_n 0) (len := 1) (i := 0) (by decide +kernel) rfl rfl rfl rfl rfl ?_
      refine xe_ldn (ins := .iload_n 3) (len := 1) (by decide +kernel) rfl rfl rfl rfl ?_
      obtain ⟨_, e151, h⟩ := xbnd h
      obtain ⟨R152, e150, h⟩ := xbnd h
      refine xs_cv (i := 1039) (j := 347) (ar := [xI (x3)]) (rest := []) (r2 := xr_347) (by decide +kernel) (by decide +kernel) (by decide +kernel) xr_347_e rfl (by decide) (by decide) e151 ?_
      refine xc_i (k347 (d := d + 255)  hx3 e150) rfl (fun hi153 => ?_)
      refine xe_ifeq (off := 6) (t := 255) (by decide +kernel) (by decide) rfl hi153 (fun c154 => ?_) (fun c154 => ?_)
      · rw [if_pos c154] at h
        refine xe_alr (ins := .aload_n 0) (len := 1) (i := 0) (by decide +kernel) rfl rfl rfl rfl rfl ?_
        refine xe_alr (ins := .aload_n 1) (len := 1) (i := 1) (by decide +kernel) rfl rfl rfl rfl rfl ?_
        refine xe_ldn (ins := .iload_n 3) (len := 1) (by decide +kernel) rfl rfl rfl rfl ?_
        obtain ⟨_, e156, h⟩ := xbnd h
        obtain ⟨M157, e155, h⟩ := xbnd h
        refine xs_cv (i := 1042) (j := 349) (ar := [xI (x3), xR_ (x1)]) (rest := []) (r2 := xr_349) (by decide +kernel) (by decide +kernel) (by decide +kernel) xr_349_e rfl (by decide) (by decide) e156 ?_
        refine xc_v (k349 (d := d + 0)  hx3 e155) rfl ?_
        refine xe_iconst (n := 1) (by decide +kernel) rfl ?_
        refine xe_isr (ins := .istore_n 2) (len := 1) (i := 2) (by decide +kernel) rfl rfl rfl (by decide) (xk_k (show ¬ (0 : Nat) = 2 by decide) (Or.inl (show ¬ (0 + 1 : Nat) = 2 by decide)) (xk_k (show ¬ (1 : Nat) = 2 by decide) (Or.inr (xR_cat _)) (xk_d rfl (xk_k (show ¬ (3 : Nat) = 2 by decide) (Or.inl (show ¬ (3 + 1 : Nat) = 2 by decide)) xk_n)))) rfl ?_
        refine xW_lv rfl (l := [(0, xR_ (x0)), (1, xR_ (x1)), (2, xI (1)), (3, xI (x3))]) (xsb_of ⟨rfl, rfl, rfl, rfl, trivial⟩ (show [2, 0, 1, 3].Nodup by decide)) ?_
        exact k346_263  hr221 hr229 (show xin (1) by decide) hx3 h
      · rw [if_neg c154] at h
        refine xe_goto (off := 11) (nx := 263) (by decide +kernel) (by decide) ?_
        refine xW_lv rfl (l := [(0, xR_ (x0)), (1, xR_ (x1)), (2, xI (x2)), (3, xI (x3))]) (xsb_of ⟨rfl, rfl, rfl, rfl, trivial⟩ (show [0, 1, 2, 3].Nodup by decide)) ?_
        exact k346_263  hr221 hr229 hx2 hx3 h
def f346_229  (r221 : Nat → Nat → Int → xj_M → Option (xj_M)) (f : Nat) : Nat → Nat → Nat → Int → Int → xj_M → Option (xj_M)
  | 0, _, _, _, _, _ => none
  | n + 1, x0, x1, x2, x3, M => f346_229b  r221 (f346_229  r221 f n) f x0 x1 x2 x3 M
theorem k346_229 {d f : Nat}  {r221 : Nat → Nat → Int → xj_M → Option (xj_M)}  (hr221 : ∀ {x0 : Nat} {x1 : Nat} {x2 : Int} {M : xj_M} {R : xj_M}, xin x2 → r221 x0 x1 x2 M = some R → xW (d + 257) (none, d + 257, none) xr_346 (221, [(0, xR_ x0), (1, xR_ x1), (2, xI x2)], [], M) (xQv R)) : ∀ {n : Nat} {x0 : Nat} {x1 : Nat} {x2 : Int} {x3 : Int} {M : xj_M} {R : xj_M}, xin x2 → xin x3 → f346_229  r221 f n x0 x1 x2 x3 M = some R → xW (d + 257) (none, d + 257, none) xr_346 (229, [(0, xR_ x0), (1, xR_ x1), (2, xI x2), (3, xI x3)], [], M) (xQv R) := by
  intro n
  induction n with
  | zero => intros; rename_i h; cases h
  | succ n ih => intros; rename_i h; exact k346_229b  hr221 ih (by assumption) (by assumption) h
def f346_221b  (r221 : Nat → Nat → Int → xj_M → Option (xj_M)) (f : Nat) (x0 : Nat) (x1 : Nat) (x2 : Int) (M : xj_M) : Option (xj_M) := (if (x2) = 0 then (some M) else f346_229  r221 f f (x0) (x1) (0) (0) M)
theorem k346_221b {d f : Nat}  {r221 : Nat → Nat → Int → xj_M → Option (xj_M)}  (hr221 : ∀ {x0 : Nat} {x1 : Nat} {x2 : Int} {M : xj_M} {R : xj_M}, xin x2 → r221 x0 x1 x2 M = some R → xW (d + 257) (none, d + 257, none) xr_346 (221, [(0, xR_ x0), (1, xR_ x1), (2, xI x2)], [], M) (xQv R)) {x0 : Nat} {x1 : Nat} {x2 : Int} {M : xj_M} {R : xj_M} (hx2 : xin x2) (h : f346_221b  r221 f x0 x1 x2 M = some R) : xW (d + 257) (none, d + 257, none) xr_346 (221, [(0, xR_ x0), (1, xR_ x1), (2, xI x2)], [], M) (xQv R) := by
  unfold f346_221b at h
  refine xe_ldn (ins := .iload_n 2) (len := 1) (by decide +kernel) rfl rfl rfl rfl ?_
  refine xe_ifeq (off := 50) (t := 272) (by decide +kernel) (by decide) rfl hx2 (fun c159 => ?_) (fun c159 => ?_)
  · rw [if_pos c159] at h
    cases h
    exact xe_ret_v (by decide +kernel) rfl ⟨rfl, rfl⟩
  · rw [if_neg c159] at h
    refine xe_iconst (n := 0) (by decide +kernel) rfl ?_
    refine xe_isr (ins := .istore_n 2) (len := 1) (i := 2) (by decide +kernel) rfl rfl rfl (by decide) (xk_k (show ¬ (0 : Nat) = 2 by decide) (Or.inl (show ¬ (0 + 1 : Nat) = 2 by decide)) (xk_k (show ¬ (1 : Nat) = 2 by decide) (Or.inr (xR_cat _)) (xk_d rfl xk_n))) rfl ?_
    refine xe_iconst (n := 0) (by decide +kernel) rfl ?_
    refine xe_isr (ins := .istore_n 3) (len := 1) (i := 3) (by decide +kernel) rfl rfl rfl (by decide) (xk_k (show ¬ (2 : Nat) = 3 by decide) (Or.inr (xI_cat _)) (xk_k (show ¬ (0 : Nat) = 3 by decide) (Or.inl (show ¬ (0 + 1 : Nat) = 3 by decide)) (xk_k (show ¬ (1 : Nat) = 3 by decide) (Or.inl (show ¬ (1 + 1 : Nat) = 3 by decide)) xk_n))) rfl ?_
    refine xW_lv rfl (l := [(0, xR_ (x0)), (1, xR_ (x1)), (2, xI (0)), (3, xI (0))]) (xsb_of ⟨rfl, rfl, rfl, rfl, trivial⟩ (show [3, 2, 0, 1].Nodup by decide)) ?_
    exact k346_229  hr221 (show xin (0) by decide) (show xin (0) by decide) h
def f346_221   (f : Nat) : Nat → Nat → Nat → Int → xj_M → Option (xj_M)
  | 0, _, _, _, _ => none
  | n + 1, x0, x1, x2, M => f346_221b   (f346_221   f n) f x0 x1 x2 M
theorem k346_221 {d f : Nat}     : ∀ {n : Nat} {x0 : Nat} {x1 : Nat} {x2 : Int} {M : xj_M} {R : xj_M}, xin x2 → f346_221   f n x0 x1 x2 M = some R → xW (d + 257) (none, d + 257, none) xr_346 (221, [(0, xR_ x0), (1, xR_ x1), (2, xI x2)], [], M) (xQv R) := by
  intro n
  induction n with
  | zero => intros; rename_i h; cases h
  | succ n ih => intros; rename_i h; exact k346_221b   ih (by assumption) h
def f346_162b  (r162 : Nat → Nat → Int → xj_M → Option (xj_M)) (f : Nat) (x0 : Nat) (x1 : Nat) (x2 : Int) (M : xj_M) : Option (xj_M) := (if (72) ≤ (x2) then f346_221   f f (x0) (x1) (1) M else ((xq_gr 15 96 (x0) M).bind fun v161 => ((xq_ab (v161) (x2) M).bind fun v163 => (if ¬ (v163) = 0 then f346_213  r162 f (x0) (x1) (x2) M else ((xq_gr 15 98 (x0) M).bind fun v166 => ((xq_al (v166) (x2) M).bind fun v168 => ((xq_gr 15 99 (x0) M).bind fun v170 => ((xq_al (v170) (x2) M).bind fun v172 => ((f343  f (v168) (v172) (x2) M).bind fun R175 => (if ¬ (R175.1) = 0 then ((xq_gr 15 96 (x0) R175.2).bind fun v178 => ((xq_sb (v178) (x2) (1) R175.2).bind fun M180 => ((f348  f (x1) (x2) (2) (1) M180).bind fun M183 => f346_213  r162 f (x0) (x1) (x2) M183))) else f346_213  r162 f (x0) (x1) (x2) R175.2))))))))))
theorem k346_162b {d f : Nat}  {r162 : Nat → Nat → Int → xj_M → Option (xj_M)}  (hr162 : ∀ {x0 : Nat} {x1 : Nat} {x2 : Int} {M : xj_M} {R : xj_M}, xin x2 → r162 x0 x1 x2 M = some R → xW (d + 257) (none, d + 257, none) xr_346 (162, [(0, xR_ x0), (1, xR_ x1), (2, xI x2)], [], M) (xQv R)) {x0 : Nat} {x1 : Nat} {x2 : Int} {M : xj_M} {R : xj_M} (hx2 : xin x2) (h : f346_162b  r162 f x0 x1 x2 M = some R) : xW (d + 257) (none, d + 257, none) xr_346 (162, [(0, xR_ x0), (1, xR_ x1), (2, xI x2)], [], M) (xQv R) := by
  unfold f346_162b at h
  refine xe_ldn (ins := .iload_n 2) (len := 1) (by decide +kernel) rfl rfl rfl rfl ?_
  refine xe_bipush (n := 72) (by decide +kernel) (by decide) rfl ?_
  refine xe_icmpge (off := 54) (t := 219) (by decide +kernel) (by decide) rfl hx2 (show xin (72) by decide) (fun c160 => ?_) (fun c160 => ?_)
  · rw [if_pos c160] at h
    refine xe_iconst (n := 1) (by decide +kernel) rfl ?_
    refine xe_isr (ins := .istore_n 2) (len := 1) (i := 2) (by decide +kernel) rfl rfl rfl (by decide) (xk_k (show ¬ (0 : Nat) = 2 by decide) (Or.inl (show ¬ (0 + 1 : Nat) = 2 by decide)) (xk_k (show ¬ (1 : Nat) = 2 by decide) (Or.inr (xR_cat _)) (xk_d rfl xk_n))) rfl ?_
    refine xW_lv rfl (l := [(0, xR_ (x0)), (1, xR_ (x1)), (2, xI (1))]) (xsb_of ⟨rfl, rfl, rfl, trivial⟩ (show [2, 0, 1].Nodup by decide)) ?_
    exact k346_221   (show xin (1) by decide) h
  · rw [if_neg c160] at h
    refine xe_alr (ins := .aload_n 0) (len := 1) (i := 0) (by decide +kernel) rfl rfl rfl rfl rfl ?_
    obtain ⟨v161, e162, h⟩ := xbnd h
    refine xs_gr (i := 1029) (c := 15) (k := 96) (by decide +kernel) (by decide) (by decide +kernel) e162 rfl ?_
    refine xe_ldn (ins := .iload_n 2) (len := 1) (by decide +kernel) rfl rfl rfl rfl ?_
    obtain ⟨v163, e164, h⟩ := xbnd h
    refine xs_bald (by decide +kernel) hx2 e164 rfl ?_
    refine xe_ifne (off := 39) (t := 213) (by decide +kernel) (by decide) rfl (xq_ab_in e164) (fun c165 => ?_) (fun c165 => ?_)
    · rw [if_pos c165] at h
      refine xW_lv rfl (l := [(0, xR_ (x0)), (1, xR_ (x1)), (2, xI (x2))]) (xsb_of ⟨rfl, rfl, rfl, trivial⟩ (show [0, 1, 2].Nodup by decide)) ?_
      exact k346_213  hr162 hx2 h
    · rw [if_neg c165] at h
      refine xe_alr (ins := .aload_n 0) (len := 1) (i := 0) (by decide +kernel) rfl rfl rfl rfl rfl ?_
      obtain ⟨v166, e167, h⟩ := xbnd h
      refine xs_gr (i := 1023) (c := 15) (k := 98) (by decide +kernel) (by decide) (by decide +kernel) e167 rfl ?_
      refine xe_ldn (ins := .iload_n 2) (len := 1) (by decide +kernel) rfl rfl rfl rfl ?_
      obtain ⟨v168, e169, h⟩ := xbnd h
      refine xs_lald (by decide +kernel) hx2 e169 rfl ?_
      refine xe_alr (ins := .aload_n 0) (len := 1) (i := 0) (by decide +kernel) rfl rfl rfl rfl rfl ?_
      obtain ⟨v170, e171, h⟩ := xbnd h
      refine xs_gr (i := 1026) (c := 15) (k := 99) (by decide +kernel) (by decide) (by decide +kernel) e171 rfl ?_
      refine xe_ldn (ins := .iload_n 2) (len := 1) (by decide +kernel) rfl rfl rfl rfl ?_
      obtain ⟨v172, e173, h⟩ := xbnd h
      refine xs_lald (by decide +kernel) hx2 e173 rfl ?_
      refine xe_ldn (ins := .iload_n 2) (len := 1) (by decide +kernel) rfl rfl rfl rfl ?_
      obtain ⟨R175, e174, h⟩ := xbnd h
      refine xs_cs (kd := 2) (by decide) (i := 1036) (j := 343) (ar := [xI (x2), xZ (v172), xZ (v168)]) (rest := []) (r2 := xr_343) (by decide +kernel) (by decide +kernel) (by decide +kernel) xr_343_e rfl (by decide) ?_
      refine xc_i (k343 (d := d + 256)  (xq_al_in e169) (xq_al_in e173) hx2 e174) rfl (fun hi176 => ?_)
      refine xe_ifne (off := 6) (t := 199) (by decide +kernel) (by decide) rfl hi176 (fun c177 => ?_) (fun c177 => ?_)
      · rw [if_pos c177] at h
        refine xe_alr (ins := .aload_n 0) (len := 1) (i := 0) (by decide +kernel) rfl rfl rfl rfl rfl ?_
        obtain ⟨v178, e179, h⟩ := xbnd h
        refine xs_gr (i := 1029) (c := 15) (k := 96) (by decide +kernel) (by decide) (by decide +kernel) e179 rfl ?_
        refine xe_ldn (ins := .iload_n 2) (len := 1) (by decide +kernel) rfl rfl rfl rfl ?_
        refine xe_iconst (n := 1) (by decide +kernel) rfl ?_
        obtain ⟨M180, e181, h⟩ := xbnd h
        refine xs_bast (by decide +kernel) hx2 e181 rfl ?_
        refine xe_alr (ins := .aload_n 1) (len := 1) (i := 1) (by decide +kernel) rfl rfl rfl rfl rfl ?_
        refine xe_ldn (ins := .iload_n 2) (len := 1) (by decide +kernel) rfl rfl rfl rfl ?_
        refine xe_iconst (n := 2) (by decide +kernel) rfl ?_
        refine xe_lconst (n := 1) (z := 1) (by decide +kernel) rfl rfl ?_
        obtain ⟨M183, e182, h⟩ := xbnd h
        refine xs_cs (kd := 2) (by decide) (i := 1032) (j := 348) (ar := [xZ (1), xI (2), xI (x2), xR_ (x1)]) (rest := []) (r2 := xr_348) (by decide +kernel) (by decide +kernel) (by decide +kernel) xr_348_e rfl (by decide) ?_
        refine xc_v (k348 (d := d + 256)  hx2 (show xin (2) by decide) (show xiN (1) by decide) e182) rfl ?_
        refine xW_lv rfl (l := [(0, xR_ (x0)), (1, xR_ (x1)), (2, xI (x2))]) (xsb_of ⟨rfl, rfl, rfl, trivial⟩ (show [0, 1, 2].Nodup by decide)) ?_
        exact k346_213  hr162 hx2 h
      · rw [if_neg c177] at h
        refine xe_goto (off := 17) (nx := 213) (by decide +kernel) (by decide) ?_
        refine xW_lv rfl (l := [(0, xR_ (x0)), (1, xR_ (x1)), (2, xI (x2))]) (xsb_of ⟨rfl, rfl, rfl, trivial⟩ (show [0, 1, 2].Nodup by decide)) ?_
        exact k346_213  hr162 hx2 h
def f346_162   (f : Nat) : Nat → Nat → Nat → Int → xj_M → Option (xj_M)
  | 0, _, _, _, _ => none
  | n + 1, x0, x1, x2, M => f346_162b   (f346_162   f n) f x0 x1 x2 M
theorem k346_162 {d f : Nat}     : ∀ {n : Nat} {x0 : Nat} {x1 : Nat} {x2 : Int} {M : xj_M} {R : xj_M}, xin x2 → f346_162   f n x0 x1 x2 M = some R → xW (d + 257) (none, d + 257, none) xr_346 (162, [(0, xR_ x0), (1, xR_ x1), (2, xI x2)], [], M) (xQv R) := by
  intro n
  induction n with
  | zero => intros; rename_i h; cases h
  | succ n ih => intros; rename_i h; exact k346_162b   ih (by assumption) h
def f346_82b  (r82 : Nat → Nat → Int → xj_M → Option (xj_M)) (f : Nat) (x0 : Nat) (x1 : Nat) (x2 : Int) (M : xj_M) : Option (xj_M) := (if (72) ≤ (x2) then f346_162   f f (x0) (x1) (0) M else f346_90  r82 f f (x0) (x1) (x2) (0) M)
theorem k346_82b {d f : Nat}  {r82 : Nat → Nat → Int → xj_M → Option (xj_M)}  (hr82 : ∀ {x0 : Nat} {x1 : Nat} {x2 : Int} {M : xj_M} {R : xj_M}, xin x2 → r82 x0 x1 x2 M = some R → xW (d + 257) (none, d + 257, none) xr_346 (82, [(0, xR_ x0), (1, xR_ x1), (2, xI x2)], [], M) (xQv R)) {x0 : Nat} {x1 : Nat} {x2 : Int} {M : xj_M} {R : xj_M} (hx2 : xin x2) (h : f346_82b  r82 f x0 x1 x2 M = some R) : xW (d + 257) (none, d + 257, none) xr_346 (82, [(0, xR_ x0), (1, xR_ x1), (2, xI x2)], [], M) (xQv R) := by
  unfold f346_82b at h
  refine xe_ldn (ins := .iload_n 2) (len := 1) (by decide +kernel) rfl rfl rfl rfl ?_
  refine xe_bipush (n := 72) (by decide +kernel) (by decide) rfl ?_
  refine xe_icmpge (off := 75) (t := 160) (by decide +kernel) (by decide) rfl hx2 (show xin (72) by decide) (fun c185 => ?_) (fun c185 => ?_)
  · rw [if_pos c185] at h
    refine xe_iconst (n := 0) (by decide +kernel) rfl ?_
    refine xe_isr (ins := .istore_n 2) (len := 1) (i := 2) (by decide +kernel) rfl rfl rfl (by decide) (xk_k (show ¬ (0 : Nat) = 2 by decide) (Or.inl (show ¬ (0 + 1 : Nat) = 2 by decide)) (xk_k (show ¬ (1 : Nat) = 2 by decide) (Or.inr (xR_cat _)) (xk_d rfl xk_n))) rfl ?_
    refine xW_lv rfl (l := [(0, xR_ (x0)), (1, xR_ (x1)), (2, xI (0))]) (xsb_of ⟨rfl, rfl, rfl, trivial⟩ (show [2, 0, 1].Nodup by decide)) ?_
    exact k346_162   (show xin (0) by decide) h
  · rw [if_neg c185] at h
    refine xe_iconst (n := 0) (by decide +kernel) rfl ?_
    refine xe_isr (ins := .istore_n 3) (len := 1) (i := 3) (by decide +kernel) rfl rfl rfl (by decide) (xk_k (show ¬ (0 : Nat) = 3 by decide) (Or.inl (show ¬ (0 + 1 : Nat) = 3 by decide)) (xk_k (show ¬ (1 : Nat) = 3 by decide) (Or.inl (show ¬ (1 + 1 : Nat) = 3 by decide)) (xk_k (show ¬ (2 : Nat) = 3 by decide) (Or.inr (xI_cat _)) xk_n))) rfl ?_
    refine xW_lv rfl (l := [(0, xR_ (x0)), (1, xR_ (x1)), (2, xI (x2)), (3, xI (0))]) (xsb_of ⟨rfl, rfl, rfl, rfl, trivial⟩ (show [3, 0, 1, 2].Nodup by decide)) ?_
    exact k346_90  hr82 hx2 (show xin (0) by decide) h
def f346_82   (f : Nat) : Nat → Nat → Nat → Int → xj_M → Option (xj_M)
  | 0, _, _, _, _ => none
  | n + 1, x0, x1, x2, M => f346_82b   (f346_82   f n) f x0 x1 x2 M
theorem k346_82 {d f : Nat}     : ∀ {n : Nat} {x0 : Nat} {x1 : Nat} {x2 : Int} {M : xj_M} {R : xj_M}, xin x2 → f346_82   f n x0 x1 x2 M = some R → xW (d + 257) (none, d + 257, none) xr_346 (82, [(0, xR_ x0), (1, xR_ x1), (2, xI x2)], [], M) (xQv R) := by
  intro n
  induction n with
  | zero => intros; rename_i h; cases h
  | succ n ih => intros; rename_i h; exact k346_82b   ih (by assumption) h
def f346_2b  (r2 : Nat → Nat → Int → xj_M → Option (xj_M)) (f : Nat) (x0 : Nat) (x1 : Nat) (x2 : Int) (M : xj_M) : Option (xj_M) := (if (72) ≤ (x2) then f346_82   f f (x0) (x1) (0) M else ((xq_is 15 (x0) M).bind fun _ => ((f344  f (x0) (x1) (x2) M).bind fun M189 => ((xq_gr 15 98 (x0) M189).bind fun v191 => ((xq_gr 15 92 (x0) M189).bind fun v193 => ((xq_al (v193) (x2) M189).bind fun v195 => ((xq_sl (v191) (x2) (v195) M189).bind fun M197 => ((xq_gr 15 99 (x0) M197).bind fun v199 => ((xq_gr 15 93 (x0) M197).bind fun v201 => ((xq_al (v201) (x2) M197).bind fun v203 => ((xq_sl (v199) (x2) (v203) M197).bind fun M205 => ((xq_gr 15 96 (x0) M205).bind fun v207 => ((xq_gr 13 18 (x1) M205).bind fun v209 => ((xq_ai 3 (v209) (x2) M205).bind fun v211 => (if ¬ (v211) = 0 then f346_57  r2 f (x0) (x1) (x2) (0) (x2) (v207) M205 else f346_57  r2 f (x0) (x1) (x2) (1) (x2) (v207) M205)))))))))))))))
theorem k346_2b {d f : Nat}  {r2 : Nat → Nat → Int → xj_M → Option (xj_M)}  (hr2 : ∀ {x0 : Nat} {x1 : Nat} {x2 : Int} {M : xj_M} {R : xj_M}, xin x2 → r2 x0 x1 x2 M = some R → xW (d + 257) (none, d + 257, none) xr_346 (2, [(0, xR_ x0), (1, xR_ x1), (2, xI x2)], [], M) (xQv R)) {x0 : Nat} {x1 : Nat} {x2 : Int} {M : xj_M} {R : xj_M} (hx2 : xin x2) (h : f346_2b  r2 f x0 x1 x2 M = some R) : xW (d + 257) (none, d + 257, none) xr_346 (2, [(0, xR_ x0), (1, xR_ x1), (2, xI x2)], [], M) (xQv R) := by
  unfold f346_2b at h
  refine xe_ldn (ins := .iload_n 2) (len := 1) (by decide +kernel) rfl rfl rfl rfl ?_
  refine xe_bipush (n := 72) (by decide +kernel) (by decide) rfl ?_
  refine xe_icmpge (off := 75) (t := 80) (by decide +kernel) (by decide) rfl hx2 (show xin (72) by decide) (fun c186 => ?_) (fun c186 => ?_)
  · rw [if_pos c186] at h
    refine xe_iconst (n := 0) (by decide +kernel) rfl ?_
    refine xe_isr (ins := .istore_n 2) (len := 1) (i := 2) (by decide +kernel) rfl rfl rfl (by decide) (xk_k (show ¬ (0 : Nat) = 2 by decide) (Or.inl (show ¬ (0 + 1 : Nat) = 2 by decide)) (xk_k (show ¬ (1 : Nat) = 2 by decide) (Or.inr (xR_cat _)) (xk_d rfl xk_n))) rfl ?_
    refine xW_lv rfl (l := [(0, xR_ (x0)), (1, xR_ (x1)), (2, xI (0))]) (xsb_of ⟨rfl, rfl, rfl, trivial⟩ (show [2, 0, 1].Nodup by decide)) ?_
    exact k346_82   (show xin (0) by decide) h
  · rw [if_neg c186] at h
    refine xe_alr (ins := .aload_n 0) (len := 1) (i := 0) (by decide +kernel) rfl rfl rfl rfl rfl ?_
    refine xe_alr (ins := .aload_n 1) (len := 1) (i := 1) (by decide +kernel) rfl rfl rfl rfl rfl ?_
    refine xe_ldn (ins := .iload_n 2) (len := 1) (by decide +kernel) rfl rfl rfl rfl ?_
    obtain ⟨_, e188, h⟩ := xbnd h
    obtain ⟨M189, e187, h⟩ := xbnd h
    refine xs_cv (i := 1020) (j := 344) (ar := [xI (x2), xR_ (x1)]) (rest := []) (r2 := xr_344) (by decide +kernel) (by decide +kernel) (by decide +kernel) xr_344_e rfl (by decide) (by decide) e188 ?_
    refine xc_v (k344 (d := d + 150)  hx2 e187) rfl ?_
    refine xe_alr (ins := .aload_n 0) (len := 1) (i := 0) (by decide +kernel) rfl rfl rfl rfl rfl ?_
    obtain ⟨v191, e192, h⟩ := xbnd h
    refine xs_gr (i := 1023) (c := 15) (k := 98) (by decide +kernel) (by decide) (by decide +kernel) e192 rfl ?_
    refine xe_ldn (ins := .iload_n 2) (len := 1) (by decide +kernel) rfl rfl rfl rfl ?_
    refine xe_alr (ins := .aload_n 0) (len := 1) (i := 0) (by decide +kernel) rfl rfl rfl rfl rfl ?_
    obtain ⟨v193, e194, h⟩ := xbnd h
    refine xs_gr (i := 999) (c := 15) (k := 92) (by decide +kernel) (by decide) (by decide +kernel) e194 rfl ?_
    refine xe_ldn (ins := .iload_n 2) (len := 1) (by decide +kernel) rfl rfl rfl rfl ?_
    obtain ⟨v195, e196, h⟩ := xbnd h
    refine xs_lald (by decide +kernel) hx2 e196 rfl ?_
    obtain ⟨M197, e198, h⟩ := xbnd h
    refine xs_last (by decide +kernel) hx2 e198 rfl ?_
    refine xe_alr (ins := .aload_n 0) (len := 1) (i := 0) (by decide +kernel) rfl rfl rfl rfl rfl ?_
    obtain ⟨v199, e200, h⟩ := xbnd h
    refine xs_gr (i := 1026) (c := 15) (k := 99) (by decide +kernel) (by decide) (by decide +kernel) e200 rfl ?_
    refine xe_ldn (ins := .iload_n 2) (len := 1) (by decide +kernel) rfl rfl rfl rfl ?_
    refine xe_alr (ins := .aload_n 0) (len := 1) (i := 0) (by decide +kernel) rfl rfl rfl rfl rfl ?_
    obtain ⟨v201, e202, h⟩ := xbnd h
    refine xs_gr (i := 1002) (c := 15) (k := 93) (by decide +kernel) (by decide) (by decide +kernel) e202 rfl ?_
    refine xe_ldn (ins := .iload_n 2) (len := 1) (by decide +kernel) rfl rfl rfl rfl ?_
    obtain ⟨v203, e204, h⟩ := xbnd h
    refine xs_lald (by decide +kernel) hx2 e204 rfl ?_
    obtain ⟨M205, e206, h⟩ := xbnd h
    refine xs_last (by decide +kernel) hx2 e206 rfl ?_
    refine xe_alr (ins := .aload_n 0) (len := 1) (i := 0) (by decide +kernel) rfl rfl rfl rfl rfl ?_
    obtain ⟨v207, e208, h⟩ := xbnd h
    refine xs_gr (i := 1029) (c := 15) (k := 96) (by decide +kernel) (by decide) (by decide +kernel) e208 rfl ?_
    refine xe_ldn (ins := .iload_n 2) (len := 1) (by decide +kernel) rfl rfl rfl rfl ?_
    refine xe_alr (ins := .aload_n 1) (len := 1) (i := 1) (by decide +kernel) rfl rfl rfl rfl rfl ?_
    obtain ⟨v209, e210, h⟩ := xbnd h
    refine xs_gr (i := 865) (c := 13) (k := 18) (by decide +kernel) (by decide) (by decide +kernel) e210 rfl ?_
    refine xe_ldn (ins := .iload_n 2) (len := 1) (by decide +kernel) rfl rfl rfl rfl ?_
    obtain ⟨v211, e212, h⟩ := xbnd h
    refine xs_iald rfl (by decide +kernel) hx2 e212 rfl ?_
    refine xe_ifne (off := 7) (t := 56) (by decide +kernel) (by decide) rfl (xq_ai_in e212) (fun c213 => ?_) (fun c213 => ?_)
    · rw [if_pos c213] at h
      refine xe_iconst (n := 0) (by decide +kernel) rfl ?_
      refine xW_lv rfl (l := [(0, xR_ (x0)), (1, xR_ (x1)), (2, xI (x2))]) (xsb_of ⟨rfl, rfl, rfl, trivial⟩ (show [0, 1, 2].Nodup by decide)) ?_
      exact k346_57  hr2 hx2 (show xin (0) by decide) hx2 h
    · rw [if_neg c213] at h
      refine xe_iconst (n := 1) (by decide +kernel) rfl ?_
      refine xe_goto (off := 4) (nx := 57) (by decide +kernel) (by decide) ?_
      refine xW_lv rfl (l := [(0, xR_ (x0)), (1, xR_ (x1)), (2, xI (x2))]) (xsb_of ⟨rfl, rfl, rfl, trivial⟩ (show [0, 1, 2].Nodup by decide)) ?_
      exact k346_57  hr2 hx2 (show xin (1) by decide) hx2 h
def f346_2   (f : Nat) : Nat → Nat → Nat → Int → xj_M → Option (xj_M)
  | 0, _, _, _, _ => none
  | n + 1, x0, x1, x2, M => f346_2b   (f346_2   f n) f x0 x1 x2 M
theorem k346_2 {d f : Nat}     : ∀ {n : Nat} {x0 : Nat} {x1 : Nat} {x2 : Int} {M : xj_M} {R : xj_M}, xin x2 → f346_2   f n x0 x1 x2 M = some R → xW (d + 257) (none, d + 257, none) xr_346 (2, [(0, xR_ x0), (1, xR_ x1), (2, xI x2)], [], M) (xQv R) := by
  intro n
  induction n with
  | zero => intros; rename_i h; cases h
  | succ n ih => intros; rename_i h; exact k346_2b   ih (by assumption) h
def f346  (f : Nat) (a0 : Nat) (a1 : Nat) (M : xj_M) : Option (xj_M) := f346_2   f f (a0) (a1) (0) M
theorem k346 {d f : Nat}   {a0 : Nat} {a1 : Nat} {M : xj_M} {R : xj_M}  (h : f346  f a0 a1 M = some R) : xT (d + 258) 346 [xR_ a0, xR_ a1] M (xQv R) := by
  refine xT_m xr_346_e (X := (none, d + 257, none)) rfl (xa_1 (xR_cat _) (xa_1 (xR_cat _) xa_n)) (by decide) ?_
  unfold f346 at h
  refine xe_iconst (n := 0) (by decide +kernel) rfl ?_
  refine xe_isr (ins := .istore_n 2) (len := 1) (i := 2) (by decide +kernel) rfl rfl rfl (by decide) (xk_k (show ¬ (0 : Nat) = 2 by decide) (Or.inl (show ¬ (0 + 1 : Nat) = 2 by decide)) (xk_k (show ¬ (1 : Nat) = 2 by decide) (Or.inr (xR_cat _)) xk_n)) rfl ?_
  refine xW_lv rfl (l := [(0, xR_ (a0)), (1, xR_ (a1)), (2, xI (0))]) (xsb_of ⟨rfl, rfl, rfl, trivial⟩ (show [2, 0, 1].Nodup by decide)) ?_
  exact k346_2   (show xin (0) by decide) h
