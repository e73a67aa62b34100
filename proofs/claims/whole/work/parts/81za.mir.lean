/-! Mirrors (written by mk_mir.py) -/
-- ChangeHouseModel$Facts.<init>
def xr_193 : xj_mR := (12, yX12_init, cX12_init, 1, (Option.none : Option Jvm.ClassFile.FieldType), 0, true, (11, 226), (1, 19))
set_option maxRecDepth 20000 in
theorem xr_193_e : xj_row 193 = some xr_193 := rfl
def f193  (f : Nat) (a0 : Nat) (M : xj_M) : Option (xj_M) := ((xq_nz (a0)).bind fun _ => ((xq_na 4 (3400) M).bind fun p102 => ((xq_pr 12 0 (a0) (p102.1) p102.2).bind fun M104 => ((xq_na 4 (13600) M104).bind fun p106 => ((xq_pr 12 1 (a0) (p106.1) p106.2).bind fun M108 => ((xq_na 3 (3400) M108).bind fun p110 => ((xq_pr 12 2 (a0) (p110.1) p110.2).bind fun M112 => (some M112))))))))
theorem k193 {d f : Nat}   {a0 : Nat} {M : xj_M} {R : xj_M}  (h : f193  f a0 M = some R) : xT (d + 1) 193 [xR_ a0] M (xQv R) := by
  refine xT_m xr_193_e (X := (none, d + 0, none)) rfl (xa_1 (xR_cat _) xa_n) (by decide) ?_
  unfold f193 at h
  refine xe_alr (ins := .aload_n 0) (len := 1) (i := 0) (by decide +kernel) rfl rfl rfl rfl rfl ?_
  obtain ⟨_, e101, h⟩ := xbnd h
  refine xe_oi (i := 3) (j := 0) (by decide +kernel) (by decide +kernel) (by rfl) (xq_nz_ne e101) rfl ?_
  refine xe_alr (ins := .aload_n 0) (len := 1) (i := 0) (by decide +kernel) rfl rfl rfl rfl rfl ?_
  refine xe_sipush (n := 3400) (by decide +kernel) (by decide) rfl ?_
  obtain ⟨p102, e103, h⟩ := xbnd h
  refine xs_na (kk := 4) (ty := .long) (x := p102.1) (M1 := p102.2) (by decide +kernel) rfl (show xin (3400) by decide) e103 rfl ?_
  obtain ⟨M104, e105, h⟩ := xbnd h
  refine xs_p (i := 9) (c := 12) (k := 0) (by decide +kernel) (by decide +kernel) (by decide +kernel) e105 rfl ?_
  refine xe_alr (ins := .aload_n 0) (len := 1) (i := 0) (by decide +kernel) rfl rfl rfl rfl rfl ?_
  refine xe_sipush (n := 13600) (by decide +kernel) (by decide) rfl ?_
  obtain ⟨p106, e107, h⟩ := xbnd h
  refine xs_na (kk := 4) (ty := .long) (x := p106.1) (M1 := p106.2) (by decide +kernel) rfl (show xin (13600) by decide) e107 rfl ?_
  obtain ⟨M108, e109, h⟩ := xbnd h
  refine xs_p (i := 15) (c := 12) (k := 1) (by decide +kernel) (by decide +kernel) (by decide +kernel) e109 rfl ?_
  refine xe_alr (ins := .aload_n 0) (len := 1) (i := 0) (by decide +kernel) rfl rfl rfl rfl rfl ?_
  refine xe_sipush (n := 3400) (by decide +kernel) (by decide) rfl ?_
  obtain ⟨p110, e111, h⟩ := xbnd h
  refine xs_na (kk := 3) (ty := .int) (x := p110.1) (M1 := p110.2) (by decide +kernel) rfl (show xin (3400) by decide) e111 rfl ?_
  obtain ⟨M112, e113, h⟩ := xbnd h
  refine xs_p (i := 18) (c := 12) (k := 2) (by decide +kernel) (by decide +kernel) (by decide +kernel) e113 rfl ?_
  cases h
  exact xe_ret_v (by decide +kernel) rfl ⟨rfl, rfl⟩
-- ChangeHouseModel$Program.<init>
def xr_204 : xj_mR := (14, yX14_init, cX14_init, 1, (Option.none : Option Jvm.ClassFile.FieldType), 0, true, (11, 63), (1, 17))
set_option maxRecDepth 20000 in
theorem xr_204_e : xj_row 204 = some xr_204 := rfl
def f204  (f : Nat) (a0 : Nat) (M : xj_M) : Option (xj_M) := ((xq_nz (a0)).bind fun _ => ((xq_na 4 (16) M).bind fun p102 => ((xq_pr 14 0 (a0) (p102.1) p102.2).bind fun M104 => ((xq_na 3 (16) M104).bind fun p106 => ((xq_pr 14 1 (a0) (p106.1) p106.2).bind fun M108 => ((xq_na 3 (16) M108).bind fun p110 => ((xq_pr 14 2 (a0) (p110.1) p110.2).bind fun M112 => ((xq_na 3 (16) M112).bind fun p114 => ((xq_pr 14 3 (a0) (p114.1) p114.2).bind fun M116 => ((xq_na 3 (16) M116).bind fun p118 => ((xq_pr 14 4 (a0) (p118.1) p118.2).bind fun M120 => ((xq_na 0 (16) M120).bind fun p122 => ((xq_pr 14 5 (a0) (p122.1) p122.2).bind fun M124 => ((xq_na 0 (16) M124).bind fun p126 => ((xq_pr 14 6 (a0) (p126.1) p126.2).bind fun M128 => ((xq_na 0 (16) M128).bind fun p130 => ((xq_pr 14 7 (a0) (p130.1) p130.2).bind fun M132 => ((xq_na 3 (420) M132).bind fun p134 => ((xq_pr 14 10 (a0) (p134.1) p134.2).bind fun M136 => ((xq_na 3 (420) M136).bind fun p138 => ((xq_pr 14 11 (a0) (p138.1) p138.2).bind fun M140 => ((xq_na 3 (420) M140).bind fun p142 => ((xq_pr 14 12 (a0) (p142.1) p142.2).bind fun M144 => ((xq_na 3 (420) M144).bind fun p146 => ((xq_pr 14 13 (a0) (p146.1) p146.2).bind fun M148 => ((xq_na 3 (25) M148).bind fun p150 => ((xq_pr 14 15 (a0) (p150.1) p150.2).bind fun M152 => ((xq_na 3 (25) M152).bind fun p154 => ((xq_pr 14 16 (a0) (p154.1) p154.2).bind fun M156 => ((xq_na 3 (25) M156).bind fun p158 => ((xq_pr 14 17 (a0) (p158.1) p158.2).bind fun M160 => ((xq_na 3 (25) M160).bind fun p162 => ((xq_pr 14 18 (a0) (p162.1) p162.2).bind fun M164 => ((xq_na 3 (25) M164).bind fun p166 => ((xq_pr 14 19 (a0) (p166.1) p166.2).bind fun M168 => ((xq_na 3 (25) M168).bind fun p170 => ((xq_pr 14 20 (a0) (p170.1) p170.2).bind fun M172 => ((xq_na 3 (25) M172).bind fun p174 => ((xq_pr 14 21 (a0) (p174.1) p174.2).bind fun M176 => ((xq_na 3 (25) M176).bind fun p178 => ((xq_pr 14 22 (a0) (p178.1) p178.2).bind fun M180 => ((xq_na 3 (100) M180).bind fun p182 => ((xq_pr 14 23 (a0) (p182.1) p182.2).bind fun M184 => ((xq_na 3 (100) M184).bind fun p186 => ((xq_pr 14 24 (a0) (p186.1) p186.2).bind fun M188 => ((xq_na 4 (200) M188).bind fun p190 => ((xq_pr 14 25 (a0) (p190.1) p190.2).bind fun M192 => ((xq_na 3 (200) M192).bind fun p194 => ((xq_pr 14 26 (a0) (p194.1) p194.2).bind fun M196 => ((xq_na 3 (200) M196).bind fun p198 => ((xq_pr 14 27 (a0) (p198.1) p198.2).bind fun M200 => ((xq_na 3 (200) M200).bind fun p202 => ((xq_pr 14 28 (a0) (p202.1) p202.2).bind fun M204 => ((xq_na 3 (200) M204).bind fun p206 => ((xq_pr 14 29 (a0) (p206.1) p206.2).bind fun M208 => ((xq_na 3 (200) M208).bind fun p210 => ((xq_pr 14 30 (a0) (p210.1) p210.2).bind fun M212 => ((xq_na 3 (200) M212).bind fun p214 => ((xq_pr 14 31 (a0) (p214.1) p214.2).bind fun M216 => ((xq_na 3 (200) M216).bind fun p218 => ((xq_pr 14 32 (a0) (p218.1) p218.2).bind fun M220 => ((xq_na 3 (800) M220).bind fun p222 => ((xq_pr 14 33 (a0) (p222.1) p222.2).bind fun M224 => ((xq_na 4 (800) M224).bind fun p226 => ((xq_pr 14 34 (a0) (p226.1) p226.2).bind fun M228 => ((xq_na 3 (6200) M228).bind fun p230 => ((xq_pr 14 35 (a0) (p230.1) p230.2).bind fun M232 => ((xq_na 4 (6200) M232).bind fun p234 => ((xq_pr 14 36 (a0) (p234.1) p234.2).bind fun M236 => (some M236))))))))))))))))))))))))))))))))))))))))))))))))))))))))))))))))))))))
theorem k204 {d f : Nat}   {a0 : Nat} {M : xj_M} {R : xj_M}  (h : f204  f a0 M = some R) : xT (d + 1) 204 [xR_ a0] M (xQv R) := by
  refine xT_m xr_204_e (X := (none, d + 0, none)) rfl (xa_1 (xR_cat _) xa_n) (by decide) ?_
  unfold f204 at h
  refine xe_alr (ins := .aload_n 0) (len := 1) (i := 0) (by decide +kernel) rfl rfl rfl rfl rfl ?_
  obtain ⟨_, e101, h⟩ := xbnd h
  refine xe_oi (i := 3) (j := 0) (by decide +kernel) (by decide +kernel) (by rfl) (xq_nz_ne e101) rfl ?_
  refine xe_alr (ins := .aload_n 0) (len := 1) (i := 0) (by decide +kernel) rfl rfl rfl rfl rfl ?_
  refine xe_bipush (n := 16) (by decide +kernel) (by decide) rfl ?_
  obtain ⟨p102, e103, h⟩ := xbnd h
  refine xs_na (kk := 4) (ty := .long) (x := p102.1) (M1 := p102.2) (by decide +kernel) rfl (show xin (16) by decide) e103 rfl ?_
  obtain ⟨M104, e105, h⟩ := xbnd h
  refine xs_p (i := 9) (c := 14) (k := 0) (by decide +kernel) (by decide +kernel) (by decide +kernel) e105 rfl ?_
  refine xe_alr (ins := .aload_n 0) (len := 1) (i := 0) (by decide +kernel) rfl rfl rfl rfl rfl ?_
  refine xe_bipush (n := 16) (by decide +kernel) (by decide) rfl ?_
  obtain ⟨p106, e107, h⟩ := xbnd h
  refine xs_na (kk := 3) (ty := .int) (x := p106.1) (M1 := p106.2) (by decide +kernel) rfl (show xin (16) by decide) e107 rfl ?_
  obtain ⟨M108, e109, h⟩ := xbnd h
  refine xs_p (i := 15) (c := 14) (k := 1) (by decide +kernel) (by decide +kernel) (by decide +kernel) e109 rfl ?_
  refine xe_alr (ins := .aload_n 0) (len := 1) (i := 0) (by decide +kernel) rfl rfl rfl rfl rfl ?_
  refine xe_bipush (n := 16) (by decide +kernel) (by decide) rfl ?_
  obtain ⟨p110, e111, h⟩ := xbnd h
  refine xs_na (kk := 3) (ty := .int) (x := p110.1) (M1 := p110.2) (by decide +kernel) rfl (show xin (16) by decide) e111 rfl ?_
  obtain ⟨M112, e113, h⟩ := xbnd h
  refine xs_p (i := 19) (c := 14) (k := 2) (by decide +kernel) (by decide +kernel) (by decide +kernel) e113 rfl ?_
  refine xe_alr (ins := .aload_n 0) (len := 1) (i := 0) (by decide +kernel) rfl rfl rfl rfl rfl ?_
  refine xe_bipush (n := 16) (by decide +kernel) (by decide) rfl ?_
  obtain ⟨p114, e115, h⟩ := xbnd h
  refine xs_na (kk := 3) (ty := .int) (x := p114.1) (M1 := p114.2) (by decide +kernel) rfl (show xin (16) by decide) e115 rfl ?_
  obtain ⟨M116, e117, h⟩ := xbnd h
  refine xs_p (i := 22) (c := 14) (k := 3) (by decide +kernel) (by decide +kernel) (by decide +kernel) e117 rfl ?_
  refine xe_alr (ins := .aload_n 0) (len := 1) (i := 0) (by decide +kernel) rfl rfl rfl rfl rfl ?_
  refine xe_bipush (n := 16) (by decide +kernel) (by decide) rfl ?_
  obtain ⟨p118, e119, h⟩ := xbnd h
  refine xs_na (kk := 3) (ty := .int) (x := p118.1) (M1 := p118.2) (by decide +kernel) rfl (show xin (16) by decide) e119 rfl ?_
  obtain ⟨M120, e121, h⟩ := xbnd h
  refine xs_p (i := 25) (c := 14) (k := 4) (by decide +kernel) (by decide +kernel) (by decide +kernel) e121 rfl ?_
  refine xe_alr (ins := .aload_n 0) (len := 1) (i := 0) (by decide +kernel) rfl rfl rfl rfl rfl ?_
  refine xe_bipush (n := 16) (by decide +kernel) (by decide) rfl ?_
  obtain ⟨p122, e123, h⟩ := xbnd h
  refine xs_na (kk := 0) (ty := .boolean) (x := p122.1) (M1 := p122.2) (by decide +kernel) rfl (show xin (16) by decide) e123 rfl ?_
  obtain ⟨M124, e125, h⟩ := xbnd h
  refine xs_p (i := 28) (c := 14) (k := 5) (by decide +kernel) (by decide +kernel) (by decide +kernel) e125 rfl ?_
  refine xe_alr (ins := .aload_n 0) (len := 1) (i := 0) (by decide +kernel) rfl rfl rfl rfl rfl ?_
  refine xe_bipush (n := 16) (by decide +kernel) (by decide) rfl ?_
  obtain ⟨p126, e127, h⟩ := xbnd h
  refine xs_na (kk := 0) (ty := .boolean) (x := p126.1) (M1 := p126.2) (by decide +kernel) rfl (show xin (16) by decide) e127 rfl ?_
  obtain ⟨M128, e129, h⟩ := xbnd h
  refine xs_p (i := 32) (c := 14) (k := 6) (by decide +kernel) (by decide +kernel) (by decide +kernel) e129 rfl ?_
  refine xe_alr (ins := .aload_n 0) (len := 1) (i := 0) (by decide +kernel) rfl rfl rfl rfl rfl ?_
  refine xe_bipush (n := 16) (by decide +kernel) (by decide) rfl ?_
  obtain ⟨p130, e131, h⟩ := xbnd h
  refine xs_na (kk := 0) (ty := .boolean) (x := p130.1) (M1 := p130.2) (by decide +kernel) rfl (show xin (16) by decide) e131 rfl ?_
  obtain ⟨M132, e133, h⟩ := xbnd h
  refine xs_p (i := 35) (c := 14) (k := 7) (by decide +kernel) (by decide +kernel) (by decide +kernel) e133 rfl ?_
  refine xe_alr (ins := .aload_n 0) (len := 1) (i := 0) (by decide +kernel) rfl rfl rfl rfl rfl ?_
  refine xe_sipush (n := 420) (by decide +kernel) (by decide) rfl ?_
  obtain ⟨p134, e135, h⟩ := xbnd h
  refine xs_na (kk := 3) (ty := .int) (x := p134.1) (M1 := p134.2) (by decide +kernel) rfl (show xin (420) by decide) e135 rfl ?_
  obtain ⟨M136, e137, h⟩ := xbnd h
  refine xs_p (i := 38) (c := 14) (k := 10) (by decide +kernel) (by decide +kernel) (by decide +kernel) e137 rfl ?_
  refine xe_alr (ins := .aload_n 0) (len := 1) (i := 0) (by decide +kernel) rfl rfl rfl rfl rfl ?_
  refine xe_sipush (n := 420) (by decide +kernel) (by decide) rfl ?_
  obtain ⟨p138, e139, h⟩ := xbnd h
  refine xs_na (kk := 3) (ty := .int) (x := p138.1) (M1 := p138.2) (by decide +kernel) rfl (show xin (420) by decide) e139 rfl ?_
  obtain ⟨M140, e141, h⟩ := xbnd h
  refine xs_p (i := 41) (c := 14) (k := 11) (by decide +kernel) (by decide +kernel) (by decide +kernel) e141 rfl ?_
  refine xe_alr (ins := .aload_n 0) (len := 1) (i := 0) (by decide +kernel) rfl rfl rfl rfl rfl ?_
  refine xe_sipush (n := 420) (by decide +kernel) (by decide) rfl ?_
  obtain ⟨p142, e143, h⟩ := xbnd h
  refine xs_na (kk := 3) (ty := .int) (x := p142.1) (M1 := p142.2) (by decide +kernel) rfl (show xin (420) by decide) e143 rfl ?_
  obtain ⟨M144, e145, h⟩ := xbnd h
  refine xs_p (i := 44) (c := 14) (k := 12) (by decide +kernel) (by decide +kernel) (by decide +kernel) e145 rfl ?_
  refine xe_alr (ins := .aload_n 0) (len := 1) (i := 0) (by decide +kernel) rfl rfl rfl rfl rfl ?_
  refine xe_sipush (n := 420) (by decide +kernel) (by decide) rfl ?_
  obtain ⟨p146, e147, h⟩ := xbnd h
  refine xs_na (kk := 3) (ty := .int) (x := p146.1) (M1 := p146.2) (by decide +kernel) rfl (show xin (420) by decide) e147 rfl ?_
  obtain ⟨M148, e149, h⟩ := xbnd h
  refine xs_p (i := 47) (c := 14) (k := 13) (by decide +kernel) (by decide +kernel) (by decide +kernel) e149 rfl ?_
  refine xe_alr (ins := .aload_n 0) (len := 1) (i := 0) (by decide +kernel) rfl rfl rfl rfl rfl ?_
  refine xe_bipush (n := 25) (by decide +kernel) (by decide) rfl ?_
  obtain ⟨p150, e151, h⟩ := xbnd h
  refine xs_na (kk := 3) (ty := .int) (x := p150.1) (M1 := p150.2) (by decide +kernel) rfl (show xin (25) by decide) e151 rfl ?_
  obtain ⟨M152, e153, h⟩ := xbnd h
  refine xs_p (i := 50) (c := 14) (k := 15) (by decide +kernel) (by decide +kernel) (by decide +kernel) e153 rfl ?_
  refine xe_alr (ins := .aload_n 0) (len := 1) (i := 0) (by decide +kernel) rfl rfl rfl rfl rfl ?_
  refine xe_bipush (n := 25) (by decide +kernel) (by decide) rfl ?_
  obtain ⟨p154, e155, h⟩ := xbnd h
  refine xs_na (kk := 3) (ty := .int) (x := p154.1) (M1 := p154.2) (by decide +kernel) rfl (show xin (25) by decide) e155 rfl ?_
  obtain ⟨M156, e157, h⟩ := xbnd h
  refine xs_p (i := 53) (c := 14) (k := 16) (by decide +kernel) (by decide +kernel) (by decide +kernel) e157 rfl ?_
  refine xe_alr (ins := .aload_n 0) (len := 1) (i := 0) (by decide +kernel) rfl rfl rfl rfl rfl ?_
  refine xe_bipush (n := 25) (by decide +kernel) (by decide) rfl ?_
  obtain ⟨p158, e159, h⟩ := xbnd h
  refine xs_na (kk := 3) (ty := .int) (x := p158.1) (M1 := p158.2) (by decide +kernel) rfl (show xin (25) by decide) e159 rfl ?_
  obtain ⟨M160, e161, h⟩ := xbnd h
  refine xs_p (i := 56) (c := 14) (k := 17) (by decide +kernel) (by decide +kernel) (by decide +kernel) e161 rfl ?_
  refine xe_alr (ins := .aload_n 0) (len := 1) (i := 0) (by decide +kernel) rfl rfl rfl rfl rfl ?_
  refine xe_bipush (n := 25) (by decide +kernel) (by decide) rfl ?_
  obtain ⟨p162, e163, h⟩ := xbnd h
  refine xs_na (kk := 3) (ty := .int) (x := p162.1) (M1 := p162.2) (by decide +kernel) rfl (show xin (25) by decide) e163 rfl ?_
  obtain ⟨M164, e165, h⟩ := xbnd h
  refine xs_p (i := 59) (c := 14) (k := 18) (by decide +kernel) (by decide +kernel) (by decide +kernel) e165 rfl ?_
  refine xe_alr (ins := .aload_n 0) (len := 1) (i := 0) (by decide +kernel) rfl rfl rfl rfl rfl ?_
  refine xe_bipush (n := 25) (by decide +kernel) (by decide) rfl ?_
  obtain ⟨p166, e167, h⟩ := xbnd h
  refine xs_na (kk := 3) (ty := .int) (x := p166.1) (M1 := p166.2) (by decide +kernel) rfl (show xin (25) by decide) e167 rfl ?_
  obtain ⟨M168, e169, h⟩ := xbnd h
  refine xs_p (i := 62) (c := 14) (k := 19) (by decide +kernel) (by decide +kernel) (by decide +kernel) e169 rfl ?_
  refine xe_alr (ins := .aload_n 0) (len := 1) (i := 0) (by decide +kernel) rfl rfl rfl rfl rfl ?_
  refine xe_bipush (n := 25) (by decide +kernel) (by decide) rfl ?_
  obtain ⟨p170, e171, h⟩ := xbnd h
  refine xs_na (kk := 3) (ty := .int) (x := p170.1) (M1 := p170.2) (by decide +kernel) rfl (show xin (25) by decide) e171 rfl ?_
  obtain ⟨M172, e173, h⟩ := xbnd h
  refine xs_p (i := 65) (c := 14) (k := 20) (by decide +kernel) (by decide +kernel) (by decide +kernel) e173 rfl ?_
  refine xe_alr (ins := .aload_n 0) (len := 1) (i := 0) (by decide +kernel) rfl rfl rfl rfl rfl ?_
  refine xe_bipush (n := 25) (by decide +kernel) (by decide) rfl ?_
  obtain ⟨p174, e175, h⟩ := xbnd h
  refine xs_na (kk := 3) (ty := .int) (x := p174.1) (M1 := p174.2) (by decide +kernel) rfl (show xin (25) by decide) e175 rfl ?_
  obtain ⟨M176, e177, h⟩ := xbnd h
  refine xs_p (i := 68) (c := 14) (k := 21) (by decide +kernel) (by decide +kernel) (by decide +kernel) e177 rfl ?_
  refine xe_alr (ins := .aload_n 0) (len := 1) (i := 0) (by decide +kernel) rfl rfl rfl rfl rfl ?_
  refine xe_bipush (n := 25) (by decide +kernel) (by decide) rfl ?_
  obtain ⟨p178, e179, h⟩ := xbnd h
  refine xs_na (kk := 3) (ty := .int) (x := p178.1) (M1 := p178.2) (by decide +kernel) rfl (show xin (25) by decide) e179 rfl ?_
  obtain ⟨M180, e181, h⟩ := xbnd h
  refine xs_p (i := 71) (c := 14) (k := 22) (by decide +kernel) (by decide +kernel) (by decide +kernel) e181 rfl ?_
  refine xe_alr (ins := .aload_n 0) (len := 1) (i := 0) (by decide +kernel) rfl rfl rfl rfl rfl ?_
  refine xe_bipush (n := 100) (by decide +kernel) (by decide) rfl ?_
  obtain ⟨p182, e183, h⟩ := xbnd h
  refine xs_na (kk := 3) (ty := .int) (x := p182.1) (M1 := p182.2) (by decide +kernel) rfl (show xin (100) by decide) e183 rfl ?_
  obtain ⟨M184, e185, h⟩ := xbnd h
  refine xs_p (i := 74) (c := 14) (k := 23) (by decide +kernel) (by decide +kernel) (by decide +kernel) e185 rfl ?_
  refine xe_alr (ins := .aload_n 0) (len := 1) (i := 0) (by decide +kernel) rfl rfl rfl rfl rfl ?_
  refine xe_bipush (n := 100) (by decide +kernel) (by decide) rfl ?_
  obtain ⟨p186, e187, h⟩ := xbnd h
  refine xs_na (kk := 3) (ty := .int) (x := p186.1) (M1 := p186.2) (by decide +kernel) rfl (show xin (100) by decide) e187 rfl ?_
  obtain ⟨M188, e189, h⟩ := xbnd h
  refine xs_p (i := 77) (c := 14) (k := 24) (by decide +kernel) (by decide +kernel) (by decide +kernel) e189 rfl ?_
  refine xe_alr (ins := .aload_n 0) (len := 1) (i := 0) (by decide +kernel) rfl rfl rfl rfl rfl ?_
  refine xe_sipush (n := 200) (by decide +kernel) (by decide) rfl ?_
  obtain ⟨p190, e191, h⟩ := xbnd h
  refine xs_na (kk := 4) (ty := .long) (x := p190.1) (M1 := p190.2) (by decide +kernel) rfl (show xin (200) by decide) e191 rfl ?_
  obtain ⟨M192, e193, h⟩ := xbnd h
  refine xs_p (i := 80) (c := 14) (k := 25) (by decide +kernel) (by decide +kernel) (by decide +kernel) e193 rfl ?_
  refine xe_alr (ins := .aload_n 0) (len := 1) (i := 0) (by decide +kernel) rfl rfl rfl rfl rfl ?_
  refine xe_sipush (n := 200) (by decide +kernel) (by decide) rfl ?_
  obtain ⟨p194, e195, h⟩ := xbnd h
  refine xs_na (kk := 3) (ty := .int) (x := p194.1) (M1 := p194.2) (by decide +kernel) rfl (show xin (200) by decide) e195 rfl ?_
  obtain ⟨M196, e197, h⟩ := xbnd h
  refine xs_p (i := 83) (c := 14) (k := 26) (by decide +kernel) (by decide +kernel) (by decide +kernel) e197 rfl ?_
  refine xe_alr (ins := .aload_n 0) (len := 1) (i := 0) (by decide +kernel) rfl rfl rfl rfl rfl ?_
  refine xe_sipush (n := 200) (by decide +kernel) (by decide) rfl ?_
  obtain ⟨p198, e199, h⟩ := xbnd h
  refine xs_na (kk := 3) (ty := .int) (x := p198.1) (M1 := p198.2) (by decide +kernel) rfl (show xin (200) by decide) e199 rfl ?_
  obtain ⟨M200, e201, h⟩ := xbnd h
  refine xs_p (i := 86) (c := 14) (k := 27) (by decide +kernel) (by decide +kernel) (by decide +kernel) e201 rfl ?_
  refine xe_alr (ins := .aload_n 0) (len := 1) (i := 0) (by decide +kernel) rfl rfl rfl rfl rfl ?_
  refine xe_sipush (n := 200) (by decide +kernel) (by decide) rfl ?_
  obtain ⟨p202, e203, h⟩ := xbnd h
  refine xs_na (kk := 3) (ty := .int) (x := p202.1) (M1 := p202.2) (by decide +kernel) rfl (show xin (200) by decide) e203 rfl ?_
  obtain ⟨M204, e205, h⟩ := xbnd h
  refine xs_p (i := 89) (c := 14) (k := 28) (by decide +kernel) (by decide +kernel) (by decide +kernel) e205 rfl ?_
  refine xe_alr (ins := .aload_n 0) (len := 1) (i := 0) (by decide +kernel) rfl rfl rfl rfl rfl ?_
  refine xe_sipush (n := 200) (by decide +kernel) (by decide) rfl ?_
  obtain ⟨p206, e207, h⟩ := xbnd h
  refine xs_na (kk := 3) (ty := .int) (x := p206.1) (M1 := p206.2) (by decide +kernel) rfl (show xin (200) by decide) e207 rfl ?_
  obtain ⟨M208, e209, h⟩ := xbnd h
  refine xs_p (i := 92) (c := 14) (k := 29) (by decide +kernel) (by decide +kernel) (by decide +kernel) e209 rfl ?_
  refine xe_alr (ins := .aload_n 0) (len := 1) (i := 0) (by decide +kernel) rfl rfl rfl rfl rfl ?_
  refine xe_sipush (n := 200) (by decide +kernel) (by decide) rfl ?_
  obtain ⟨p210, e211, h⟩ := xbnd h
  refine xs_na (kk := 3) (ty := .int) (x := p210.1) (M1 := p210.2) (by decide +kernel) rfl (show xin (200) by decide) e211 rfl ?_
  obtain ⟨M212, e213, h⟩ := xbnd h
  refine xs_p (i := 95) (c := 14) (k := 30) (by decide +kernel) (by decide +kernel) (by decide +kernel) e213 rfl ?_
  refine xe_alr (ins := .aload_n 0) (len := 1) (i := 0) (by decide +kernel) rfl rfl rfl rfl rfl ?_
  refine xe_sipush (n := 200) (by decide +kernel) (by decide) rfl ?_
  obtain ⟨p214, e215, h⟩ := xbnd h
  refine xs_na (kk := 3) (ty := .int) (x := p214.1) (M1 := p214.2) (by decide +kernel) rfl (show xin (200) by decide) e215 rfl ?_
  obtain ⟨M216, e217, h⟩ := xbnd h
  refine xs_p (i := 98) (c := 14) (k := 31) (by decide +kernel) (by decide +kernel) (by decide +kernel) e217 rfl ?_
  refine xe_alr (ins := .aload_n 0) (len := 1) (i := 0) (by decide +kernel) rfl rfl rfl rfl rfl ?_
  refine xe_sipush (n := 200) (by decide +kernel) (by decide) rfl ?_
  obtain ⟨p218, e219, h⟩ := xbnd h
  refine xs_na (kk := 3) (ty := .int) (x := p218.1) (M1 := p218.2) (by decide +kernel) rfl (show xin (200) by decide) e219 rfl ?_
  obtain ⟨M220, e221, h⟩ := xbnd h
  refine xs_p (i := 101) (c := 14) (k := 32) (by decide +kernel) (by decide +kernel) (by decide +kernel) e221 rfl ?_
  refine xe_alr (ins := .aload_n 0) (len := 1) (i := 0) (by decide +kernel) rfl rfl rfl rfl rfl ?_
  refine xe_sipush (n := 800) (by decide +kernel) (by decide) rfl ?_
  obtain ⟨p222, e223, h⟩ := xbnd h
  refine xs_na (kk := 3) (ty := .int) (x := p222.1) (M1 := p222.2) (by decide +kernel) rfl (show xin (800) by decide) e223 rfl ?_
  obtain ⟨M224, e225, h⟩ := xbnd h
  refine xs_p (i := 104) (c := 14) (k := 33) (by decide +kernel) (by decide +kernel) (by decide +kernel) e225 rfl ?_
  refine xe_alr (ins := .aload_n 0) (len := 1) (i := 0) (by decide +kernel) rfl rfl rfl rfl rfl ?_
  refine xe_sipush (n := 800) (by decide +kernel) (by decide) rfl ?_
  obtain ⟨p226, e227, h⟩ := xbnd h
  refine xs_na (kk := 4) (ty := .long) (x := p226.1) (M1 := p226.2) (by decide +kernel) rfl (show xin (800) by decide) e227 rfl ?_
  obtain ⟨M228, e229, h⟩ := xbnd h
  refine xs_p (i := 107) (c := 14) (k := 34) (by decide +kernel) (by decide +kernel) (by decide +kernel) e229 rfl ?_
  refine xe_alr (ins := .aload_n 0) (len := 1) (i := 0) (by decide +kernel) rfl rfl rfl rfl rfl ?_
  refine xe_sipush (n := 6200) (by decide +kernel) (by decide) rfl ?_
  obtain ⟨p230, e231, h⟩ := xbnd h
  refine xs_na (kk := 3) (ty := .int) (x := p230.1) (M1 := p230.2) (by decide +kernel) rfl (show xin (6200) by decide) e231 rfl ?_
  obtain ⟨M232, e233, h⟩ := xbnd h
  refine xs_p (i := 110) (c := 14) (k := 35) (by decide +kernel) (by decide +kernel) (by decide +kernel) e233 rfl ?_
  refine xe_alr (ins := .aload_n 0) (len := 1) (i := 0) (by decide +kernel) rfl rfl rfl rfl rfl ?_
  refine xe_sipush (n := 6200) (by decide +kernel) (by decide) rfl ?_
  obtain ⟨p234, e235, h⟩ := xbnd h
  refine xs_na (kk := 4) (ty := .long) (x := p234.1) (M1 := p234.2) (by decide +kernel) rfl (show xin (6200) by decide) e235 rfl ?_
  obtain ⟨M236, e237, h⟩ := xbnd h
  refine xs_p (i := 113) (c := 14) (k := 36) (by decide +kernel) (by decide +kernel) (by decide +kernel) e237 rfl ?_
  cases h
  exact xe_ret_v (by decide +kernel) rfl ⟨rfl, rfl⟩
-- ChangeHouseModel$Line.<init>
def xr_201 : xj_mR := (13, yX13_init, cX13_init, 1, (Option.none : Option Jvm.ClassFile.FieldType), 0, true, (11, 221), (1, 18))
set_option maxRecDepth 20000 in
theorem xr_201_e : xj_row 201 = some xr_201 := rfl
def f201  (f : Nat) (a0 : Nat) (M : xj_M) : Option (xj_M) := ((xq_nz (a0)).bind fun _ => ((xq_nw 12 M).bind fun p102 => ((f193  f (p102.1) p102.2).bind fun M105 => ((xq_pr 13 0 (a0) (p102.1) M105).bind fun M107 => ((xq_na 3 (12000) M107).bind fun p109 => ((xq_pr 13 5 (a0) (p109.1) p109.2).bind fun M111 => ((xq_na 3 (12000) M111).bind fun p113 => ((xq_pr 13 6 (a0) (p113.1) p113.2).bind fun M115 => ((xq_na 3 (12000) M115).bind fun p117 => ((xq_pr 13 7 (a0) (p117.1) p117.2).bind fun M119 => ((xq_na 4 (12000) M119).bind fun p121 => ((xq_pr 13 8 (a0) (p121.1) p121.2).bind fun M123 => ((xq_na 4 (48000) M123).bind fun p125 => ((xq_pr 13 9 (a0) (p125.1) p125.2).bind fun M127 => ((xq_na 3 (200) M127).bind fun p129 => ((xq_pr 13 11 (a0) (p129.1) p129.2).bind fun M131 => ((xq_na 3 (200) M131).bind fun p133 => ((xq_pr 13 12 (a0) (p133.1) p133.2).bind fun M135 => ((xq_na 3 (200) M135).bind fun p137 => ((xq_pr 13 13 (a0) (p137.1) p137.2).bind fun M139 => ((xq_na 3 (20) M139).bind fun p141 => ((xq_pr 13 14 (a0) (p141.1) p141.2).bind fun M143 => ((xq_na 3 (20) M143).bind fun p145 => ((xq_pr 13 15 (a0) (p145.1) p145.2).bind fun M147 => ((xq_na 3 (72) M147).bind fun p149 => ((xq_pr 13 18 (a0) (p149.1) p149.2).bind fun M151 => ((xq_na 3 (72) M151).bind fun p153 => ((xq_pr 13 19 (a0) (p153.1) p153.2).bind fun M155 => ((xq_na 3 (72) M155).bind fun p157 => ((xq_pr 13 20 (a0) (p157.1) p157.2).bind fun M159 => ((xq_na 3 (16) M159).bind fun p161 => ((xq_pr 13 21 (a0) (p161.1) p161.2).bind fun M163 => ((xq_na 3 (16) M163).bind fun p165 => ((xq_pr 13 22 (a0) (p165.1) p165.2).bind fun M167 => ((xq_na 4 (72) M167).bind fun p169 => ((xq_pr 13 23 (a0) (p169.1) p169.2).bind fun M171 => ((xq_na 3 (3400) M171).bind fun p173 => ((xq_pr 13 24 (a0) (p173.1) p173.2).bind fun M175 => ((xq_na 3 (3400) M175).bind fun p177 => ((xq_pr 13 25 (a0) (p177.1) p177.2).bind fun M179 => ((xq_na 4 (13600) M179).bind fun p181 => ((xq_pr 13 26 (a0) (p181.1) p181.2).bind fun M183 => ((xq_na 3 (400) M183).bind fun p185 => ((xq_pr 13 28 (a0) (p185.1) p185.2).bind fun M187 => ((xq_na 3 (400) M187).bind fun p189 => ((xq_pr 13 29 (a0) (p189.1) p189.2).bind fun M191 => ((xq_na 3 (72) M191).bind fun p193 => ((xq_pr 13 30 (a0) (p193.1) p193.2).bind fun M195 => ((xq_na 4 (400) M195).bind fun p197 => ((xq_pr 13 31 (a0) (p197.1) p197.2).bind fun M199 => ((xq_na 4 (1600) M199).bind fun p201 => ((xq_pr 13 32 (a0) (p201.1) p201.2).bind fun M203 => ((xq_pi 13 34 (a0) (-1) M203).bind fun M205 => ((xq_pi 13 35 (a0) (-1) M205).bind fun M207 => ((xq_is 13 (a0) M207).bind fun _ => ((f202  f (a0) M207).bind fun M211 => (some M211)))))))))))))))))))))))))))))))))))))))))))))))))))))))))
theorem k201 {d f : Nat}   {a0 : Nat} {M : xj_M} {R : xj_M}  (h : f201  f a0 M = some R) : xT (d + 2) 201 [xR_ a0] M (xQv R) := by
  refine xT_m xr_201_e (X := (none, d + 1, none)) rfl (xa_1 (xR_cat _) xa_n) (by decide) ?_
  unfold f201 at h
  refine xe_alr (ins := .aload_n 0) (len := 1) (i := 0) (by decide +kernel) rfl rfl rfl rfl rfl ?_
  obtain ⟨_, e101, h⟩ := xbnd h
  refine xe_oi (i := 3) (j := 0) (by decide +kernel) (by decide +kernel) (by rfl) (xq_nz_ne e101) rfl ?_
  refine xe_alr (ins := .aload_n 0) (len := 1) (i := 0) (by decide +kernel) rfl rfl rfl rfl rfl ?_
  obtain ⟨p102, e103, h⟩ := xbnd h
  refine xs_nw (i := 9) (ci := 12) (x := p102.1) (M1 := p102.2) (by decide +kernel) (by decide +kernel) e103 rfl ?_
  refine xe_dupr (by decide +kernel) rfl ?_
  obtain ⟨M105, e104, h⟩ := xbnd h
  refine xs_ci (kd := 4) (by decide) (i := 11) (j := 193) (ar := []) (rest := [xR_ (p102.1), xR_ (a0)]) (r2 := xr_193) (by decide +kernel) (by decide +kernel) xr_193_e rfl rfl (by simp only [List.map_cons, List.map_nil, List.sum_cons, List.sum_nil, xR_cat, xI_cat, xZ_cat]; decide) (xq_nw_ne e103) ?_
  refine xc_v (k193 (d := d + 0)   e104) rfl ?_
  obtain ⟨M107, e108, h⟩ := xbnd h
  refine xs_p (i := 12) (c := 13) (k := 0) (by decide +kernel) (by decide +kernel) (by decide +kernel) e108 rfl ?_
  refine xe_alr (ins := .aload_n 0) (len := 1) (i := 0) (by decide +kernel) rfl rfl rfl rfl rfl ?_
  refine xe_sipush (n := 12000) (by decide +kernel) (by decide) rfl ?_
  obtain ⟨p109, e110, h⟩ := xbnd h
  refine xs_na (kk := 3) (ty := .int) (x := p109.1) (M1 := p109.2) (by decide +kernel) rfl (show xin (12000) by decide) e110 rfl ?_
  obtain ⟨M111, e112, h⟩ := xbnd h
  refine xs_p (i := 18) (c := 13) (k := 5) (by decide +kernel) (by decide +kernel) (by decide +kernel) e112 rfl ?_
  refine xe_alr (ins := .aload_n 0) (len := 1) (i := 0) (by decide +kernel) rfl rfl rfl rfl rfl ?_
  refine xe_sipush (n := 12000) (by decide +kernel) (by decide) rfl ?_
  obtain ⟨p113, e114, h⟩ := xbnd h
  refine xs_na (kk := 3) (ty := .int) (x := p113.1) (M1 := p113.2) (by decide +kernel) rfl (show xin (12000) by decide) e114 rfl ?_
  obtain ⟨M115, e116, h⟩ := xbnd h
  refine xs_p (i := 22) (c := 13) (k := 6) (by decide +kernel) (by decide +kernel) (by decide +kernel) e116 rfl ?_
  refine xe_alr (ins := .aload_n 0) (len := 1) (i := 0) (by decide +kernel) rfl rfl rfl rfl rfl ?_
  refine xe_sipush (n := 12000) (by decide +kernel) (by decide) rfl ?_
  obtain ⟨p117, e118, h⟩ := xbnd h
  refine xs_na (kk := 3) (ty := .int) (x := p117.1) (M1 := p117.2) (by decide +kernel) rfl (show xin (12000) by decide) e118 rfl ?_
  obtain ⟨M119, e120, h⟩ := xbnd h
  refine xs_p (i := 25) (c := 13) (k := 7) (by decide +kernel) (by decide +kernel) (by decide +kernel) e120 rfl ?_
  refine xe_alr (ins := .aload_n 0) (len := 1) (i := 0) (by decide +kernel) rfl rfl rfl rfl rfl ?_
  refine xe_sipush (n := 12000) (by decide +kernel) (by decide) rfl ?_
  obtain ⟨p121, e122, h⟩ := xbnd h
  refine xs_na (kk := 4) (ty := .long) (x := p121.1) (M1 := p121.2) (by decide +kernel) rfl (show xin (12000) by decide) e122 rfl ?_
  obtain ⟨M123, e124, h⟩ := xbnd h
  refine xs_p (i := 28) (c := 13) (k := 8) (by decide +kernel) (by decide +kernel) (by decide +kernel) e124 rfl ?_
  refine xe_alr (ins := .aload_n 0) (len := 1) (i := 0) (by decide +kernel) rfl rfl rfl rfl rfl ?_
  refine xe_ldci (ins := .ldc 32) (len := 2) (n := 48000) (by decide +kernel) rfl rfl rfl rfl rfl rfl ?_
  obtain ⟨p125, e126, h⟩ := xbnd h
  refine xs_na (kk := 4) (ty := .long) (x := p125.1) (M1 := p125.2) (by decide +kernel) rfl (show xin (48000) by decide) e126 rfl ?_
  obtain ⟨M127, e128, h⟩ := xbnd h
  refine xs_p (i := 33) (c := 13) (k := 9) (by decide +kernel) (by decide +kernel) (by decide +kernel) e128 rfl ?_
  refine xe_alr (ins := .aload_n 0) (len := 1) (i := 0) (by decide +kernel) rfl rfl rfl rfl rfl ?_
  refine xe_sipush (n := 200) (by decide +kernel) (by decide) rfl ?_
  obtain ⟨p129, e130, h⟩ := xbnd h
  refine xs_na (kk := 3) (ty := .int) (x := p129.1) (M1 := p129.2) (by decide +kernel) rfl (show xin (200) by decide) e130 rfl ?_
  obtain ⟨M131, e132, h⟩ := xbnd h
  refine xs_p (i := 36) (c := 13) (k := 11) (by decide +kernel) (by decide +kernel) (by decide +kernel) e132 rfl ?_
  refine xe_alr (ins := .aload_n 0) (len := 1) (i := 0) (by decide +kernel) rfl rfl rfl rfl rfl ?_
  refine xe_sipush (n := 200) (by decide +kernel) (by decide) rfl ?_
  obtain ⟨p133, e134, h⟩ := xbnd h
  refine xs_na (kk := 3) (ty := .int) (x := p133.1) (M1 := p133.2) (by decide +kernel) rfl (show xin (200) by decide) e134 rfl ?_
  obtain ⟨M135, e136, h⟩ := xbnd h
  refine xs_p (i := 39) (c := 13) (k := 12) (by decide +kernel) (by decide +kernel) (by decide +kernel) e136 rfl ?_
  refine xe_alr (ins := .aload_n 0) (len := 1) (i := 0) (by decide +kernel) rfl rfl rfl rfl rfl ?_
  refine xe_sipush (n := 200) (by decide +kernel) (by decide) rfl ?_
  obtain ⟨p137, e138, h⟩ := xbnd h
  refine xs_na (kk := 3) (ty := .int) (x := p137.1) (M1 := p137.2) (by decide +kernel) rfl (show xin (200) by decide) e138 rfl ?_
  obtain ⟨M139, e140, h⟩ := xbnd h
  refine xs_p (i := 42) (c := 13) (k := 13) (by decide +kernel) (by decide +kernel) (by decide +kernel) e140 rfl ?_
  refine xe_alr (ins := .aload_n 0) (len := 1) (i := 0) (by decide +kernel) rfl rfl rfl rfl rfl ?_
  refine xe_bipush (n := 20) (by decide +kernel) (by decide) rfl ?_
  obtain ⟨p141, e142, h⟩ := xbnd h
  refine xs_na (kk := 3) (ty := .int) (x := p141.1) (M1 := p141.2) (by decide +kernel) rfl (show xin (20) by decide) e142 rfl ?_
  obtain ⟨M143, e144, h⟩ := xbnd h
  refine xs_p (i := 45) (c := 13) (k := 14) (by decide +kernel) (by decide +kernel) (by decide +kernel) e144 rfl ?_
  refine xe_alr (ins := .aload_n 0) (len := 1) (i := 0) (by decide +kernel) rfl rfl rfl rfl rfl ?_
  refine xe_bipush (n := 20) (by decide +kernel) (by decide) rfl ?_
  obtain ⟨p145, e146, h⟩ := xbnd h
  refine xs_na (kk := 3) (ty := .int) (x := p145.1) (M1 := p145.2) (by decide +kernel) rfl (show xin (20) by decide) e146 rfl ?_
  obtain ⟨M147, e148, h⟩ := xbnd h
  refine xs_p (i := 48) (c := 13) (k := 15) (by decide +kernel) (by decide +kernel) (by decide +kernel) e148 rfl ?_
  refine xe_alr (ins := .aload_n 0) (len := 1) (i := 0) (by decide +kernel) rfl rfl rfl rfl rfl ?_
  refine xe_bipush (n := 72) (by decide +kernel) (by decide) rfl ?_
  obtain ⟨p149, e150, h⟩ := xbnd h
  refine xs_na (kk := 3) (ty := .int) (x := p149.1) (M1 := p149.2) (by decide +kernel) rfl (show xin (72) by decide) e150 rfl ?_
  obtain ⟨M151, e152, h⟩ := xbnd h
  refine xs_p (i := 51) (c := 13) (k := 18) (by decide +kernel) (by decide +kernel) (by decide +kernel) e152 rfl ?_
  refine xe_alr (ins := .aload_n 0) (len := 1) (i := 0) (by decide +kernel) rfl rfl rfl rfl rfl ?_
  refine xe_bipush (n := 72) (by decide +kernel) (by decide) rfl ?_
  obtain ⟨p153, e154, h⟩ := xbnd h
  refine xs_na (kk := 3) (ty := .int) (x := p153.1) (M1 := p153.2) (by decide +kernel) rfl (show xin (72) by decide) e154 rfl ?_
  obtain ⟨M155, e156, h⟩ := xbnd h
  refine xs_p (i := 54) (c := 13) (k := 19) (by decide +kernel) (by decide +kernel) (by decide +kernel) e156 rfl ?_
  refine xe_alr (ins := .aload_n 0) (len := 1) (i := 0) (by decide +kernel) rfl rfl rfl rfl rfl ?_
  refine xe_bipush (n := 72) (by decide +kernel) (by decide) rfl ?_
  obtain ⟨p157, e158, h⟩ := xbnd h
  refine xs_na (kk := 3) (ty := .int) (x := p157.1) (M1 := p157.2) (by decide +kernel) rfl (show xin (72) by decide) e158 rfl ?_
  obtain ⟨M159, e160, h⟩ := xbnd h
  refine xs_p (i := 57) (c := 13) (k := 20) (by decide +kernel) (by decide +kernel) (by decide +kernel) e160 rfl ?_
  refine xe_alr (ins := .aload_n 0) (len := 1) (i := 0) (by decide +kernel) rfl rfl rfl rfl rfl ?_
  refine xe_bipush (n := 16) (by decide +kernel) (by decide) rfl ?_
  obtain ⟨p161, e162, h⟩ := xbnd h
  refine xs_na (kk := 3) (ty := .int) (x := p161.1) (M1 := p161.2) (by decide +kernel) rfl (show xin (16) by decide) e162 rfl ?_
  obtain ⟨M163, e164, h⟩ := xbnd h
  refine xs_p (i := 60) (c := 13) (k := 21) (by decide +kernel) (by decide +kernel) (by decide +kernel) e164 rfl ?_
  refine xe_alr (ins := .aload_n 0) (len := 1) (i := 0) (by decide +kernel) rfl rfl rfl rfl rfl ?_
  refine xe_bipush (n := 16) (by decide +kernel) (by decide) rfl ?_
  obtain ⟨p165, e166, h⟩ := xbnd h
  refine xs_na (kk := 3) (ty := .int) (x := p165.1) (M1 := p165.2) (by decide +kernel) rfl (show xin (16) by decide) e166 rfl ?_
  obtain ⟨M167, e168, h⟩ := xbnd h
  refine xs_p (i := 63) (c := 13) (k := 22) (by decide +kernel) (by decide +kernel) (by decide +kernel) e168 rfl ?_
  refine xe_alr (ins := .aload_n 0) (len := 1) (i := 0) (by decide +kernel) rfl rfl rfl rfl rfl ?_
  refine xe_bipush (n := 72) (by decide +kernel) (by decide) rfl ?_
  obtain ⟨p169, e170, h⟩ := xbnd h
  refine xs_na (kk := 4) (ty := .long) (x := p169.1) (M1 := p169.2) (by decide +kernel) rfl (show xin (72) by decide) e170 rfl ?_
  obtain ⟨M171, e172, h⟩ := xbnd h
  refine xs_p (i := 66) (c := 13) (k := 23) (by decide +kernel) (by decide +kernel) (by decide +kernel) e172 rfl ?_
  refine xe_alr (ins := .aload_n 0) (len := 1) (i := 0) (by decide +kernel) rfl rfl rfl rfl rfl ?_
  refine xe_sipush (n := 3400) (by decide +kernel) (by decide) rfl ?_
  obtain ⟨p173, e174, h⟩ := xbnd h
  refine xs_na (kk := 3) (ty := .int) (x := p173.1) (M1 := p173.2) (by decide +kernel) rfl (show xin (3400) by decide) e174 rfl ?_
  obtain ⟨M175, e176, h⟩ := xbnd h
  refine xs_p (i := 69) (c := 13) (k := 24) (by decide +kernel) (by decide +kernel) (by decide +kernel) e176 rfl ?_
  refine xe_alr (ins := .aload_n 0) (len := 1) (i := 0) (by decide +kernel) rfl rfl rfl rfl rfl ?_
  refine xe_sipush (n := 3400) (by decide +kernel) (by decide) rfl ?_
  obtain ⟨p177, e178, h⟩ := xbnd h
  refine xs_na (kk := 3) (ty := .int) (x := p177.1) (M1 := p177.2) (by decide +kernel) rfl (show xin (3400) by decide) e178 rfl ?_
  obtain ⟨M179, e180, h⟩ := xbnd h
  refine xs_p (i := 72) (c := 13) (k := 25) (by decide +kernel) (by decide +kernel) (by decide +kernel) e180 rfl ?_
  refine xe_alr (ins := .aload_n 0) (len := 1) (i := 0) (by decide +kernel) rfl rfl rfl rfl rfl ?_
  refine xe_sipush (n := 13600) (by decide +kernel) (by decide) rfl ?_
  obtain ⟨p181, e182, h⟩ := xbnd h
  refine xs_na (kk := 4) (ty := .long) (x := p181.1) (M1 := p181.2) (by decide +kernel) rfl (show xin (13600) by decide) e182 rfl ?_
  obtain ⟨M183, e184, h⟩ := xbnd h
  refine xs_p (i := 75) (c := 13) (k := 26) (by decide +kernel) (by decide +kernel) (by decide +kernel) e184 rfl ?_
  refine xe_alr (ins := .aload_n 0) (len := 1) (i := 0) (by decide +kernel) rfl rfl rfl rfl rfl ?_
  refine xe_sipush (n := 400) (by decide +kernel) (by decide) rfl ?_
  obtain ⟨p185, e186, h⟩ := xbnd h
  refine xs_na (kk := 3) (ty := .int) (x := p185.1) (M1 := p185.2) (by decide +kernel) rfl (show xin (400) by decide) e186 rfl ?_
  obtain ⟨M187, e188, h⟩ := xbnd h
  refine xs_p (i := 78) (c := 13) (k := 28) (by decide +kernel) (by decide +kernel) (by decide +kernel) e188 rfl ?_
  refine xe_alr (ins := .aload_n 0) (len := 1) (i := 0) (by decide +kernel) rfl rfl rfl rfl rfl ?_
  refine xe_sipush (n := 400) (by decide +kernel) (by decide) rfl ?_
  obtain ⟨p189, e190, h⟩ := xbnd h
  refine xs_na (kk := 3) (ty := .int) (x := p189.1) (M1 := p189.2) (by decide +kernel) rfl (show xin (400) by decide) e190 rfl ?_
  obtain ⟨M191, e192, h⟩ := xbnd h
  refine xs_p (i := 81) (c := 13) (k := 29) (by decide +kernel) (by decide +kernel) (by decide +kernel) e192 rfl ?_
  refine xe_alr (ins := .aload_n 0) (len := 1) (i := 0) (by decide +kernel) rfl rfl rfl rfl rfl ?_
  refine xe_bipush (n := 72) (by decide +kernel) (by decide) rfl ?_
  obtain ⟨p193, e194, h⟩ := xbnd h
  refine xs_na (kk := 3) (ty := .int) (x := p193.1) (M1 := p193.2) (by decide +kernel) rfl (show xin (72) by decide) e194 rfl ?_
  obtain ⟨M195, e196, h⟩ := xbnd h
  refine xs_p (i := 84) (c := 13) (k := 30) (by decide +kernel) (by decide +kernel) (by decide +kernel) e196 rfl ?_
  refine xe_alr (ins := .aload_n 0) (len := 1) (i := 0) (by decide +kernel) rfl rfl rfl rfl rfl ?_
  refine xe_sipush (n := 400) (by decide +kernel) (by decide) rfl ?_
  obtain ⟨p197, e198, h⟩ := xbnd h
  refine xs_na (kk := 4) (ty := .long) (x := p197.1) (M1 := p197.2) (by decide +kernel) rfl (show xin (400) by decide) e198 rfl ?_
  obtain ⟨M199, e200, h⟩ := xbnd h
  refine xs_p (i := 87) (c := 13) (k := 31) (by decide +kernel) (by decide +kernel) (by decide +kernel) e200 rfl ?_
  refine xe_alr (ins := .aload_n 0) (len := 1) (i := 0) (by decide +kernel) rfl rfl rfl rfl rfl ?_
  refine xe_sipush (n := 1600) (by decide +kernel) (by decide) rfl ?_
  obtain ⟨p201, e202, h⟩ := xbnd h
  refine xs_na (kk := 4) (ty := .long) (x := p201.1) (M1 := p201.2) (by decide +kernel) rfl (show xin (1600) by decide) e202 rfl ?_
  obtain ⟨M203, e204, h⟩ := xbnd h
  refine xs_p (i := 90) (c := 13) (k := 32) (by decide +kernel) (by decide +kernel) (by decide +kernel) e204 rfl ?_
  refine xe_alr (ins := .aload_n 0) (len := 1) (i := 0) (by decide +kernel) rfl rfl rfl rfl rfl ?_
  refine xe_iconst (n := -1) (by decide +kernel) rfl ?_
  obtain ⟨M205, e206, h⟩ := xbnd h
  refine xs_p (i := 93) (c := 13) (k := 34) (by decide +kernel) (by decide +kernel) (by decide +kernel) e206 rfl ?_
  refine xe_alr (ins := .aload_n 0) (len := 1) (i := 0) (by decide +kernel) rfl rfl rfl rfl rfl ?_
  refine xe_iconst (n := -1) (by decide +kernel) rfl ?_
  obtain ⟨M207, e208, h⟩ := xbnd h
  refine xs_p (i := 97) (c := 13) (k := 35) (by decide +kernel) (by decide +kernel) (by decide +kernel) e208 rfl ?_
  refine xe_alr (ins := .aload_n 0) (len := 1) (i := 0) (by decide +kernel) rfl rfl rfl rfl rfl ?_
  obtain ⟨_, e210, h⟩ := xbnd h
  obtain ⟨M211, e209, h⟩ := xbnd h
  refine xs_cv (i := 100) (j := 202) (ar := []) (rest := []) (r2 := xr_202) (by decide +kernel) (by decide +kernel) (by decide +kernel) xr_202_e rfl (by decide) (by decide) e210 ?_
  refine xc_v (k202 (d := d + 0)   e209) rfl ?_
  cases h
  exact xe_ret_v (by decide +kernel) rfl ⟨rfl, rfl⟩
-- ChangeHouseModel.code
def xr_223 : xj_mR := (15, yX15_code, cX15_code, 4, (Option.some Jvm.ClassFile.FieldType.long), 1, false, (11, 48), (1, 12))
set_option maxRecDepth 20000 in
theorem xr_223_e : xj_row 223 = some xr_223 := rfl
def f223_4b  (r4 : Nat → Int → Int → xj_M → Option (Int × xj_M)) (f : Nat) (x0 : Nat) (x1 : Int) (x3 : Int) (M : xj_M) : Option (Int × xj_M) := ((xq_st (x0)).bind fun _ => ((f385  f (x0) M).bind fun R103 => (if (R103.1) ≤ (x3) then (some (x1, R103.2)) else ((xq_st (x0)).bind fun _ => ((f386  f (x0) (x3) R103.2).bind fun R108 => ((f215  f (R108.1) R108.2).bind fun R111 => r4 (x0) (xwl ((xwl ((38) * (x1))) + (R111.1))) (xwr ((x3) + (1))) R111.2))))))
theorem k223_4b {d f : Nat}  {r4 : Nat → Int → Int → xj_M → Option (Int × xj_M)}  (hr4 : ∀ {x0 : Nat} {x1 : Int} {x3 : Int} {M : xj_M} {R : Int × xj_M}, xiN x1 → xin x3 → r4 x0 x1 x3 M = some R → xW (d + 4) (none, d + 4, none) xr_223 (4, [(0, xR_ x0), (1, xZ x1), (3, xI x3)], [], M) (xQl R)) {x0 : Nat} {x1 : Int} {x3 : Int} {M : xj_M} {R : Int × xj_M} (hx1 : xiN x1) (hx3 : xin x3) (h : f223_4b  r4 f x0 x1 x3 M = some R) : xW (d + 4) (none, d + 4, none) xr_223 (4, [(0, xR_ x0), (1, xZ x1), (3, xI x3)], [], M) (xQl R) := by
  unfold f223_4b at h
  refine xe_ldn (ins := .iload_n 3) (len := 1) (by decide +kernel) rfl rfl rfl rfl ?_
  refine xe_alr (ins := .aload_n 0) (len := 1) (i := 0) (by decide +kernel) rfl rfl rfl rfl rfl ?_
  obtain ⟨_, e102, h⟩ := xbnd h
  obtain ⟨R103, e101, h⟩ := xbnd h
  refine xs_cw (i := 121) (j := 385) (ar := []) (rest := [xI (x3)]) (r2 := xr_385) (by decide +kernel) (by decide +kernel) (by decide +kernel) xr_385_e rfl (by simp only [List.map_cons, List.map_nil, List.sum_cons, List.sum_nil, xR_cat, xI_cat, xZ_cat]; decide) e102 ?_
  refine xc_i (k385 (d := d + 2)   e101) rfl (fun hi104 => ?_)
  refine xe_icmpge (off := 25) (t := 34) (by decide +kernel) (by decide) rfl hx3 hi104 (fun c105 => ?_) (fun c105 => ?_)
  · rw [if_pos c105] at h
    refine xe_ldn (ins := .lload_n 1) (len := 1) (by decide +kernel) rfl rfl rfl rfl ?_
    cases h
    exact xe_ret_l (by decide +kernel) rfl ⟨rfl, rfl, hx1⟩
  · rw [if_neg c105] at h
    refine xe_ldc2 (i := 75) (n := 38) (by decide +kernel) (by decide +kernel) rfl ?_
    refine xe_ldn (ins := .lload_n 1) (len := 1) (by decide +kernel) rfl rfl rfl rfl ?_
    refine xe_lmul (by decide +kernel) rfl ?_
    refine xe_alr (ins := .aload_n 0) (len := 1) (i := 0) (by decide +kernel) rfl rfl rfl rfl rfl ?_
    refine xe_ldn (ins := .iload_n 3) (len := 1) (by decide +kernel) rfl rfl rfl rfl ?_
    obtain ⟨_, e107, h⟩ := xbnd h
    obtain ⟨R108, e106, h⟩ := xbnd h
    refine xs_cw (i := 125) (j := 386) (ar := [xI (x3)]) (rest := [xZ (xwl ((38) * (x1)))]) (r2 := xr_386) (by decide +kernel) (by decide +kernel) (by decide +kernel) xr_386_e rfl (by simp only [List.map_cons, List.map_nil, List.sum_cons, List.sum_nil, xR_cat, xI_cat, xZ_cat]; decide) e107 ?_
    refine xc_i (k386 (d := d + 0)  hx3 e106) rfl (fun hi109 => ?_)
    obtain ⟨R111, e110, h⟩ := xbnd h
    refine xs_cs (kd := 2) (by decide) (i := 77) (j := 215) (ar := [xI (R108.1)]) (rest := [xZ (xwl ((38) * (x1)))]) (r2 := xr_215) (by decide +kernel) (by decide +kernel) (by decide +kernel) xr_215_e rfl (by simp only [List.map_cons, List.map_nil, List.sum_cons, List.sum_nil, xR_cat, xI_cat, xZ_cat]; decide) ?_
    refine xc_i (k215 (d := d + 2)  hi109 e110) rfl (fun hi112 => ?_)
    refine xe_i2l (by decide +kernel) rfl hi112 ?_
    refine xe_ladd (by decide +kernel) rfl ?_
    refine xe_lsr (ins := .lstore_n 1) (len := 1) (i := 1) (by decide +kernel) rfl rfl rfl (by decide) (xk2_k (show ¬ (0 : Nat) = 1 by decide) (show ¬ (0 : Nat) = 1 + 1 by decide) (Or.inr (xR_cat _)) (xk2_d (Or.inl rfl) (xk2_k (show ¬ (3 : Nat) = 1 by decide) (show ¬ (3 : Nat) = 1 + 1 by decide) (Or.inl (show ¬ (3 + 1 : Nat) = 1 by decide)) xk2_n))) rfl ?_
    refine xe_iincr (i := 3) (n := 1) (by decide +kernel) (by decide) rfl (xk_k (show ¬ (1 : Nat) = 3 by decide) (Or.inl (show ¬ (1 + 1 : Nat) = 3 by decide)) (xk_k (show ¬ (0 : Nat) = 3 by decide) (Or.inl (show ¬ (0 + 1 : Nat) = 3 by decide)) (xk_d rfl xk_n))) rfl ?_
    refine xe_goto (off := -27) (nx := 4) (by decide +kernel) (by decide) ?_
    refine xW_lv rfl (l := [(0, xR_ (x0)), (1, xZ (xwl ((xwl ((38) * (x1))) + (R111.1)))), (3, xI (xwr ((x3) + (1))))]) (xsb_of ⟨rfl, rfl, rfl, trivial⟩ (show [3, 1, 0].Nodup by decide)) ?_
    exact hr4 (xiN_wl _) (xin_wr _) h
def f223_4   (f : Nat) : Nat → Nat → Int → Int → xj_M → Option (Int × xj_M)
  | 0, _, _, _, _ => none
  | n + 1, x0, x1, x3, M => f223_4b   (f223_4   f n) f x0 x1 x3 M
theorem k223_4 {d f : Nat}     : ∀ {n : Nat} {x0 : Nat} {x1 : Int} {x3 : Int} {M : xj_M} {R : Int × xj_M}, xiN x1 → xin x3 → f223_4   f n x0 x1 x3 M = some R → xW (d + 4) (none, d + 4, none) xr_223 (4, [(0, xR_ x0), (1, xZ x1), (3, xI x3)], [], M) (xQl R) := by
  intro n
  induction n with
  | zero => intros; rename_i h; cases h
  | succ n ih => intros; rename_i h; exact k223_4b   ih (by assumption) (by assumption) h
def f223  (f : Nat) (a0 : Nat) (M : xj_M) : Option (Int × xj_M) := f223_4   f f (a0) (0) (0) M
theorem k223 {d f : Nat}   {a0 : Nat} {M : xj_M} {R : Int × xj_M}  (h : f223  f a0 M = some R) : xT (d + 5) 223 [xR_ a0] M (xQl R) := by
  refine xT_m xr_223_e (X := (none, d + 4, none)) rfl (xa_1 (xR_cat _) xa_n) (by decide) ?_
  unfold f223 at h
  refine xe_lconst (n := 0) (z := 0) (by decide +kernel) rfl rfl ?_
  refine xe_lsr (ins := .lstore_n 1) (len := 1) (i := 1) (by decide +kernel) rfl rfl rfl (by decide) (xk2_k (show ¬ (0 : Nat) = 1 by decide) (show ¬ (0 : Nat) = 1 + 1 by decide) (Or.inr (xR_cat _)) xk2_n) rfl ?_
  refine xe_iconst (n := 0) (by decide +kernel) rfl ?_
  refine xe_isr (ins := .istore_n 3) (len := 1) (i := 3) (by decide +kernel) rfl rfl rfl (by decide) (xk_k (show ¬ (1 : Nat) = 3 by decide) (Or.inl (show ¬ (1 + 1 : Nat) = 3 by decide)) (xk_k (show ¬ (0 : Nat) = 3 by decide) (Or.inl (show ¬ (0 + 1 : Nat) = 3 by decide)) xk_n)) rfl ?_
  refine xW_lv rfl (l := [(0, xR_ (a0)), (1, xZ (0)), (3, xI (0))]) (xsb_of ⟨rfl, rfl, rfl, trivial⟩ (show [3, 1, 0].Nodup by decide)) ?_
  exact k223_4   (show xiN (0) by decide) (show xin (0) by decide) h
-- ChangeHouseModel.<init>
def xr_357 : xj_mR := (15, yX15_init, cX15_init, 1, (Option.none : Option Jvm.ClassFile.FieldType), 0, true, (11, 43), (1, 12))
set_option maxRecDepth 20000 in
theorem xr_357_e : xj_row 357 = some xr_357 := rfl
def f357  (f : Nat) (a0 : Nat) (M : xj_M) : Option (xj_M) := ((xq_nz (a0)).bind fun _ => ((f223  f (1) M).bind fun R103 => ((xq_pl 15 12 (a0) (R103.1) R103.2).bind fun M105 => ((f223  f (2) M105).bind fun R108 => ((xq_pl 15 13 (a0) (R108.1) R108.2).bind fun M110 => ((f223  f (3) M110).bind fun R113 => ((xq_pl 15 14 (a0) (R113.1) R113.2).bind fun M115 => ((f223  f (4) M115).bind fun R118 => ((xq_pl 15 15 (a0) (R118.1) R118.2).bind fun M120 => ((f223  f (5) M120).bind fun R123 => ((xq_pl 15 16 (a0) (R123.1) R123.2).bind fun M125 => ((f223  f (6) M125).bind fun R128 => ((xq_pl 15 17 (a0) (R128.1) R128.2).bind fun M130 => ((f223  f (7) M130).bind fun R133 => ((xq_pl 15 18 (a0) (R133.1) R133.2).bind fun M135 => ((f223  f (8) M135).bind fun R138 => ((xq_pl 15 19 (a0) (R138.1) R138.2).bind fun M140 => ((f223  f (10) M140).bind fun R143 => ((xq_pl 15 20 (a0) (R143.1) R143.2).bind fun M145 => ((xq_na 3 (16) M145).bind fun p147 => ((xq_pr 15 28 (a0) (p147.1) p147.2).bind fun M149 => ((xq_nw 14 M149).bind fun p151 => ((f204  f (p151.1) p151.2).bind fun M154 => ((xq_pr 15 29 (a0) (p151.1) M154).bind fun M156 => ((xq_nw 14 M156).bind fun p158 => ((f204  f (p158.1) p158.2).bind fun M161 => ((xq_pr 15 30 (a0) (p158.1) M161).bind fun M163 => ((xq_nw 14 M163).bind fun p165 => ((f204  f (p165.1) p165.2).bind fun M168 => ((xq_pr 15 31 (a0) (p165.1) M168).bind fun M170 => ((xq_na 4 (33280) M170).bind fun p172 => ((xq_pr 15 32 (a0) (p172.1) p172.2).bind fun M174 => ((xq_na 3 (16) M174).bind fun p176 => ((xq_pr 15 33 (a0) (p176.1) p176.2).bind fun M178 => ((xq_na 3 (8320) M178).bind fun p180 => ((xq_pr 15 34 (a0) (p180.1) p180.2).bind fun M182 => ((xq_na 4 (8) M182).bind fun p184 => ((xq_pr 15 35 (a0) (p184.1) p184.2).bind fun M186 => ((xq_na 4 (6200) M186).bind fun p188 => ((xq_pr 15 36 (a0) (p188.1) p188.2).bind fun M190 => ((xq_na 4 (4) M190).bind fun p192 => ((xq_pr 15 44 (a0) (p192.1) p192.2).bind fun M194 => ((xq_na 3 (3400) M194).bind fun p196 => ((xq_pr 15 45 (a0) (p196.1) p196.2).bind fun M198 => ((xq_na 4 (13600) M198).bind fun p200 => ((xq_pr 15 46 (a0) (p200.1) p200.2).bind fun M202 => ((xq_na 3 (16) M202).bind fun p204 => ((xq_pr 15 48 (a0) (p204.1) p204.2).bind fun M206 => ((xq_na 4 (4008) M206).bind fun p208 => ((xq_pr 15 49 (a0) (p208.1) p208.2).bind fun M210 => ((xq_na 4 (8) M210).bind fun p212 => ((xq_pr 15 50 (a0) (p212.1) p212.2).bind fun M214 => ((xq_na 4 (4) M214).bind fun p216 => ((xq_pr 15 51 (a0) (p216.1) p216.2).bind fun M218 => ((xq_na 4 (4100) M218).bind fun p220 => ((xq_pr 15 55 (a0) (p220.1) p220.2).bind fun M222 => ((xq_na 4 (1025) M222).bind fun p224 => ((xq_pr 15 56 (a0) (p224.1) p224.2).bind fun M226 => ((xq_na 4 (4) M226).bind fun p228 => ((xq_pr 15 57 (a0) (p228.1) p228.2).bind fun M230 => ((xq_an 13 (4) M230).bind fun p232 => ((xq_nw 13 p232.2).bind fun p234 => ((f201  f (p234.1) p234.2).bind fun M237 => ((xq_sr (p232.1) (0) (p234.1) M237).bind fun M239 => ((xq_nw 13 M239).bind fun p241 => ((f201  f (p241.1) p241.2).bind fun M244 => ((xq_sr (p232.1) (1) (p241.1) M244).bind fun M246 => ((xq_nw 13 M246).bind fun p248 => ((f201  f (p248.1) p248.2).bind fun M251 => ((xq_sr (p232.1) (2) (p248.1) M251).bind fun M253 => ((xq_nw 13 M253).bind fun p255 => ((f201  f (p255.1) p255.2).bind fun M258 => ((xq_sr (p232.1) (3) (p255.1) M258).bind fun M260 => ((xq_pr 15 61 (a0) (p232.1) M260).bind fun M262 => ((xq_pi 15 65 (a0) (-1) M262).bind fun M264 => ((xq_pi 15 66 (a0) (-1) M264).bind fun M266 => ((xq_na 1 (90000) M266).bind fun p268 => ((xq_pr 15 67 (a0) (p268.1) p268.2).bind fun M270 => ((xq_na 1 (3000) M270).bind fun p272 => ((xq_pr 15 68 (a0) (p272.1) p272.2).bind fun M274 => ((xq_na 3 (4200) M274).bind fun p276 => ((xq_pr 15 69 (a0) (p276.1) p276.2).bind fun M278 => ((xq_na 3 (4200) M278).bind fun p280 => ((xq_pr 15 70 (a0) (p280.1) p280.2).bind fun M282 => ((xq_pi 15 71 (a0) (1) M282).bind fun M284 => ((xq_pi 15 75 (a0) (-1) M284).bind fun M286 => ((xq_nw 12 M286).bind fun p288 => ((f193  f (p288.1) p288.2).bind fun M291 => ((xq_pr 15 76 (a0) (p288.1) M291).bind fun M293 => ((xq_nw 12 M293).bind fun p295 => ((f193  f (p295.1) p295.2).bind fun M298 => ((xq_pr 15 77 (a0) (p295.1) M298).bind fun M300 => ((xq_na 3 (72) M300).bind fun p302 => ((xq_pr 15 78 (a0) (p302.1) p302.2).bind fun M304 => ((xq_na 4 (72) M304).bind fun p306 => ((xq_pr 15 79 (a0) (p306.1) p306.2).bind fun M308 => ((xq_nw 12 M308).bind fun p310 => ((f193  f (p310.1) p310.2).bind fun M313 => ((xq_pr 15 80 (a0) (p310.1) M313).bind fun M315 => ((xq_na 4 (4) M315).bind fun p317 => ((xq_pr 15 81 (a0) (p317.1) p317.2).bind fun M319 => ((xq_pi 15 82 (a0) (-1) M319).bind fun M321 => ((xq_na 3 (140) M321).bind fun p323 => ((xq_pr 15 84 (a0) (p323.1) p323.2).bind fun M325 => ((xq_na 3 (140) M325).bind fun p327 => ((xq_pr 15 85 (a0) (p327.1) p327.2).bind fun M329 => ((xq_na 3 (140) M329).bind fun p331 => ((xq_pr 15 86 (a0) (p331.1) p331.2).bind fun M333 => ((xq_na 3 (140) M333).bind fun p335 => ((xq_pr 15 87 (a0) (p335.1) p335.2).bind fun M337 => ((xq_na 4 (140) M337).bind fun p339 => ((xq_pr 15 88 (a0) (p339.1) p339.2).bind fun M341 => ((xq_na 4 (72) M341).bind fun p343 => ((xq_pr 15 92 (a0) (p343.1) p343.2).bind fun M345 => ((xq_na 4 (72) M345).bind fun p347 => ((xq_pr 15 93 (a0) (p347.1) p347.2).bind fun M349 => ((xq_na 3 (72) M349).bind fun p351 => ((xq_pr 15 94 (a0) (p351.1) p351.2).bind fun M353 => ((xq_na 0 (72) M353).bind fun p355 => ((xq_pr 15 95 (a0) (p355.1) p355.2).bind fun M357 => ((xq_na 0 (72) M357).bind fun p359 => ((xq_pr 15 96 (a0) (p359.1) p359.2).bind fun M361 => ((xq_na 0 (72) M361).bind fun p363 => ((xq_pr 15 97 (a0) (p363.1) p363.2).bind fun M365 => ((xq_na 4 (72) M365).bind fun p367 => ((xq_pr 15 98 (a0) (p367.1) p367.2).bind fun M369 => ((xq_na 4 (72) M369).bind fun p371 => ((xq_pr 15 99 (a0) (p371.1) p371.2).bind fun M373 => ((xq_na 3 (600) M373).bind fun p375 => ((xq_pr 15 100 (a0) (p375.1) p375.2).bind fun M377 => ((xq_na 3 (600) M377).bind fun p379 => ((xq_pr 15 101 (a0) (p379.1) p379.2).bind fun M381 => ((xq_na 4 (600) M381).bind fun p383 => ((xq_pr 15 102 (a0) (p383.1) p383.2).bind fun M385 => ((xq_na 4 (2400) M385).bind fun p387 => ((xq_pr 15 103 (a0) (p387.1) p387.2).bind fun M389 => ((xq_na 4 (4000) M389).bind fun p391 => ((xq_pr 15 104 (a0) (p391.1) p391.2).bind fun M393 => (some M393)))))))))))))))))))))))))))))))))))))))))))))))))))))))))))))))))))))))))))))))))))))))))))))))))))))))))))))))))))))))))))))))))))))))))))
theorem k357 {d f : Nat}   {a0 : Nat} {M : xj_M} {R : xj_M}  (h : f357  f a0 M = some R) : xT (d + 6) 357 [xR_ a0] M (xQv R) := by
  refine xT_m xr_357_e (X := (none, d + 5, none)) rfl (xa_1 (xR_cat _) xa_n) (by decide) ?_
  unfold f357 at h
  refine xe_alr (ins := .aload_n 0) (len := 1) (i := 0) (by decide +kernel) rfl rfl rfl rfl rfl ?_
  obtain ⟨_, e101, h⟩ := xbnd h
  refine xe_oi (i := 1086) (j := 0) (by decide +kernel) (by decide +kernel) (by rfl) (xq_nz_ne e101) rfl ?_
  refine xe_alr (ins := .aload_n 0) (len := 1) (i := 0) (by decide +kernel) rfl rfl rfl rfl rfl ?_
  refine xe_ldcs (x := 1) (by decide) (ins := .ldc_w 1091) (len := 3) (by decide +kernel) rfl rfl rfl rfl rfl rfl rfl ?_
  obtain ⟨R103, e102, h⟩ := xbnd h
  refine xs_cs (kd := 2) (by decide) (i := 1092) (j := 223) (ar := [xR_ (1)]) (rest := [xR_ (a0)]) (r2 := xr_223) (by decide +kernel) (by decide +kernel) (by decide +kernel) xr_223_e rfl (by simp only [List.map_cons, List.map_nil, List.sum_cons, List.sum_nil, xR_cat, xI_cat, xZ_cat]; decide) ?_
  refine xc_l (k223 (d := d + 0)   e102) rfl (fun hi104 => ?_)
  obtain ⟨M105, e106, h⟩ := xbnd h
  refine xs_p (i := 129) (c := 15) (k := 12) (by decide +kernel) (by decide +kernel) (by decide +kernel) e106 rfl ?_
  refine xe_alr (ins := .aload_n 0) (len := 1) (i := 0) (by decide +kernel) rfl rfl rfl rfl rfl ?_
  refine xe_ldcs (x := 2) (by decide) (ins := .ldc_w 1096) (len := 3) (by decide +kernel) rfl rfl rfl rfl rfl rfl rfl ?_
  obtain ⟨R108, e107, h⟩ := xbnd h
  refine xs_cs (kd := 2) (by decide) (i := 1092) (j := 223) (ar := [xR_ (2)]) (rest := [xR_ (a0)]) (r2 := xr_223) (by decide +kernel) (by decide +kernel) (by decide +kernel) xr_223_e rfl (by simp only [List.map_cons, List.map_nil, List.sum_cons, List.sum_nil, xR_cat, xI_cat, xZ_cat]; decide) ?_
  refine xc_l (k223 (d := d + 0)   e107) rfl (fun hi109 => ?_)
  obtain ⟨M110, e111, h⟩ := xbnd h
  refine xs_p (i := 132) (c := 15) (k := 13) (by decide +kernel) (by decide +kernel) (by decide +kernel) e111 rfl ?_
  refine xe_alr (ins := .aload_n 0) (len := 1) (i := 0) (by decide +kernel) rfl rfl rfl rfl rfl ?_
  refine xe_ldcs (x := 3) (by decide) (ins := .ldc_w 1097) (len := 3) (by decide +kernel) rfl rfl rfl rfl rfl rfl rfl ?_
  obtain ⟨R113, e112, h⟩ := xbnd h
  refine xs_cs (kd := 2) (by decide) (i := 1092) (j := 223) (ar := [xR_ (3)]) (rest := [xR_ (a0)]) (r2 := xr_223) (by decide +kernel) (by decide +kernel) (by decide +kernel) xr_223_e rfl (by simp only [List.map_cons, List.map_nil, List.sum_cons, List.sum_nil, xR_cat, xI_cat, xZ_cat]; decide) ?_
  refine xc_l (k223 (d := d + 0)   e112) rfl (fun hi114 => ?_)
  obtain ⟨M115, e116, h⟩ := xbnd h
  refine xs_p (i := 135) (c := 15) (k := 14) (by decide +kernel) (by decide +kernel) (by decide +kernel) e116 rfl ?_
  refine xe_alr (ins := .aload_n 0) (len := 1) (i := 0) (by decide +kernel) rfl rfl rfl rfl rfl ?_
  refine xe_ldcs (x := 4) (by decide) (ins := .ldc_w 1098) (len := 3) (by decide +kernel) rfl rfl rfl rfl rfl rfl rfl ?_
  obtain ⟨R118, e117, h⟩ := xbnd h
  refine xs_cs (kd := 2) (by decide) (i := 1092) (j := 223) (ar := [xR_ (4)]) (rest := [xR_ (a0)]) (r2 := xr_223) (by decide +kernel) (by decide +kernel) (by decide +kernel) xr_223_e rfl (by simp only [List.map_cons, List.map_nil, List.sum_cons, List.sum_nil, xR_cat, xI_cat, xZ_cat]; decide) ?_
  refine xc_l (k223 (d := d + 0)   e117) rfl (fun hi119 => ?_)
  obtain ⟨M120, e121, h⟩ := xbnd h
  refine xs_p (i := 138) (c := 15) (k := 15) (by decide +kernel) (by decide +kernel) (by decide +kernel) e121 rfl ?_
  refine xe_alr (ins := .aload_n 0) (len := 1) (i := 0) (by decide +kernel) rfl rfl rfl rfl rfl ?_
  refine xe_ldcs (x := 5) (by decide) (ins := .ldc_w 1099) (len := 3) (by decide +kernel) rfl rfl rfl rfl rfl rfl rfl ?_
  obtain ⟨R123, e122, h⟩ := xbnd h
  refine xs_cs (kd := 2) (by decide) (i := 1092) (j := 223) (ar := [xR_ (5)]) (rest := [xR_ (a0)]) (r2 := xr_223) (by decide +kernel) (by decide +kernel) (by decide +kernel) xr_223_e rfl (by simp only [List.map_cons, List.map_nil, List.sum_cons, List.sum_nil, xR_cat, xI_cat, xZ_cat]; decide) ?_
  refine xc_l (k223 (d := d + 0)   e122) rfl (fun hi124 => ?_)
  obtain ⟨M125, e126, h⟩ := xbnd h
  refine xs_p (i := 141) (c := 15) (k := 16) (by decide +kernel) (by decide +kernel) (by decide +kernel) e126 rfl ?_
  refine xe_alr (ins := .aload_n 0) (len := 1) (i := 0) (by decide +kernel) rfl rfl rfl rfl rfl ?_
  refine xe_ldcs (x := 6) (by decide) (ins := .ldc_w 1100) (len := 3) (by decide +kernel) rfl rfl rfl rfl rfl rfl rfl ?_
  obtain ⟨R128, e127, h⟩ := xbnd h
  refine xs_cs (kd := 2) (by decide) (i := 1092) (j := 223) (ar := [xR_ (6)]) (rest := [xR_ (a0)]) (r2 := xr_223) (by decide +kernel) (by decide +kernel) (by decide +kernel) xr_223_e rfl (by simp only [List.map_cons, List.map_nil, List.sum_cons, List.sum_nil, xR_cat, xI_cat, xZ_cat]; decide) ?_
  refine xc_l (k223 (d := d + 0)   e127) rfl (fun hi129 => ?_)
  obtain ⟨M130, e131, h⟩ := xbnd h
  refine xs_p (i := 144) (c := 15) (k := 17) (by decide +kernel) (by decide +kernel) (by decide +kernel) e131 rfl ?_
  refine xe_alr (ins := .aload_n 0) (len := 1) (i := 0) (by decide +kernel) rfl rfl rfl rfl rfl ?_
  refine xe_ldcs (x := 7) (by decide) (ins := .ldc_w 1101) (len := 3) (by decide +kernel) rfl rfl rfl rfl rfl rfl rfl ?_
  obtain ⟨R133, e132, h⟩ := xbnd h
  refine xs_cs (kd := 2) (by decide) (i := 1092) (j := 223) (ar := [xR_ (7)]) (rest := [xR_ (a0)]) (r2 := xr_223) (by decide +kernel) (by decide +kernel) (by decide +kernel) xr_223_e rfl (by simp only [List.map_cons, List.map_nil, List.sum_cons, List.sum_nil, xR_cat, xI_cat, xZ_cat]; decide) ?_
  refine xc_l (k223 (d := d + 0)   e132) rfl (fun hi134 => ?_)
  obtain ⟨M135, e136, h⟩ := xbnd h
  refine xs_p (i := 147) (c := 15) (k := 18) (by decide +kernel) (by decide +kernel) (by decide +kernel) e136 rfl ?_
  refine xe_alr (ins := .aload_n 0) (len := 1) (i := 0) (by decide +kernel) rfl rfl rfl rfl rfl ?_
  refine xe_ldcs (x := 8) (by decide) (ins := .ldc_w 1102) (len := 3) (by decide +kernel) rfl rfl rfl rfl rfl rfl rfl ?_
  obtain ⟨R138, e137, h⟩ := xbnd h
  refine xs_cs (kd := 2) (by decide) (i := 1092) (j := 223) (ar := [xR_ (8)]) (rest := [xR_ (a0)]) (r2 := xr_223) (by decide +kernel) (by decide +kernel) (by decide +kernel) xr_223_e rfl (by simp only [List.map_cons, List.map_nil, List.sum_cons, List.sum_nil, xR_cat, xI_cat, xZ_cat]; decide) ?_
  refine xc_l (k223 (d := d + 0)   e137) rfl (fun hi139 => ?_)
  obtain ⟨M140, e141, h⟩ := xbnd h
  refine xs_p (i := 150) (c := 15) (k := 19) (by decide +kernel) (by decide +kernel) (by decide +kernel) e141 rfl ?_
  refine xe_alr (ins := .aload_n 0) (len := 1) (i := 0) (by decide +kernel) rfl rfl rfl rfl rfl ?_
  refine xe_ldcs (x := 10) (by decide) (ins := .ldc_w 1103) (len := 3) (by decide +kernel) rfl rfl rfl rfl rfl rfl rfl ?_
  obtain ⟨R143, e142, h⟩ := xbnd h
  refine xs_cs (kd := 2) (by decide) (i := 1092) (j := 223) (ar := [xR_ (10)]) (rest := [xR_ (a0)]) (r2 := xr_223) (by decide +kernel) (by decide +kernel) (by decide +kernel) xr_223_e rfl (by simp only [List.map_cons, List.map_nil, List.sum_cons, List.sum_nil, xR_cat, xI_cat, xZ_cat]; decide) ?_
  refine xc_l (k223 (d := d + 0)   e142) rfl (fun hi144 => ?_)
  obtain ⟨M145, e146, h⟩ := xbnd h
  refine xs_p (i := 986) (c := 15) (k := 20) (by decide +kernel) (by decide +kernel) (by decide +kernel) e146 rfl ?_
  refine xe_alr (ins := .aload_n 0) (len := 1) (i := 0) (by decide +kernel) rfl rfl rfl rfl rfl ?_
  refine xe_bipush (n := 16) (by decide +kernel) (by decide) rfl ?_
  obtain ⟨p147, e148, h⟩ := xbnd h
  refine xs_na (kk := 3) (ty := .int) (x := p147.1) (M1 := p147.2) (by decide +kernel) rfl (show xin (16) by decide) e148 rfl ?_
  obtain ⟨M149, e150, h⟩ := xbnd h
  refine xs_p (i := 424) (c := 15) (k := 28) (by decide +kernel) (by decide +kernel) (by decide +kernel) e150 rfl ?_
  refine xe_alr (ins := .aload_n 0) (len := 1) (i := 0) (by decide +kernel) rfl rfl rfl rfl rfl ?_
  obtain ⟨p151, e152, h⟩ := xbnd h
  refine xs_nw (i := 167) (ci := 14) (x := p151.1) (M1 := p151.2) (by decide +kernel) (by decide +kernel) e152 rfl ?_
  refine xe_dupr (by decide +kernel) rfl ?_
  obtain ⟨M154, e153, h⟩ := xbnd h
  refine xs_ci (kd := 4) (by decide) (i := 1105) (j := 204) (ar := []) (rest := [xR_ (p151.1), xR_ (a0)]) (r2 := xr_204) (by decide +kernel) (by decide +kernel) xr_204_e rfl rfl (by simp only [List.map_cons, List.map_nil, List.sum_cons, List.sum_nil, xR_cat, xI_cat, xZ_cat]; decide) (xq_nw_ne e152) ?_
  refine xc_v (k204 (d := d + 4)   e153) rfl ?_
  obtain ⟨M156, e157, h⟩ := xbnd h
  refine xs_p (i := 439) (c := 15) (k := 29) (by decide +kernel) (by decide +kernel) (by decide +kernel) e157 rfl ?_
  refine xe_alr (ins := .aload_n 0) (len := 1) (i := 0) (by decide +kernel) rfl rfl rfl rfl rfl ?_
  obtain ⟨p158, e159, h⟩ := xbnd h
  refine xs_nw (i := 167) (ci := 14) (x := p158.1) (M1 := p158.2) (by decide +kernel) (by decide +kernel) e159 rfl ?_
  refine xe_dupr (by decide +kernel) rfl ?_
  obtain ⟨M161, e160, h⟩ := xbnd h
  refine xs_ci (kd := 4) (by decide) (i := 1105) (j := 204) (ar := []) (rest := [xR_ (p158.1), xR_ (a0)]) (r2 := xr_204) (by decide +kernel) (by decide +kernel) xr_204_e rfl rfl (by simp only [List.map_cons, List.map_nil, List.sum_cons, List.sum_nil, xR_cat, xI_cat, xZ_cat]; decide) (xq_nw_ne e159) ?_
  refine xc_v (k204 (d := d + 4)   e160) rfl ?_
  obtain ⟨M163, e164, h⟩ := xbnd h
  refine xs_p (i := 774) (c := 15) (k := 30) (by decide +kernel) (by decide +kernel) (by decide +kernel) e164 rfl ?_
  refine xe_alr (ins := .aload_n 0) (len := 1) (i := 0) (by decide +kernel) rfl rfl rfl rfl rfl ?_
  obtain ⟨p165, e166, h⟩ := xbnd h
  refine xs_nw (i := 167) (ci := 14) (x := p165.1) (M1 := p165.2) (by decide +kernel) (by decide +kernel) e166 rfl ?_
  refine xe_dupr (by decide +kernel) rfl ?_
  obtain ⟨M168, e167, h⟩ := xbnd h
  refine xs_ci (kd := 4) (by decide) (i := 1105) (j := 204) (ar := []) (rest := [xR_ (p165.1), xR_ (a0)]) (r2 := xr_204) (by decide +kernel) (by decide +kernel) xr_204_e rfl rfl (by simp only [List.map_cons, List.map_nil, List.sum_cons, List.sum_nil, xR_cat, xI_cat, xZ_cat]; decide) (xq_nw_ne e166) ?_
  refine xc_v (k204 (d := d + 4)   e167) rfl ?_
  obtain ⟨M170, e171, h⟩ := xbnd h
  refine xs_p (i := 1106) (c := 15) (k := 31) (by decide +kernel) (by decide +kernel) (by decide +kernel) e171 rfl ?_
  refine xe_alr (ins := .aload_n 0) (len := 1) (i := 0) (by decide +kernel) rfl rfl rfl rfl rfl ?_
  refine xe_ldci (ins := .ldc_w 1109) (len := 3) (n := 33280) (by decide +kernel) rfl rfl rfl rfl rfl rfl ?_
  obtain ⟨p172, e173, h⟩ := xbnd h
  refine xs_na (kk := 4) (ty := .long) (x := p172.1) (M1 := p172.2) (by decide +kernel) rfl (show xin (33280) by decide) e173 rfl ?_
  obtain ⟨M174, e175, h⟩ := xbnd h
  refine xs_p (i := 433) (c := 15) (k := 32) (by decide +kernel) (by decide +kernel) (by decide +kernel) e175 rfl ?_
  refine xe_alr (ins := .aload_n 0) (len := 1) (i := 0) (by decide +kernel) rfl rfl rfl rfl rfl ?_
  refine xe_bipush (n := 16) (by decide +kernel) (by decide) rfl ?_
  obtain ⟨p176, e177, h⟩ := xbnd h
  refine xs_na (kk := 3) (ty := .int) (x := p176.1) (M1 := p176.2) (by decide +kernel) rfl (show xin (16) by decide) e177 rfl ?_
  obtain ⟨M178, e179, h⟩ := xbnd h
  refine xs_p (i := 430) (c := 15) (k := 33) (by decide +kernel) (by decide +kernel) (by decide +kernel) e179 rfl ?_
  refine xe_alr (ins := .aload_n 0) (len := 1) (i := 0) (by decide +kernel) rfl rfl rfl rfl rfl ?_
  refine xe_sipush (n := 8320) (by decide +kernel) (by decide) rfl ?_
  obtain ⟨p180, e181, h⟩ := xbnd h
  refine xs_na (kk := 3) (ty := .int) (x := p180.1) (M1 := p180.2) (by decide +kernel) rfl (show xin (8320) by decide) e181 rfl ?_
  obtain ⟨M182, e183, h⟩ := xbnd h
  refine xs_p (i := 450) (c := 15) (k := 34) (by decide +kernel) (by decide +kernel) (by decide +kernel) e183 rfl ?_
  refine xe_alr (ins := .aload_n 0) (len := 1) (i := 0) (by decide +kernel) rfl rfl rfl rfl rfl ?_
  refine xe_bipush (n := 8) (by decide +kernel) (by decide) rfl ?_
  obtain ⟨p184, e185, h⟩ := xbnd h
  refine xs_na (kk := 4) (ty := .long) (x := p184.1) (M1 := p184.2) (by decide +kernel) rfl (show xin (8) by decide) e185 rfl ?_
  obtain ⟨M186, e187, h⟩ := xbnd h
  refine xs_p (i := 459) (c := 15) (k := 35) (by decide +kernel) (by decide +kernel) (by decide +kernel) e187 rfl ?_
  refine xe_alr (ins := .aload_n 0) (len := 1) (i := 0) (by decide +kernel) rfl rfl rfl rfl rfl ?_
  refine xe_sipush (n := 6200) (by decide +kernel) (by decide) rfl ?_
  obtain ⟨p188, e189, h⟩ := xbnd h
  refine xs_na (kk := 4) (ty := .long) (x := p188.1) (M1 := p188.2) (by decide +kernel) rfl (show xin (6200) by decide) e189 rfl ?_
  obtain ⟨M190, e191, h⟩ := xbnd h
  refine xs_p (i := 456) (c := 15) (k := 36) (by decide +kernel) (by decide +kernel) (by decide +kernel) e191 rfl ?_
  refine xe_alr (ins := .aload_n 0) (len := 1) (i := 0) (by decide +kernel) rfl rfl rfl rfl rfl ?_
  refine xe_iconst (n := 4) (by decide +kernel) rfl ?_
  obtain ⟨p192, e193, h⟩ := xbnd h
  refine xs_na (kk := 4) (ty := .long) (x := p192.1) (M1 := p192.2) (by decide +kernel) rfl (show xin (4) by decide) e193 rfl ?_
  obtain ⟨M194, e195, h⟩ := xbnd h
  refine xs_p (i := 539) (c := 15) (k := 44) (by decide +kernel) (by decide +kernel) (by decide +kernel) e195 rfl ?_
  refine xe_alr (ins := .aload_n 0) (len := 1) (i := 0) (by decide +kernel) rfl rfl rfl rfl rfl ?_
  refine xe_sipush (n := 3400) (by decide +kernel) (by decide) rfl ?_
  obtain ⟨p196, e197, h⟩ := xbnd h
  refine xs_na (kk := 3) (ty := .int) (x := p196.1) (M1 := p196.2) (by decide +kernel) rfl (show xin (3400) by decide) e197 rfl ?_
  obtain ⟨M198, e199, h⟩ := xbnd h
  refine xs_p (i := 565) (c := 15) (k := 45) (by decide +kernel) (by decide +kernel) (by decide +kernel) e199 rfl ?_
  refine xe_alr (ins := .aload_n 0) (len := 1) (i := 0) (by decide +kernel) rfl rfl rfl rfl rfl ?_
  refine xe_sipush (n := 13600) (by decide +kernel) (by decide) rfl ?_
  obtain ⟨p200, e201, h⟩ := xbnd h
  refine xs_na (kk := 4) (ty := .long) (x := p200.1) (M1 := p200.2) (by decide +kernel) rfl (show xin (13600) by decide) e201 rfl ?_
  obtain ⟨M202, e203, h⟩ := xbnd h
  refine xs_p (i := 568) (c := 15) (k := 46) (by decide +kernel) (by decide +kernel) (by decide +kernel) e203 rfl ?_
  refine xe_alr (ins := .aload_n 0) (len := 1) (i := 0) (by decide +kernel) rfl rfl rfl rfl rfl ?_
  refine xe_bipush (n := 16) (by decide +kernel) (by decide) rfl ?_
  obtain ⟨p204, e205, h⟩ := xbnd h
  refine xs_na (kk := 3) (ty := .int) (x := p204.1) (M1 := p204.2) (by decide +kernel) rfl (show xin (16) by decide) e205 rfl ?_
  obtain ⟨M206, e207, h⟩ := xbnd h
  refine xs_p (i := 571) (c := 15) (k := 48) (by decide +kernel) (by decide +kernel) (by decide +kernel) e207 rfl ?_
  refine xe_alr (ins := .aload_n 0) (len := 1) (i := 0) (by decide +kernel) rfl rfl rfl rfl rfl ?_
  refine xe_sipush (n := 4008) (by decide +kernel) (by decide) rfl ?_
  obtain ⟨p208, e209, h⟩ := xbnd h
  refine xs_na (kk := 4) (ty := .long) (x := p208.1) (M1 := p208.2) (by decide +kernel) rfl (show xin (4008) by decide) e209 rfl ?_
  obtain ⟨M210, e211, h⟩ := xbnd h
  refine xs_p (i := 577) (c := 15) (k := 49) (by decide +kernel) (by decide +kernel) (by decide +kernel) e211 rfl ?_
  refine xe_alr (ins := .aload_n 0) (len := 1) (i := 0) (by decide +kernel) rfl rfl rfl rfl rfl ?_
  refine xe_bipush (n := 8) (by decide +kernel) (by decide) rfl ?_
  obtain ⟨p212, e213, h⟩ := xbnd h
  refine xs_na (kk := 4) (ty := .long) (x := p212.1) (M1 := p212.2) (by decide +kernel) rfl (show xin (8) by decide) e213 rfl ?_
  obtain ⟨M214, e215, h⟩ := xbnd h
  refine xs_p (i := 586) (c := 15) (k := 50) (by decide +kernel) (by decide +kernel) (by decide +kernel) e215 rfl ?_
  refine xe_alr (ins := .aload_n 0) (len := 1) (i := 0) (by decide +kernel) rfl rfl rfl rfl rfl ?_
  refine xe_iconst (n := 4) (by decide +kernel) rfl ?_
  obtain ⟨p216, e217, h⟩ := xbnd h
  refine xs_na (kk := 4) (ty := .long) (x := p216.1) (M1 := p216.2) (by decide +kernel) rfl (show xin (4) by decide) e217 rfl ?_
  obtain ⟨M218, e219, h⟩ := xbnd h
  refine xs_p (i := 556) (c := 15) (k := 51) (by decide +kernel) (by decide +kernel) (by decide +kernel) e219 rfl ?_
  refine xe_alr (ins := .aload_n 0) (len := 1) (i := 0) (by decide +kernel) rfl rfl rfl rfl rfl ?_
  refine xe_sipush (n := 4100) (by decide +kernel) (by decide) rfl ?_
  obtain ⟨p220, e221, h⟩ := xbnd h
  refine xs_na (kk := 4) (ty := .long) (x := p220.1) (M1 := p220.2) (by decide +kernel) rfl (show xin (4100) by decide) e221 rfl ?_
  obtain ⟨M222, e223, h⟩ := xbnd h
  refine xs_p (i := 598) (c := 15) (k := 55) (by decide +kernel) (by decide +kernel) (by decide +kernel) e223 rfl ?_
  refine xe_alr (ins := .aload_n 0) (len := 1) (i := 0) (by decide +kernel) rfl rfl rfl rfl rfl ?_
  refine xe_sipush (n := 1025) (by decide +kernel) (by decide) rfl ?_
  obtain ⟨p224, e225, h⟩ := xbnd h
  refine xs_na (kk := 4) (ty := .long) (x := p224.1) (M1 := p224.2) (by decide +kernel) rfl (show xin (1025) by decide) e225 rfl ?_
  obtain ⟨M226, e227, h⟩ := xbnd h
  refine xs_p (i := 601) (c := 15) (k := 56) (by decide +kernel) (by decide +kernel) (by decide +kernel) e227 rfl ?_
  refine xe_alr (ins := .aload_n 0) (len := 1) (i := 0) (by decide +kernel) rfl rfl rfl rfl rfl ?_
  refine xe_iconst (n := 4) (by decide +kernel) rfl ?_
  obtain ⟨p228, e229, h⟩ := xbnd h
  refine xs_na (kk := 4) (ty := .long) (x := p228.1) (M1 := p228.2) (by decide +kernel) rfl (show xin (4) by decide) e229 rfl ?_
  obtain ⟨M230, e231, h⟩ := xbnd h
  refine xs_p (i := 592) (c := 15) (k := 57) (by decide +kernel) (by decide +kernel) (by decide +kernel) e231 rfl ?_
  refine xe_alr (ins := .aload_n 0) (len := 1) (i := 0) (by decide +kernel) rfl rfl rfl rfl rfl ?_
  refine xe_iconst (n := 4) (by decide +kernel) rfl ?_
  obtain ⟨p232, e233, h⟩ := xbnd h
  refine xs_an (i := 672) (ci := 13) (x := p232.1) (M1 := p232.2) (by decide +kernel) (by decide +kernel) (show xin (4) by decide) e233 rfl ?_
  refine xe_dupr (by decide +kernel) rfl ?_
  refine xe_iconst (n := 0) (by decide +kernel) rfl ?_
  obtain ⟨p234, e235, h⟩ := xbnd h
  refine xs_nw (i := 672) (ci := 13) (x := p234.1) (M1 := p234.2) (by decide +kernel) (by decide +kernel) e235 rfl ?_
  refine xe_dupr (by decide +kernel) rfl ?_
  obtain ⟨M237, e236, h⟩ := xbnd h
  refine xs_ci (kd := 1) (by decide) (i := 1110) (j := 201) (ar := []) (rest := [xR_ (p234.1), xI (0), xR_ (p232.1), xR_ (p232.1), xR_ (a0)]) (r2 := xr_201) (by decide +kernel) (by decide +kernel) xr_201_e rfl rfl (by simp only [List.map_cons, List.map_nil, List.sum_cons, List.sum_nil, xR_cat, xI_cat, xZ_cat]; decide) (xq_nw_ne e235) ?_
  refine xc_v (k201 (d := d + 3)   e236) rfl ?_
  obtain ⟨M239, e240, h⟩ := xbnd h
  refine xs_aast (by decide +kernel) (show xin (0) by decide) e240 rfl ?_
  refine xe_dupr (by decide +kernel) rfl ?_
  refine xe_iconst (n := 1) (by decide +kernel) rfl ?_
  obtain ⟨p241, e242, h⟩ := xbnd h
  refine xs_nw (i := 672) (ci := 13) (x := p241.1) (M1 := p241.2) (by decide +kernel) (by decide +kernel) e242 rfl ?_
  refine xe_dupr (by decide +kernel) rfl ?_
  obtain ⟨M244, e243, h⟩ := xbnd h
  refine xs_ci (kd := 1) (by decide) (i := 1110) (j := 201) (ar := []) (rest := [xR_ (p241.1), xI (1), xR_ (p232.1), xR_ (p232.1), xR_ (a0)]) (r2 := xr_201) (by decide +kernel) (by decide +kernel) xr_201_e rfl rfl (by simp only [List.map_cons, List.map_nil, List.sum_cons, List.sum_nil, xR_cat, xI_cat, xZ_cat]; decide) (xq_nw_ne e242) ?_
  refine xc_v (k201 (d := d + 3)   e243) rfl ?_
  obtain ⟨M246, e247, h⟩ := xbnd h
  refine xs_aast (by decide +kernel) (show xin (1) by decide) e247 rfl ?_
  refine xe_dupr (by decide +kernel) rfl ?_
  refine xe_iconst (n := 2) (by decide +kernel) rfl ?_
  obtain ⟨p248, e249, h⟩ := xbnd h
  refine xs_nw (i := 672) (ci := 13) (x := p248.1) (M1 := p248.2) (by decide +kernel) (by decide +kernel) e249 rfl ?_
  refine xe_dupr (by decide +kernel) rfl ?_
  obtain ⟨M251, e250, h⟩ := xbnd h
  refine xs_ci (kd := 1) (by decide) (i := 1110) (j := 201) (ar := []) (rest := [xR_ (p248.1), xI (2), xR_ (p232.1), xR_ (p232.1), xR_ (a0)]) (r2 := xr_201) (by decide +kernel) (by decide +kernel) xr_201_e rfl rfl (by simp only [List.map_cons, List.map_nil, List.sum_cons, List.sum_nil, xR_cat, xI_cat, xZ_cat]; decide) (xq_nw_ne e249) ?_
  refine xc_v (k201 (d := d + 3)   e250) rfl ?_
  obtain ⟨M253, e254, h⟩ := xbnd h
  refine xs_aast (by decide +kernel) (show xin (2) by decide) e254 rfl ?_
  refine xe_dupr (by decide +kernel) rfl ?_
  refine xe_iconst (n := 3) (by decide +kernel) rfl ?_
  obtain ⟨p255, e256, h⟩ := xbnd h
  refine xs_nw (i := 672) (ci := 13) (x := p255.1) (M1 := p255.2) (by decide +kernel) (by decide +kernel) e256 rfl ?_
  refine xe_dupr (by decide +kernel) rfl ?_
  obtain ⟨M258, e257, h⟩ := xbnd h
  refine xs_ci (kd := 1) (by decide) (i := 1110) (j := 201) (ar := []) (rest := [xR_ (p255.1), xI (3), xR_ (p232.1), xR_ (p232.1), xR_ (a0)]) (r2 := xr_201) (by decide +kernel) (by decide +kernel) xr_201_e rfl rfl (by simp only [List.map_cons, List.map_nil, List.sum_cons, List.sum_nil, xR_cat, xI_cat, xZ_cat]; decide) (xq_nw_ne e256) ?_
  refine xc_v (k201 (d := d + 3)   e257) rfl ?_
  obtain ⟨M260, e261, h⟩ := xbnd h
  refine xs_aast (by decide +kernel) (show xin (3) by decide) e261 rfl ?_
  obtain ⟨M262, e263, h⟩ := xbnd h
  refine xs_p (i := 667) (c := 15) (k := 61) (by decide +kernel) (by decide +kernel) (by decide +kernel) e263 rfl ?_
  refine xe_alr (ins := .aload_n 0) (len := 1) (i := 0) (by decide +kernel) rfl rfl rfl rfl rfl ?_
  refine xe_iconst (n := -1) (by decide +kernel) rfl ?_
  obtain ⟨M264, e265, h⟩ := xbnd h
  refine xs_p (i := 655) (c := 15) (k := 65) (by decide +kernel) (by decide +kernel) (by decide +kernel) e265 rfl ?_
  refine xe_alr (ins := .aload_n 0) (len := 1) (i := 0) (by decide +kernel) rfl rfl rfl rfl rfl ?_
  refine xe_iconst (n := -1) (by decide +kernel) rfl ?_
  obtain ⟨M266, e267, h⟩ := xbnd h
  refine xs_p (i := 661) (c := 15) (k := 66) (by decide +kernel) (by decide +kernel) (by decide +kernel) e267 rfl ?_
  refine xe_alr (ins := .aload_n 0) (len := 1) (i := 0) (by decide +kernel) rfl rfl rfl rfl rfl ?_
  refine xe_ldci (ins := .ldc_w 1111) (len := 3) (n := 90000) (by decide +kernel) rfl rfl rfl rfl rfl rfl ?_
  obtain ⟨p268, e269, h⟩ := xbnd h
  refine xs_na (kk := 1) (ty := .byte) (x := p268.1) (M1 := p268.2) (by decide +kernel) rfl (show xin (90000) by decide) e269 rfl ?_
  obtain ⟨M270, e271, h⟩ := xbnd h
  refine xs_p (i := 642) (c := 15) (k := 67) (by decide +kernel) (by decide +kernel) (by decide +kernel) e271 rfl ?_
  refine xe_alr (ins := .aload_n 0) (len := 1) (i := 0) (by decide +kernel) rfl rfl rfl rfl rfl ?_
  refine xe_sipush (n := 3000) (by decide +kernel) (by decide) rfl ?_
  obtain ⟨p272, e273, h⟩ := xbnd h
  refine xs_na (kk := 1) (ty := .byte) (x := p272.1) (M1 := p272.2) (by decide +kernel) rfl (show xin (3000) by decide) e273 rfl ?_
  obtain ⟨M274, e275, h⟩ := xbnd h
  refine xs_p (i := 645) (c := 15) (k := 68) (by decide +kernel) (by decide +kernel) (by decide +kernel) e275 rfl ?_
  refine xe_alr (ins := .aload_n 0) (len := 1) (i := 0) (by decide +kernel) rfl rfl rfl rfl rfl ?_
  refine xe_sipush (n := 4200) (by decide +kernel) (by decide) rfl ?_
  obtain ⟨p276, e277, h⟩ := xbnd h
  refine xs_na (kk := 3) (ty := .int) (x := p276.1) (M1 := p276.2) (by decide +kernel) rfl (show xin (4200) by decide) e277 rfl ?_
  obtain ⟨M278, e279, h⟩ := xbnd h
  refine xs_p (i := 630) (c := 15) (k := 69) (by decide +kernel) (by decide +kernel) (by decide +kernel) e279 rfl ?_
  refine xe_alr (ins := .aload_n 0) (len := 1) (i := 0) (by decide +kernel) rfl rfl rfl rfl rfl ?_
  refine xe_sipush (n := 4200) (by decide +kernel) (by decide) rfl ?_
  obtain ⟨p280, e281, h⟩ := xbnd h
  refine xs_na (kk := 3) (ty := .int) (x := p280.1) (M1 := p280.2) (by decide +kernel) rfl (show xin (4200) by decide) e281 rfl ?_
  obtain ⟨M282, e283, h⟩ := xbnd h
  refine xs_p (i := 639) (c := 15) (k := 70) (by decide +kernel) (by decide +kernel) (by decide +kernel) e283 rfl ?_
  refine xe_alr (ins := .aload_n 0) (len := 1) (i := 0) (by decide +kernel) rfl rfl rfl rfl rfl ?_
  refine xe_iconst (n := 1) (by decide +kernel) rfl ?_
  obtain ⟨M284, e285, h⟩ := xbnd h
  refine xs_p (i := 633) (c := 15) (k := 71) (by decide +kernel) (by decide +kernel) (by decide +kernel) e285 rfl ?_
  refine xe_alr (ins := .aload_n 0) (len := 1) (i := 0) (by decide +kernel) rfl rfl rfl rfl rfl ?_
  refine xe_iconst (n := -1) (by decide +kernel) rfl ?_
  obtain ⟨M286, e287, h⟩ := xbnd h
  refine xs_p (i := 1112) (c := 15) (k := 75) (by decide +kernel) (by decide +kernel) (by decide +kernel) e287 rfl ?_
  refine xe_alr (ins := .aload_n 0) (len := 1) (i := 0) (by decide +kernel) rfl rfl rfl rfl rfl ?_
  obtain ⟨p288, e289, h⟩ := xbnd h
  refine xs_nw (i := 691) (ci := 12) (x := p288.1) (M1 := p288.2) (by decide +kernel) (by decide +kernel) e289 rfl ?_
  refine xe_dupr (by decide +kernel) rfl ?_
  obtain ⟨M291, e290, h⟩ := xbnd h
  refine xs_ci (kd := 4) (by decide) (i := 1115) (j := 193) (ar := []) (rest := [xR_ (p288.1), xR_ (a0)]) (r2 := xr_193) (by decide +kernel) (by decide +kernel) xr_193_e rfl rfl (by simp only [List.map_cons, List.map_nil, List.sum_cons, List.sum_nil, xR_cat, xI_cat, xZ_cat]; decide) (xq_nw_ne e289) ?_
  refine xc_v (k193 (d := d + 4)   e290) rfl ?_
  obtain ⟨M293, e294, h⟩ := xbnd h
  refine xs_p (i := 705) (c := 15) (k := 76) (by decide +kernel) (by decide +kernel) (by decide +kernel) e294 rfl ?_
  refine xe_alr (ins := .aload_n 0) (len := 1) (i := 0) (by decide +kernel) rfl rfl rfl rfl rfl ?_
  obtain ⟨p295, e296, h⟩ := xbnd h
  refine xs_nw (i := 691) (ci := 12) (x := p295.1) (M1 := p295.2) (by decide +kernel) (by decide +kernel) e296 rfl ?_
  refine xe_dupr (by decide +kernel) rfl ?_
  obtain ⟨M298, e297, h⟩ := xbnd h
  refine xs_ci (kd := 4) (by decide) (i := 1115) (j := 193) (ar := []) (rest := [xR_ (p295.1), xR_ (a0)]) (r2 := xr_193) (by decide +kernel) (by decide +kernel) xr_193_e rfl rfl (by simp only [List.map_cons, List.map_nil, List.sum_cons, List.sum_nil, xR_cat, xI_cat, xZ_cat]; decide) (xq_nw_ne e296) ?_
  refine xc_v (k193 (d := d + 4)   e297) rfl ?_
  obtain ⟨M300, e301, h⟩ := xbnd h
  refine xs_p (i := 728) (c := 15) (k := 77) (by decide +kernel) (by decide +kernel) (by decide +kernel) e301 rfl ?_
  refine xe_alr (ins := .aload_n 0) (len := 1) (i := 0) (by decide +kernel) rfl rfl rfl rfl rfl ?_
  refine xe_bipush (n := 72) (by decide +kernel) (by decide) rfl ?_
  obtain ⟨p302, e303, h⟩ := xbnd h
  refine xs_na (kk := 3) (ty := .int) (x := p302.1) (M1 := p302.2) (by decide +kernel) rfl (show xin (72) by decide) e303 rfl ?_
  obtain ⟨M304, e305, h⟩ := xbnd h
  refine xs_p (i := 1068) (c := 15) (k := 78) (by decide +kernel) (by decide +kernel) (by decide +kernel) e305 rfl ?_
  refine xe_alr (ins := .aload_n 0) (len := 1) (i := 0) (by decide +kernel) rfl rfl rfl rfl rfl ?_
  refine xe_bipush (n := 72) (by decide +kernel) (by decide) rfl ?_
  obtain ⟨p306, e307, h⟩ := xbnd h
  refine xs_na (kk := 4) (ty := .long) (x := p306.1) (M1 := p306.2) (by decide +kernel) rfl (show xin (72) by decide) e307 rfl ?_
  obtain ⟨M308, e309, h⟩ := xbnd h
  refine xs_p (i := 1071) (c := 15) (k := 79) (by decide +kernel) (by decide +kernel) (by decide +kernel) e309 rfl ?_
  refine xe_alr (ins := .aload_n 0) (len := 1) (i := 0) (by decide +kernel) rfl rfl rfl rfl rfl ?_
  obtain ⟨p310, e311, h⟩ := xbnd h
  refine xs_nw (i := 691) (ci := 12) (x := p310.1) (M1 := p310.2) (by decide +kernel) (by decide +kernel) e311 rfl ?_
  refine xe_dupr (by decide +kernel) rfl ?_
  obtain ⟨M313, e312, h⟩ := xbnd h
  refine xs_ci (kd := 4) (by decide) (i := 1115) (j := 193) (ar := []) (rest := [xR_ (p310.1), xR_ (a0)]) (r2 := xr_193) (by decide +kernel) (by decide +kernel) xr_193_e rfl rfl (by simp only [List.map_cons, List.map_nil, List.sum_cons, List.sum_nil, xR_cat, xI_cat, xZ_cat]; decide) (xq_nw_ne e311) ?_
  refine xc_v (k193 (d := d + 4)   e312) rfl ?_
  obtain ⟨M315, e316, h⟩ := xbnd h
  refine xs_p (i := 858) (c := 15) (k := 80) (by decide +kernel) (by decide +kernel) (by decide +kernel) e316 rfl ?_
  refine xe_alr (ins := .aload_n 0) (len := 1) (i := 0) (by decide +kernel) rfl rfl rfl rfl rfl ?_
  refine xe_iconst (n := 4) (by decide +kernel) rfl ?_
  obtain ⟨p317, e318, h⟩ := xbnd h
  refine xs_na (kk := 4) (ty := .long) (x := p317.1) (M1 := p317.2) (by decide +kernel) rfl (show xin (4) by decide) e318 rfl ?_
  obtain ⟨M319, e320, h⟩ := xbnd h
  refine xs_p (i := 932) (c := 15) (k := 81) (by decide +kernel) (by decide +kernel) (by decide +kernel) e320 rfl ?_
  refine xe_alr (ins := .aload_n 0) (len := 1) (i := 0) (by decide +kernel) rfl rfl rfl rfl rfl ?_
  refine xe_iconst (n := -1) (by decide +kernel) rfl ?_
  obtain ⟨M321, e322, h⟩ := xbnd h
  refine xs_p (i := 926) (c := 15) (k := 82) (by decide +kernel) (by decide +kernel) (by decide +kernel) e322 rfl ?_
  refine xe_alr (ins := .aload_n 0) (len := 1) (i := 0) (by decide +kernel) rfl rfl rfl rfl rfl ?_
  refine xe_sipush (n := 140) (by decide +kernel) (by decide) rfl ?_
  obtain ⟨p323, e324, h⟩ := xbnd h
  refine xs_na (kk := 3) (ty := .int) (x := p323.1) (M1 := p323.2) (by decide +kernel) rfl (show xin (140) by decide) e324 rfl ?_
  obtain ⟨M325, e326, h⟩ := xbnd h
  refine xs_p (i := 943) (c := 15) (k := 84) (by decide +kernel) (by decide +kernel) (by decide +kernel) e326 rfl ?_
  refine xe_alr (ins := .aload_n 0) (len := 1) (i := 0) (by decide +kernel) rfl rfl rfl rfl rfl ?_
  refine xe_sipush (n := 140) (by decide +kernel) (by decide) rfl ?_
  obtain ⟨p327, e328, h⟩ := xbnd h
  refine xs_na (kk := 3) (ty := .int) (x := p327.1) (M1 := p327.2) (by decide +kernel) rfl (show xin (140) by decide) e328 rfl ?_
  obtain ⟨M329, e330, h⟩ := xbnd h
  refine xs_p (i := 949) (c := 15) (k := 85) (by decide +kernel) (by decide +kernel) (by decide +kernel) e330 rfl ?_
  refine xe_alr (ins := .aload_n 0) (len := 1) (i := 0) (by decide +kernel) rfl rfl rfl rfl rfl ?_
  refine xe_sipush (n := 140) (by decide +kernel) (by decide) rfl ?_
  obtain ⟨p331, e332, h⟩ := xbnd h
  refine xs_na (kk := 3) (ty := .int) (x := p331.1) (M1 := p331.2) (by decide +kernel) rfl (show xin (140) by decide) e332 rfl ?_
  obtain ⟨M333, e334, h⟩ := xbnd h
  refine xs_p (i := 952) (c := 15) (k := 86) (by decide +kernel) (by decide +kernel) (by decide +kernel) e334 rfl ?_
  refine xe_alr (ins := .aload_n 0) (len := 1) (i := 0) (by decide +kernel) rfl rfl rfl rfl rfl ?_
  refine xe_sipush (n := 140) (by decide +kernel) (by decide) rfl ?_
  obtain ⟨p335, e336, h⟩ := xbnd h
  refine xs_na (kk := 3) (ty := .int) (x := p335.1) (M1 := p335.2) (by decide +kernel) rfl (show xin (140) by decide) e336 rfl ?_
  obtain ⟨M337, e338, h⟩ := xbnd h
  refine xs_p (i := 955) (c := 15) (k := 87) (by decide +kernel) (by decide +kernel) (by decide +kernel) e338 rfl ?_
  refine xe_alr (ins := .aload_n 0) (len := 1) (i := 0) (by decide +kernel) rfl rfl rfl rfl rfl ?_
  refine xe_sipush (n := 140) (by decide +kernel) (by decide) rfl ?_
  obtain ⟨p339, e340, h⟩ := xbnd h
  refine xs_na (kk := 4) (ty := .long) (x := p339.1) (M1 := p339.2) (by decide +kernel) rfl (show xin (140) by decide) e340 rfl ?_
  obtain ⟨M341, e342, h⟩ := xbnd h
  refine xs_p (i := 958) (c := 15) (k := 88) (by decide +kernel) (by decide +kernel) (by decide +kernel) e342 rfl ?_
  refine xe_alr (ins := .aload_n 0) (len := 1) (i := 0) (by decide +kernel) rfl rfl rfl rfl rfl ?_
  refine xe_bipush (n := 72) (by decide +kernel) (by decide) rfl ?_
  obtain ⟨p343, e344, h⟩ := xbnd h
  refine xs_na (kk := 4) (ty := .long) (x := p343.1) (M1 := p343.2) (by decide +kernel) rfl (show xin (72) by decide) e344 rfl ?_
  obtain ⟨M345, e346, h⟩ := xbnd h
  refine xs_p (i := 999) (c := 15) (k := 92) (by decide +kernel) (by decide +kernel) (by decide +kernel) e346 rfl ?_
  refine xe_alr (ins := .aload_n 0) (len := 1) (i := 0) (by decide +kernel) rfl rfl rfl rfl rfl ?_
  refine xe_bipush (n := 72) (by decide +kernel) (by decide) rfl ?_
  obtain ⟨p347, e348, h⟩ := xbnd h
  refine xs_na (kk := 4) (ty := .long) (x := p347.1) (M1 := p347.2) (by decide +kernel) rfl (show xin (72) by decide) e348 rfl ?_
  obtain ⟨M349, e350, h⟩ := xbnd h
  refine xs_p (i := 1002) (c := 15) (k := 93) (by decide +kernel) (by decide +kernel) (by decide +kernel) e350 rfl ?_
  refine xe_alr (ins := .aload_n 0) (len := 1) (i := 0) (by decide +kernel) rfl rfl rfl rfl rfl ?_
  refine xe_bipush (n := 72) (by decide +kernel) (by decide) rfl ?_
  obtain ⟨p351, e352, h⟩ := xbnd h
  refine xs_na (kk := 3) (ty := .int) (x := p351.1) (M1 := p351.2) (by decide +kernel) rfl (show xin (72) by decide) e352 rfl ?_
  obtain ⟨M353, e354, h⟩ := xbnd h
  refine xs_p (i := 1005) (c := 15) (k := 94) (by decide +kernel) (by decide +kernel) (by decide +kernel) e354 rfl ?_
  refine xe_alr (ins := .aload_n 0) (len := 1) (i := 0) (by decide +kernel) rfl rfl rfl rfl rfl ?_
  refine xe_bipush (n := 72) (by decide +kernel) (by decide) rfl ?_
  obtain ⟨p355, e356, h⟩ := xbnd h
  refine xs_na (kk := 0) (ty := .boolean) (x := p355.1) (M1 := p355.2) (by decide +kernel) rfl (show xin (72) by decide) e356 rfl ?_
  obtain ⟨M357, e358, h⟩ := xbnd h
  refine xs_p (i := 1007) (c := 15) (k := 95) (by decide +kernel) (by decide +kernel) (by decide +kernel) e358 rfl ?_
  refine xe_alr (ins := .aload_n 0) (len := 1) (i := 0) (by decide +kernel) rfl rfl rfl rfl rfl ?_
  refine xe_bipush (n := 72) (by decide +kernel) (by decide) rfl ?_
  obtain ⟨p359, e360, h⟩ := xbnd h
  refine xs_na (kk := 0) (ty := .boolean) (x := p359.1) (M1 := p359.2) (by decide +kernel) rfl (show xin (72) by decide) e360 rfl ?_
  obtain ⟨M361, e362, h⟩ := xbnd h
  refine xs_p (i := 1029) (c := 15) (k := 96) (by decide +kernel) (by decide +kernel) (by decide +kernel) e362 rfl ?_
  refine xe_alr (ins := .aload_n 0) (len := 1) (i := 0) (by decide +kernel) rfl rfl rfl rfl rfl ?_
  refine xe_bipush (n := 72) (by decide +kernel) (by decide) rfl ?_
  obtain ⟨p363, e364, h⟩ := xbnd h
  refine xs_na (kk := 0) (ty := .boolean) (x := p363.1) (M1 := p363.2) (by decide +kernel) rfl (show xin (72) by decide) e364 rfl ?_
  obtain ⟨M365, e366, h⟩ := xbnd h
  refine xs_p (i := 1074) (c := 15) (k := 97) (by decide +kernel) (by decide +kernel) (by decide +kernel) e366 rfl ?_
  refine xe_alr (ins := .aload_n 0) (len := 1) (i := 0) (by decide +kernel) rfl rfl rfl rfl rfl ?_
  refine xe_bipush (n := 72) (by decide +kernel) (by decide) rfl ?_
  obtain ⟨p367, e368, h⟩ := xbnd h
  refine xs_na (kk := 4) (ty := .long) (x := p367.1) (M1 := p367.2) (by decide +kernel) rfl (show xin (72) by decide) e368 rfl ?_
  obtain ⟨M369, e370, h⟩ := xbnd h
  refine xs_p (i := 1023) (c := 15) (k := 98) (by decide +kernel) (by decide +kernel) (by decide +kernel) e370 rfl ?_
  refine xe_alr (ins := .aload_n 0) (len := 1) (i := 0) (by decide +kernel) rfl rfl rfl rfl rfl ?_
  refine xe_bipush (n := 72) (by decide +kernel) (by decide) rfl ?_
  obtain ⟨p371, e372, h⟩ := xbnd h
  refine xs_na (kk := 4) (ty := .long) (x := p371.1) (M1 := p371.2) (by decide +kernel) rfl (show xin (72) by decide) e372 rfl ?_
  obtain ⟨M373, e374, h⟩ := xbnd h
  refine xs_p (i := 1026) (c := 15) (k := 99) (by decide +kernel) (by decide +kernel) (by decide +kernel) e374 rfl ?_
  refine xe_alr (ins := .aload_n 0) (len := 1) (i := 0) (by decide +kernel) rfl rfl rfl rfl rfl ?_
  refine xe_sipush (n := 600) (by decide +kernel) (by decide) rfl ?_
  obtain ⟨p375, e376, h⟩ := xbnd h
  refine xs_na (kk := 3) (ty := .int) (x := p375.1) (M1 := p375.2) (by decide +kernel) rfl (show xin (600) by decide) e376 rfl ?_
  obtain ⟨M377, e378, h⟩ := xbnd h
  refine xs_p (i := 1116) (c := 15) (k := 100) (by decide +kernel) (by decide +kernel) (by decide +kernel) e378 rfl ?_
  refine xe_alr (ins := .aload_n 0) (len := 1) (i := 0) (by decide +kernel) rfl rfl rfl rfl rfl ?_
  refine xe_sipush (n := 600) (by decide +kernel) (by decide) rfl ?_
  obtain ⟨p379, e380, h⟩ := xbnd h
  refine xs_na (kk := 3) (ty := .int) (x := p379.1) (M1 := p379.2) (by decide +kernel) rfl (show xin (600) by decide) e380 rfl ?_
  obtain ⟨M381, e382, h⟩ := xbnd h
  refine xs_p (i := 1119) (c := 15) (k := 101) (by decide +kernel) (by decide +kernel) (by decide +kernel) e382 rfl ?_
  refine xe_alr (ins := .aload_n 0) (len := 1) (i := 0) (by decide +kernel) rfl rfl rfl rfl rfl ?_
  refine xe_sipush (n := 600) (by decide +kernel) (by decide) rfl ?_
  obtain ⟨p383, e384, h⟩ := xbnd h
  refine xs_na (kk := 4) (ty := .long) (x := p383.1) (M1 := p383.2) (by decide +kernel) rfl (show xin (600) by decide) e384 rfl ?_
  obtain ⟨M385, e386, h⟩ := xbnd h
  refine xs_p (i := 1122) (c := 15) (k := 102) (by decide +kernel) (by decide +kernel) (by decide +kernel) e386 rfl ?_
  refine xe_alr (ins := .aload_n 0) (len := 1) (i := 0) (by decide +kernel) rfl rfl rfl rfl rfl ?_
  refine xe_sipush (n := 2400) (by decide +kernel) (by decide) rfl ?_
  obtain ⟨p387, e388, h⟩ := xbnd h
  refine xs_na (kk := 4) (ty := .long) (x := p387.1) (M1 := p387.2) (by decide +kernel) rfl (show xin (2400) by decide) e388 rfl ?_
  obtain ⟨M389, e390, h⟩ := xbnd h
  refine xs_p (i := 1125) (c := 15) (k := 103) (by decide +kernel) (by decide +kernel) (by decide +kernel) e390 rfl ?_
  refine xe_alr (ins := .aload_n 0) (len := 1) (i := 0) (by decide +kernel) rfl rfl rfl rfl rfl ?_
  refine xe_sipush (n := 4000) (by decide +kernel) (by decide) rfl ?_
  obtain ⟨p391, e392, h⟩ := xbnd h
  refine xs_na (kk := 4) (ty := .long) (x := p391.1) (M1 := p391.2) (by decide +kernel) rfl (show xin (4000) by decide) e392 rfl ?_
  obtain ⟨M393, e394, h⟩ := xbnd h
  refine xs_p (i := 1128) (c := 15) (k := 104) (by decide +kernel) (by decide +kernel) (by decide +kernel) e394 rfl ?_
  cases h
  exact xe_ret_v (by decide +kernel) rfl ⟨rfl, rfl⟩
