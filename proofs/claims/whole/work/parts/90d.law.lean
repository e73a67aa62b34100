/-! WHOLE: one call of the law (written by mk_law2.py) -/
section
variable {xs : List Int32} {r23 : Nat → Nat → Nat → Nat → Int → xj_M → Option (Int × xj_M)} {f : Nat} {i v0 L a1 a2 a3 a4 a5 w v k : Int} {M M1 M2 M3 : xj_M}
theorem lw_0 (hl : xq_scl xs = some L) (hL : ¬ xwr (L - 6) < i) (h0 : xq_sci xs i = some v0) (hc : xand v0 31 = 0) (h1 : xq_sci xs (xwr (i + 1)) = some a1) (h2 : xq_sci xs (xwr (i + 2)) = some a2) (h3 : xq_sci xs (xwr (i + 3)) = some a3) (h4 : xq_sci xs (xwr (i + 4)) = some a4) (h5 : xq_sci xs (xwr (i + 5)) = some a5) (i1 : xq_is 11 64 M = some ()) (e1 : f169 f 64 a1 a2 a3 a4 a5 M = some (v, M1)) (i2 : xq_is 15 279 M1 = some ()) (e2 : f359 f 279 a1 a2 a3 a4 a5 M1 = some (v, M2)) : f2000_23b xs r23 f 0 64 279 555 i M = r23 0 64 279 555 (xwr (i + 6)) M2 := by
  unfold f2000_23b
  rw [hl, Option.bind_some, if_neg hL, h0, Option.bind_some, hc, if_neg (by decide), if_pos rfl]
  rw [h1, Option.bind_some, h2, Option.bind_some, h3, Option.bind_some, h4, Option.bind_some, h5, Option.bind_some, i1, Option.bind_some, e1, Option.bind_some, Option.bind_some, Option.bind_some, Option.bind_some, Option.bind_some, Option.bind_some, i2, Option.bind_some, e2, Option.bind_some, if_pos rfl]
  rfl
theorem lw_1 (hl : xq_scl xs = some L) (hL : ¬ xwr (L - 6) < i) (h0 : xq_sci xs i = some v0) (hc : xand v0 31 = 1) (h1 : xq_sci xs (xwr (i + 1)) = some a1) (i1 : xq_is 11 64 M = some ()) (e1 : f170 f 64 a1 M = some (v, M1)) (i2 : xq_is 15 279 M1 = some ()) (e2 : f360 f 279 a1 M1 = some (v, M2)) : f2000_23b xs r23 f 0 64 279 555 i M = r23 0 64 279 555 (xwr (i + 6)) M2 := by
  unfold f2000_23b
  rw [hl, Option.bind_some, if_neg hL, h0, Option.bind_some, hc, if_neg (by decide), if_neg (by decide), if_pos rfl]
  rw [h1, Option.bind_some, i1, Option.bind_some, e1, Option.bind_some, Option.bind_some, i2, Option.bind_some, e2, Option.bind_some, if_pos rfl]
  rfl
theorem lw_2 (hl : xq_scl xs = some L) (hL : ¬ xwr (L - 6) < i) (h0 : xq_sci xs i = some v0) (hc : xand v0 31 = 2)  (i1 : xq_is 11 64 M = some ()) (e1 : f1000 f 64  M = some (v, M1)) (i2 : xq_is 15 279 M1 = some ()) (e2 : f363 f 279  M1 = some (v, M2)) : f2000_23b xs r23 f 0 64 279 555 i M = r23 0 64 279 555 (xwr (i + 6)) M2 := by
  unfold f2000_23b
  rw [hl, Option.bind_some, if_neg hL, h0, Option.bind_some, hc, if_neg (by decide), if_neg (by decide), if_neg (by decide), if_pos rfl]
  rw [i1, Option.bind_some, e1, Option.bind_some, i2, Option.bind_some, e2, Option.bind_some, if_pos rfl]
  rfl
theorem lw_3 (hl : xq_scl xs = some L) (hL : ¬ xwr (L - 6) < i) (h0 : xq_sci xs i = some v0) (hc : xand v0 31 = 3)  (i1 : xq_is 11 64 M = some ()) (e1 : f171 f 64  M = some (v, M1)) (i2 : xq_is 15 279 M1 = some ()) (e2 : f364 f 279  M1 = some (v, M2)) : f2000_23b xs r23 f 0 64 279 555 i M = r23 0 64 279 555 (xwr (i + 6)) M2 := by
  unfold f2000_23b
  rw [hl, Option.bind_some, if_neg hL, h0, Option.bind_some, hc, if_neg (by decide), if_neg (by decide), if_neg (by decide), if_neg (by decide), if_pos rfl]
  rw [i1, Option.bind_some, e1, Option.bind_some, i2, Option.bind_some, e2, Option.bind_some, if_pos rfl]
  rfl
theorem lw_4 (hl : xq_scl xs = some L) (hL : ¬ xwr (L - 6) < i) (h0 : xq_sci xs i = some v0) (hc : xand v0 31 = 4)  (i1 : xq_is 11 64 M = some ()) (e1 : f1001 f 64  M = some (v, M1)) (i2 : xq_is 15 279 M1 = some ()) (e2 : f365 f 279  M1 = some (v, M2)) : f2000_23b xs r23 f 0 64 279 555 i M = r23 0 64 279 555 (xwr (i + 6)) M2 := by
  unfold f2000_23b
  rw [hl, Option.bind_some, if_neg hL, h0, Option.bind_some, hc, if_neg (by decide), if_neg (by decide), if_neg (by decide), if_neg (by decide), if_neg (by decide), if_pos rfl]
  rw [i1, Option.bind_some, e1, Option.bind_some, i2, Option.bind_some, e2, Option.bind_some, if_pos rfl]
  rfl
theorem lw_5 (hl : xq_scl xs = some L) (hL : ¬ xwr (L - 6) < i) (h0 : xq_sci xs i = some v0) (hc : xand v0 31 = 5)  (i1 : xq_is 11 64 M = some ()) (e1 : f1002 f 64  M = some (v, M1)) (i2 : xq_is 15 279 M1 = some ()) (e2 : f356 f 279  M1 = some (v, M2)) : f2000_23b xs r23 f 0 64 279 555 i M = r23 0 64 279 555 (xwr (i + 6)) M2 := by
  unfold f2000_23b
  rw [hl, Option.bind_some, if_neg hL, h0, Option.bind_some, hc, if_neg (by decide), if_neg (by decide), if_neg (by decide), if_neg (by decide), if_neg (by decide), if_neg (by decide), if_pos rfl]
  rw [i1, Option.bind_some, e1, Option.bind_some, i2, Option.bind_some, e2, Option.bind_some, if_pos rfl]
  rfl
theorem lw_6 (hl : xq_scl xs = some L) (hL : ¬ xwr (L - 6) < i) (h0 : xq_sci xs i = some v0) (hc : xand v0 31 = 6)  (i1 : xq_is 11 64 M = some ()) (e1 : f172 f 64  M = some (v, M1)) (i2 : xq_is 15 279 M1 = some ()) (e2 : f367 f 279  M1 = some (v, M2)) : f2000_23b xs r23 f 0 64 279 555 i M = r23 0 64 279 555 (xwr (i + 6)) M2 := by
  unfold f2000_23b
  rw [hl, Option.bind_some, if_neg hL, h0, Option.bind_some, hc, if_neg (by decide), if_neg (by decide), if_neg (by decide), if_neg (by decide), if_neg (by decide), if_neg (by decide), if_neg (by decide), if_pos rfl]
  rw [i1, Option.bind_some, e1, Option.bind_some, i2, Option.bind_some, e2, Option.bind_some, if_pos rfl]
  rfl
theorem lw_7 (hl : xq_scl xs = some L) (hL : ¬ xwr (L - 6) < i) (h0 : xq_sci xs i = some v0) (hc : xand v0 31 = 7)  (i1 : xq_is 11 64 M = some ()) (e1 : f173 f 64  M = some (v, M1)) (i2 : xq_is 15 279 M1 = some ()) (e2 : f298 f 279  M1 = some (v, M2)) : f2000_23b xs r23 f 0 64 279 555 i M = r23 0 64 279 555 (xwr (i + 6)) M2 := by
  unfold f2000_23b
  rw [hl, Option.bind_some, if_neg hL, h0, Option.bind_some, hc, if_neg (by decide), if_neg (by decide), if_neg (by decide), if_neg (by decide), if_neg (by decide), if_neg (by decide), if_neg (by decide), if_neg (by decide), if_pos rfl]
  rw [i1, Option.bind_some, e1, Option.bind_some, i2, Option.bind_some, e2, Option.bind_some, if_pos rfl]
  rfl
theorem lw_8 (hl : xq_scl xs = some L) (hL : ¬ xwr (L - 6) < i) (h0 : xq_sci xs i = some v0) (hc : xand v0 31 = 8) (h1 : xq_sci xs (xwr (i + 1)) = some a1) (i1 : xq_is 11 64 M = some ()) (e1 : f174 f 64 a1 M = some (v, M1)) (i2 : xq_is 15 279 M1 = some ()) (e2 : f377 f 279 a1 M1 = some (v, M2)) : f2000_23b xs r23 f 0 64 279 555 i M = r23 0 64 279 555 (xwr (i + 6)) M2 := by
  unfold f2000_23b
  rw [hl, Option.bind_some, if_neg hL, h0, Option.bind_some, hc, if_neg (by decide), if_neg (by decide), if_neg (by decide), if_neg (by decide), if_neg (by decide), if_neg (by decide), if_neg (by decide), if_neg (by decide), if_neg (by decide), if_pos rfl]
  rw [h1, Option.bind_some, i1, Option.bind_some, e1, Option.bind_some, Option.bind_some, i2, Option.bind_some, e2, Option.bind_some, if_pos rfl]
  rfl
theorem lw_9 (hl : xq_scl xs = some L) (hL : ¬ xwr (L - 6) < i) (h0 : xq_sci xs i = some v0) (hc : xand v0 31 = 9) (h1 : xq_sci xs (xwr (i + 1)) = some a1) (h2 : xq_sci xs (xwr (i + 2)) = some a2) (e1 : f1004 f 64 a1 a2 555 M = some (k, M1)) (i2 : xq_is 15 279 M1 = some ()) (e2 : f378 f 279 a1 a2 M1 = some (v, M2)) (i3 : xq_is 15 279 M2 = some ()) (e3 : f358 f 279 M2 = some (k, M3)) (e4 : k = 0 → xq_al 555 0 M3 = some v) : f2000_23b xs r23 f 0 64 279 555 i M = r23 0 64 279 555 (xwr (i + 6)) M3 := by
  unfold f2000_23b
  rw [hl, Option.bind_some, if_neg hL, h0, Option.bind_some, hc, if_neg (by decide), if_neg (by decide), if_neg (by decide), if_neg (by decide), if_neg (by decide), if_neg (by decide), if_neg (by decide), if_neg (by decide), if_neg (by decide), if_neg (by decide), if_pos rfl]
  rw [h1, Option.bind_some, h2, Option.bind_some, e1, Option.bind_some, Option.bind_some, Option.bind_some, i2, Option.bind_some, e2, Option.bind_some, i3, Option.bind_some, e3, Option.bind_some, if_pos rfl]
  by_cases z : k = 0
  · rw [if_neg (fun y => y z), e4 z, Option.bind_some, if_pos rfl]
    rfl
  · rw [if_pos z]
    rfl
theorem lw_10 (hl : xq_scl xs = some L) (hL : ¬ xwr (L - 6) < i) (h0 : xq_sci xs i = some v0) (hc : xand v0 31 = 10) (h1 : xq_sci xs (xwr (i + 1)) = some a1) (h2 : xq_sci xs (xwr (i + 2)) = some a2) (h3 : xq_sci xs (xwr (i + 3)) = some a3) (e1 : f1005 f 64 a1 a2 a3 555 M = some (k, M1)) (i2 : xq_is 15 279 M1 = some ()) (e2 : f372 f 279 a1 a2 a3 M1 = some (v, M2)) (i3 : xq_is 15 279 M2 = some ()) (e3 : f358 f 279 M2 = some (k, M3)) (e4 : k = 0 → xq_al 555 0 M3 = some v) : f2000_23b xs r23 f 0 64 279 555 i M = r23 0 64 279 555 (xwr (i + 6)) M3 := by
  unfold f2000_23b
  rw [hl, Option.bind_some, if_neg hL, h0, Option.bind_some, hc, if_neg (by decide), if_neg (by decide), if_neg (by decide), if_neg (by decide), if_neg (by decide), if_neg (by decide), if_neg (by decide), if_neg (by decide), if_neg (by decide), if_neg (by decide), if_neg (by decide), if_pos rfl]
  rw [h1, Option.bind_some, h2, Option.bind_some, h3, Option.bind_some, e1, Option.bind_some, Option.bind_some, Option.bind_some, Option.bind_some, i2, Option.bind_some, e2, Option.bind_some, i3, Option.bind_some, e3, Option.bind_some, if_pos rfl]
  by_cases z : k = 0
  · rw [if_neg (fun y => y z), e4 z, Option.bind_some, if_pos rfl]
    rfl
  · rw [if_pos z]
    rfl
theorem lw_11 (hl : xq_scl xs = some L) (hL : ¬ xwr (L - 6) < i) (h0 : xq_sci xs i = some v0) (hc : xand v0 31 = 11)  (i1 : xq_is 11 64 M = some ()) (e1 : f177 f 64  M = some (v, M1)) (i2 : xq_is 15 279 M1 = some ()) (e2 : f379 f 279  M1 = some (v, M2)) : f2000_23b xs r23 f 0 64 279 555 i M = r23 0 64 279 555 (xwr (i + 6)) M2 := by
  unfold f2000_23b
  rw [hl, Option.bind_some, if_neg hL, h0, Option.bind_some, hc, if_neg (by decide), if_neg (by decide), if_neg (by decide), if_neg (by decide), if_neg (by decide), if_neg (by decide), if_neg (by decide), if_neg (by decide), if_neg (by decide), if_neg (by decide), if_neg (by decide), if_neg (by decide), if_pos rfl]
  rw [i1, Option.bind_some, e1, Option.bind_some, i2, Option.bind_some, e2, Option.bind_some, if_pos rfl]
  rfl
theorem lw_12 (hl : xq_scl xs = some L) (hL : ¬ xwr (L - 6) < i) (h0 : xq_sci xs i = some v0) (hc : xand v0 31 = 12) (h1 : xq_sci xs (xwr (i + 1)) = some a1) (h2 : xq_sci xs (xwr (i + 2)) = some a2) (e1 : f1006 f 64 a1 a2 555 M = some (k, M1)) (i2 : xq_is 15 279 M1 = some ()) (e2 : f380 f 279 a1 a2 M1 = some (v, M2)) (i3 : xq_is 15 279 M2 = some ()) (e3 : f358 f 279 M2 = some (k, M3)) (e4 : k = 0 → xq_al 555 0 M3 = some v) : f2000_23b xs r23 f 0 64 279 555 i M = r23 0 64 279 555 (xwr (i + 6)) M3 := by
  unfold f2000_23b
  rw [hl, Option.bind_some, if_neg hL, h0, Option.bind_some, hc, if_neg (by decide), if_neg (by decide), if_neg (by decide), if_neg (by decide), if_neg (by decide), if_neg (by decide), if_neg (by decide), if_neg (by decide), if_neg (by decide), if_neg (by decide), if_neg (by decide), if_neg (by decide), if_neg (by decide), if_pos rfl]
  rw [h1, Option.bind_some, h2, Option.bind_some, e1, Option.bind_some, Option.bind_some, Option.bind_some, i2, Option.bind_some, e2, Option.bind_some, i3, Option.bind_some, e3, Option.bind_some, if_pos rfl]
  by_cases z : k = 0
  · rw [if_neg (fun y => y z), e4 z, Option.bind_some, if_pos rfl]
    rfl
  · rw [if_pos z]
    rfl
theorem lw_13 (hl : xq_scl xs = some L) (hL : ¬ xwr (L - 6) < i) (h0 : xq_sci xs i = some v0) (hc : xand v0 31 = 13)  (i1 : xq_is 11 64 M = some ()) (e1 : f1003 f 64  M = some (v, M1)) (i2 : xq_is 15 279 M1 = some ()) (e2 : f368 f 279  M1 = some (v, M2)) : f2000_23b xs r23 f 0 64 279 555 i M = r23 0 64 279 555 (xwr (i + 6)) M2 := by
  unfold f2000_23b
  rw [hl, Option.bind_some, if_neg hL, h0, Option.bind_some, hc, if_neg (by decide), if_neg (by decide), if_neg (by decide), if_neg (by decide), if_neg (by decide), if_neg (by decide), if_neg (by decide), if_neg (by decide), if_neg (by decide), if_neg (by decide), if_neg (by decide), if_neg (by decide), if_neg (by decide), if_neg (by decide), if_pos rfl]
  rw [i1, Option.bind_some, e1, Option.bind_some, i2, Option.bind_some, e2, Option.bind_some, if_pos rfl]
  rfl
theorem lw_14 (hl : xq_scl xs = some L) (hL : ¬ xwr (L - 6) < i) (h0 : xq_sci xs i = some v0) (hc : xand v0 31 = 14) (h1 : xq_sci xs (xwr (i + 1)) = some a1) (h2 : xq_sci xs (xwr (i + 2)) = some a2) (e1 : f1007 f 64 a1 a2 555 M = some (k, M1)) (i2 : xq_is 15 279 M1 = some ()) (e2 : f370 f 279 a1 a2 M1 = some (v, M2)) (i3 : xq_is 15 279 M2 = some ()) (e3 : f358 f 279 M2 = some (k, M3)) (e4 : k = 0 → xq_al 555 0 M3 = some v) : f2000_23b xs r23 f 0 64 279 555 i M = r23 0 64 279 555 (xwr (i + 6)) M3 := by
  unfold f2000_23b
  rw [hl, Option.bind_some, if_neg hL, h0, Option.bind_some, hc, if_neg (by decide), if_neg (by decide), if_neg (by decide), if_neg (by decide), if_neg (by decide), if_neg (by decide), if_neg (by decide), if_neg (by decide), if_neg (by decide), if_neg (by decide), if_neg (by decide), if_neg (by decide), if_neg (by decide), if_neg (by decide), if_neg (by decide), if_pos rfl]
  rw [h1, Option.bind_some, h2, Option.bind_some, e1, Option.bind_some, Option.bind_some, Option.bind_some, i2, Option.bind_some, e2, Option.bind_some, i3, Option.bind_some, e3, Option.bind_some, if_pos rfl]
  by_cases z : k = 0
  · rw [if_neg (fun y => y z), e4 z, Option.bind_some, if_pos rfl]
    rfl
  · rw [if_pos z]
    rfl
theorem lw_15 (hl : xq_scl xs = some L) (hL : ¬ xwr (L - 6) < i) (h0 : xq_sci xs i = some v0) (hc : xand v0 31 = 15) (h1 : xq_sci xs (xwr (i + 1)) = some a1) (h2 : xq_sci xs (xwr (i + 2)) = some a2) (e1 : f1008 f 64 a1 a2 555 M = some (k, M1)) (i2 : xq_is 15 279 M1 = some ()) (e2 : f373 f 279 a1 a2 M1 = some (v, M2)) (i3 : xq_is 15 279 M2 = some ()) (e3 : f358 f 279 M2 = some (k, M3)) (e4 : k = 0 → xq_al 555 0 M3 = some v) : f2000_23b xs r23 f 0 64 279 555 i M = r23 0 64 279 555 (xwr (i + 6)) M3 := by
  unfold f2000_23b
  rw [hl, Option.bind_some, if_neg hL, h0, Option.bind_some, hc, if_neg (by decide), if_neg (by decide), if_neg (by decide), if_neg (by decide), if_neg (by decide), if_neg (by decide), if_neg (by decide), if_neg (by decide), if_neg (by decide), if_neg (by decide), if_neg (by decide), if_neg (by decide), if_neg (by decide), if_neg (by decide), if_neg (by decide), if_neg (by decide), if_pos rfl]
  rw [h1, Option.bind_some, h2, Option.bind_some, e1, Option.bind_some, Option.bind_some, Option.bind_some, i2, Option.bind_some, e2, Option.bind_some, i3, Option.bind_some, e3, Option.bind_some, if_pos rfl]
  by_cases z : k = 0
  · rw [if_neg (fun y => y z), e4 z, Option.bind_some, if_pos rfl]
    rfl
  · rw [if_pos z]
    rfl
theorem lw_16 (hl : xq_scl xs = some L) (hL : ¬ xwr (L - 6) < i) (h0 : xq_sci xs i = some v0) (hc : xand v0 31 = 16) (h1 : xq_sci xs (xwr (i + 1)) = some a1) (h2 : xq_sci xs (xwr (i + 2)) = some a2) (h3 : xq_sci xs (xwr (i + 3)) = some a3) (e1 : f1009 f 64 a1 a2 a3 555 M = some (k, M1)) (i2 : xq_is 15 279 M1 = some ()) (e2 : f374 f 279 a1 a2 a3 M1 = some (v, M2)) (i3 : xq_is 15 279 M2 = some ()) (e3 : f358 f 279 M2 = some (k, M3)) (e4 : k = 0 → xq_al 555 0 M3 = some v) : f2000_23b xs r23 f 0 64 279 555 i M = r23 0 64 279 555 (xwr (i + 6)) M3 := by
  unfold f2000_23b
  rw [hl, Option.bind_some, if_neg hL, h0, Option.bind_some, hc, if_neg (by decide), if_neg (by decide), if_neg (by decide), if_neg (by decide), if_neg (by decide), if_neg (by decide), if_neg (by decide), if_neg (by decide), if_neg (by decide), if_neg (by decide), if_neg (by decide), if_neg (by decide), if_neg (by decide), if_neg (by decide), if_neg (by decide), if_neg (by decide), if_neg (by decide), if_pos rfl]
  rw [h1, Option.bind_some, h2, Option.bind_some, h3, Option.bind_some, e1, Option.bind_some, Option.bind_some, Option.bind_some, Option.bind_some, i2, Option.bind_some, e2, Option.bind_some, i3, Option.bind_some, e3, Option.bind_some, if_pos rfl]
  by_cases z : k = 0
  · rw [if_neg (fun y => y z), e4 z, Option.bind_some, if_pos rfl]
    rfl
  · rw [if_pos z]
    rfl
theorem lw_17 (hl : xq_scl xs = some L) (hL : ¬ xwr (L - 6) < i) (h0 : xq_sci xs i = some v0) (hc : xand v0 31 = 17) (h1 : xq_sci xs (xwr (i + 1)) = some a1) (h2 : xq_sci xs (xwr (i + 2)) = some a2) (h3 : xq_sci xs (xwr (i + 3)) = some a3) (e1 : f1010 f 64 a1 a2 a3 555 M = some (k, M1)) (i2 : xq_is 15 279 M1 = some ()) (e2 : f355 f 279 a1 a2 a3 M1 = some (v, M2)) (i3 : xq_is 15 279 M2 = some ()) (e3 : f358 f 279 M2 = some (k, M3)) (e4 : k = 0 → xq_al 555 0 M3 = some v) : f2000_23b xs r23 f 0 64 279 555 i M = r23 0 64 279 555 (xwr (i + 6)) M3 := by
  unfold f2000_23b
  rw [hl, Option.bind_some, if_neg hL, h0, Option.bind_some, hc, if_neg (by decide), if_neg (by decide), if_neg (by decide), if_neg (by decide), if_neg (by decide), if_neg (by decide), if_neg (by decide), if_neg (by decide), if_neg (by decide), if_neg (by decide), if_neg (by decide), if_neg (by decide), if_neg (by decide), if_neg (by decide), if_neg (by decide), if_neg (by decide), if_neg (by decide), if_neg (by decide), if_pos rfl]
  rw [h1, Option.bind_some, h2, Option.bind_some, h3, Option.bind_some, e1, Option.bind_some, Option.bind_some, Option.bind_some, Option.bind_some, i2, Option.bind_some, e2, Option.bind_some, i3, Option.bind_some, e3, Option.bind_some, if_pos rfl]
  by_cases z : k = 0
  · rw [if_neg (fun y => y z), e4 z, Option.bind_some, if_pos rfl]
    rfl
  · rw [if_pos z]
    rfl
theorem lw_18 (hl : xq_scl xs = some L) (hL : ¬ xwr (L - 6) < i) (h0 : xq_sci xs i = some v0) (hc : xand v0 31 = 18) (h1 : xq_sci xs (xwr (i + 1)) = some a1) (h2 : xq_sci xs (xwr (i + 2)) = some a2) (i1 : xq_is 11 64 M = some ()) (e1 : f184 f 64 a1 a2 M = some (v, M1)) (i2 : xq_is 15 279 M1 = some ()) (e2 : f318 f 279 a1 a2 M1 = some (v, M2)) : f2000_23b xs r23 f 0 64 279 555 i M = r23 0 64 279 555 (xwr (i + 6)) M2 := by
  unfold f2000_23b
  rw [hl, Option.bind_some, if_neg hL, h0, Option.bind_some, hc, if_neg (by decide), if_neg (by decide), if_neg (by decide), if_neg (by decide), if_neg (by decide), if_neg (by decide), if_neg (by decide), if_neg (by decide), if_neg (by decide), if_neg (by decide), if_neg (by decide), if_neg (by decide), if_neg (by decide), if_neg (by decide), if_neg (by decide), if_neg (by decide), if_neg (by decide), if_neg (by decide), if_neg (by decide), if_pos rfl]
  rw [h1, Option.bind_some, h2, Option.bind_some, i1, Option.bind_some, e1, Option.bind_some, Option.bind_some, Option.bind_some, i2, Option.bind_some, e2, Option.bind_some, if_pos rfl]
  rfl
theorem lw_19 (hl : xq_scl xs = some L) (hL : ¬ xwr (L - 6) < i) (h0 : xq_sci xs i = some v0) (hc : xand v0 31 = 19) (h1 : xq_sci xs (xwr (i + 1)) = some a1) (h2 : xq_sci xs (xwr (i + 2)) = some a2) (h3 : xq_sci xs (xwr (i + 3)) = some a3) (h4 : xq_sci xs (xwr (i + 4)) = some a4) (e1 : f1011 f 64 a1 a2 a3 a4 555 M = some (k, M1)) (i2 : xq_is 15 279 M1 = some ()) (e2 : f320 f 279 a1 a2 a3 a4 M1 = some (v, M2)) (i3 : xq_is 15 279 M2 = some ()) (e3 : f358 f 279 M2 = some (k, M3)) (e4 : k = 0 → xq_al 555 0 M3 = some v) : f2000_23b xs r23 f 0 64 279 555 i M = r23 0 64 279 555 (xwr (i + 6)) M3 := by
  unfold f2000_23b
  rw [hl, Option.bind_some, if_neg hL, h0, Option.bind_some, hc, if_neg (by decide), if_neg (by decide), if_neg (by decide), if_neg (by decide), if_neg (by decide), if_neg (by decide), if_neg (by decide), if_neg (by decide), if_neg (by decide), if_neg (by decide), if_neg (by decide), if_neg (by decide), if_neg (by decide), if_neg (by decide), if_neg (by decide), if_neg (by decide), if_neg (by decide), if_neg (by decide), if_neg (by decide), if_neg (by decide), if_pos rfl]
  rw [h1, Option.bind_some, h2, Option.bind_some, h3, Option.bind_some, h4, Option.bind_some, e1, Option.bind_some, Option.bind_some, Option.bind_some, Option.bind_some, Option.bind_some, i2, Option.bind_some, e2, Option.bind_some, i3, Option.bind_some, e3, Option.bind_some, if_pos rfl]
  by_cases z : k = 0
  · rw [if_neg (fun y => y z), e4 z, Option.bind_some, if_pos rfl]
    rfl
  · rw [if_pos z]
    rfl
theorem lw_20 (hl : xq_scl xs = some L) (hL : ¬ xwr (L - 6) < i) (h0 : xq_sci xs i = some v0) (hc : xand v0 31 = 20) (h1 : xq_sci xs (xwr (i + 1)) = some a1) (i1 : xq_is 11 64 M = some ()) (e1 : f186 f 64 a1 M = some (v, M1)) (i2 : xq_is 15 279 M1 = some ()) (e2 : f314 f 279 a1 M1 = some (v, M2)) : f2000_23b xs r23 f 0 64 279 555 i M = r23 0 64 279 555 (xwr (i + 6)) M2 := by
  unfold f2000_23b
  rw [hl, Option.bind_some, if_neg hL, h0, Option.bind_some, hc, if_neg (by decide), if_neg (by decide), if_neg (by decide), if_neg (by decide), if_neg (by decide), if_neg (by decide), if_neg (by decide), if_neg (by decide), if_neg (by decide), if_neg (by decide), if_neg (by decide), if_neg (by decide), if_neg (by decide), if_neg (by decide), if_neg (by decide), if_neg (by decide), if_neg (by decide), if_neg (by decide), if_neg (by decide), if_neg (by decide), if_neg (by decide), if_pos rfl]
  rw [h1, Option.bind_some, i1, Option.bind_some, e1, Option.bind_some, Option.bind_some, i2, Option.bind_some, e2, Option.bind_some, if_pos rfl]
  rfl
theorem lw_21 (hl : xq_scl xs = some L) (hL : ¬ xwr (L - 6) < i) (h0 : xq_sci xs i = some v0) (hc : xand v0 31 = 21) (h1 : xq_sci xs (xwr (i + 1)) = some a1) (h2 : xq_sci xs (xwr (i + 2)) = some a2) (i1 : xq_is 11 64 M = some ()) (e1 : f187 f 64 a1 a2 M = some (v, M1)) (i2 : xq_is 15 279 M1 = some ()) (e2 : f315 f 279 a1 a2 M1 = some (v, M2)) : f2000_23b xs r23 f 0 64 279 555 i M = r23 0 64 279 555 (xwr (i + 6)) M2 := by
  unfold f2000_23b
  rw [hl, Option.bind_some, if_neg hL, h0, Option.bind_some, hc, if_neg (by decide), if_neg (by decide), if_neg (by decide), if_neg (by decide), if_neg (by decide), if_neg (by decide), if_neg (by decide), if_neg (by decide), if_neg (by decide), if_neg (by decide), if_neg (by decide), if_neg (by decide), if_neg (by decide), if_neg (by decide), if_neg (by decide), if_neg (by decide), if_neg (by decide), if_neg (by decide), if_neg (by decide), if_neg (by decide), if_neg (by decide), if_neg (by decide), if_pos rfl]
  rw [h1, Option.bind_some, h2, Option.bind_some, i1, Option.bind_some, e1, Option.bind_some, Option.bind_some, Option.bind_some, i2, Option.bind_some, e2, Option.bind_some, if_pos rfl]
  rfl
theorem lw_22 (hl : xq_scl xs = some L) (hL : ¬ xwr (L - 6) < i) (h0 : xq_sci xs i = some v0) (hc : xand v0 31 = 22) (h1 : xq_sci xs (xwr (i + 1)) = some a1) (i1 : xq_is 11 64 M = some ()) (e1 : f188 f 64 a1 M = some (v, M1)) (i2 : xq_is 15 279 M1 = some ()) (e2 : f317 f 279 a1 M1 = some (v, M2)) : f2000_23b xs r23 f 0 64 279 555 i M = r23 0 64 279 555 (xwr (i + 6)) M2 := by
  unfold f2000_23b
  rw [hl, Option.bind_some, if_neg hL, h0, Option.bind_some, hc, if_neg (by decide), if_neg (by decide), if_neg (by decide), if_neg (by decide), if_neg (by decide), if_neg (by decide), if_neg (by decide), if_neg (by decide), if_neg (by decide), if_neg (by decide), if_neg (by decide), if_neg (by decide), if_neg (by decide), if_neg (by decide), if_neg (by decide), if_neg (by decide), if_neg (by decide), if_neg (by decide), if_neg (by decide), if_neg (by decide), if_neg (by decide), if_neg (by decide), if_neg (by decide), if_pos rfl]
  rw [h1, Option.bind_some, i1, Option.bind_some, e1, Option.bind_some, Option.bind_some, i2, Option.bind_some, e2, Option.bind_some, if_pos rfl]
  rfl
theorem lw_23 (hl : xq_scl xs = some L) (hL : ¬ xwr (L - 6) < i) (h0 : xq_sci xs i = some v0) (hc : xand v0 31 = 23) (h1 : xq_sci xs (xwr (i + 1)) = some a1) (i1 : xq_is 11 64 M = some ()) (e1 : f189 f 64 a1 M = some (v, M1)) (i2 : xq_is 15 279 M1 = some ()) (e2 : f326 f 279 a1 M1 = some (v, M2)) : f2000_23b xs r23 f 0 64 279 555 i M = r23 0 64 279 555 (xwr (i + 6)) M2 := by
  unfold f2000_23b
  rw [hl, Option.bind_some, if_neg hL, h0, Option.bind_some, hc, if_neg (by decide), if_neg (by decide), if_neg (by decide), if_neg (by decide), if_neg (by decide), if_neg (by decide), if_neg (by decide), if_neg (by decide), if_neg (by decide), if_neg (by decide), if_neg (by decide), if_neg (by decide), if_neg (by decide), if_neg (by decide), if_neg (by decide), if_neg (by decide), if_neg (by decide), if_neg (by decide), if_neg (by decide), if_neg (by decide), if_neg (by decide), if_neg (by decide), if_neg (by decide), if_neg (by decide), if_pos rfl]
  rw [h1, Option.bind_some, i1, Option.bind_some, e1, Option.bind_some, Option.bind_some, i2, Option.bind_some, e2, Option.bind_some, if_pos rfl]
  rfl
theorem lw_24 (hl : xq_scl xs = some L) (hL : ¬ xwr (L - 6) < i) (h0 : xq_sci xs i = some v0) (hc : xand v0 31 = 24) (h1 : xq_sci xs (xwr (i + 1)) = some a1) (e1 : f1012 f 64 a1 555 M = some (k, M1)) (i2 : xq_is 15 279 M1 = some ()) (e2 : f330 f 279 a1 M1 = some (v, M2)) (i3 : xq_is 15 279 M2 = some ()) (e3 : f358 f 279 M2 = some (k, M3)) (e4 : k = 0 → xq_al 555 0 M3 = some v) : f2000_23b xs r23 f 0 64 279 555 i M = r23 0 64 279 555 (xwr (i + 6)) M3 := by
  unfold f2000_23b
  rw [hl, Option.bind_some, if_neg hL, h0, Option.bind_some, hc, if_neg (by decide), if_neg (by decide), if_neg (by decide), if_neg (by decide), if_neg (by decide), if_neg (by decide), if_neg (by decide), if_neg (by decide), if_neg (by decide), if_neg (by decide), if_neg (by decide), if_neg (by decide), if_neg (by decide), if_neg (by decide), if_neg (by decide), if_neg (by decide), if_neg (by decide), if_neg (by decide), if_neg (by decide), if_neg (by decide), if_neg (by decide), if_neg (by decide), if_neg (by decide), if_neg (by decide), if_neg (by decide)]
  rw [h1, Option.bind_some, e1, Option.bind_some, Option.bind_some, i2, Option.bind_some, e2, Option.bind_some, i3, Option.bind_some, e3, Option.bind_some, if_pos rfl]
  by_cases z : k = 0
  · rw [if_neg (fun y => y z), e4 z, Option.bind_some, if_pos rfl]
    rfl
  · rw [if_pos z]
    rfl
end
