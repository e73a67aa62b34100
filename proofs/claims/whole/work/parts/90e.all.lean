/-! WHOLE: all calls of the law (written by mk_law2.py) -/
def fC (c f : Nat) (B : sAr) (M : xj_M) : Option (Int × xj_M) := match c with
  | 0 => f169 f 64 B.1 B.2.1 B.2.2.1 B.2.2.2.1 B.2.2.2.2 M
  | 1 => f170 f 64 B.1 M
  | 2 => f1000 f 64  M
  | 3 => f171 f 64  M
  | 4 => f1001 f 64  M
  | 5 => f1002 f 64  M
  | 6 => f172 f 64  M
  | 7 => f173 f 64  M
  | 8 => f174 f 64 B.1 M
  | 9 => f1004 f 64 B.1 B.2.1 555 M
  | 10 => f1005 f 64 B.1 B.2.1 B.2.2.1 555 M
  | 11 => f177 f 64  M
  | 12 => f1006 f 64 B.1 B.2.1 555 M
  | 13 => f1003 f 64  M
  | 14 => f1007 f 64 B.1 B.2.1 555 M
  | 15 => f1008 f 64 B.1 B.2.1 555 M
  | 16 => f1009 f 64 B.1 B.2.1 B.2.2.1 555 M
  | 17 => f1010 f 64 B.1 B.2.1 B.2.2.1 555 M
  | 18 => f184 f 64 B.1 B.2.1 M
  | 19 => f1011 f 64 B.1 B.2.1 B.2.2.1 B.2.2.2.1 555 M
  | 20 => f186 f 64 B.1 M
  | 21 => f187 f 64 B.1 B.2.1 M
  | 22 => f188 f 64 B.1 M
  | 23 => f189 f 64 B.1 M
  | 24 => f1012 f 64 B.1 555 M
  | _ => none
def fR (c f : Nat) (B : sAr) (M : xj_M) : Option (Int × xj_M) := match c with
  | 0 => f359 f 279 B.1 B.2.1 B.2.2.1 B.2.2.2.1 B.2.2.2.2 M
  | 1 => f360 f 279 B.1 M
  | 2 => f363 f 279  M
  | 3 => f364 f 279  M
  | 4 => f365 f 279  M
  | 5 => f356 f 279  M
  | 6 => f367 f 279  M
  | 7 => f298 f 279  M
  | 8 => f377 f 279 B.1 M
  | 9 => f378 f 279 B.1 B.2.1 M
  | 10 => f372 f 279 B.1 B.2.1 B.2.2.1 M
  | 11 => f379 f 279  M
  | 12 => f380 f 279 B.1 B.2.1 M
  | 13 => f368 f 279  M
  | 14 => f370 f 279 B.1 B.2.1 M
  | 15 => f373 f 279 B.1 B.2.1 M
  | 16 => f374 f 279 B.1 B.2.1 B.2.2.1 M
  | 17 => f355 f 279 B.1 B.2.1 B.2.2.1 M
  | 18 => f318 f 279 B.1 B.2.1 M
  | 19 => f320 f 279 B.1 B.2.1 B.2.2.1 B.2.2.2.1 M
  | 20 => f314 f 279 B.1 M
  | 21 => f315 f 279 B.1 B.2.1 M
  | 22 => f317 f 279 B.1 M
  | 23 => f326 f 279 B.1 M
  | 24 => f330 f 279 B.1 M
  | _ => none
def xB5 (B : sAr) : Prop := xin B.1 ∧ xin B.2.1 ∧ xin B.2.2.1 ∧ xin B.2.2.2.1 ∧ xin B.2.2.2.2
theorem tC_all {c f : Nat} {B : sAr} {M0 M : xj_M} {T : xT_} {R : Int × xT_} (hc : c ≤ 24) (hS : xHS f) (hB : xB5 B) (h : xCX 279 M0 M T) (e : cCl c f B T = some R) : xok (fC c f B M) (fun r => r.1 = R.1 ∧ xCX 279 M0 r.2 R.2) := by
  obtain ⟨x1, x2, x3, x4, x5⟩ := hB
  rcases (by omega : c = 0 ∨ c = 1 ∨ c = 2 ∨ c = 3 ∨ c = 4 ∨ c = 5 ∨ c = 6 ∨ c = 7 ∨ c = 8 ∨ c = 9 ∨ c = 10 ∨ c = 11 ∨ c = 12 ∨ c = 13 ∨ c = 14 ∨ c = 15 ∨ c = 16 ∨ c = 17 ∨ c = 18 ∨ c = 19 ∨ c = 20 ∨ c = 21 ∨ c = 22 ∨ c = 23 ∨ c = 24) with rfl | rfl | rfl | rfl | rfl | rfl | rfl | rfl | rfl | rfl | rfl | rfl | rfl | rfl | rfl | rfl | rfl | rfl | rfl | rfl | rfl | rfl | rfl | rfl | rfl
  · obtain ⟨r, q1, q2, q3, _⟩ := t169 hS h x1 x2 x3 x4 x5 e
    exact ⟨r, q1, q2, q3⟩
  · obtain ⟨r, q1, q2, q3, _⟩ := t170 hS h x1 e
    exact ⟨r, q1, q2, q3⟩
  · obtain ⟨r, q1, q2, q3, _⟩ := t1000 hS h  e
    exact ⟨r, q1, q2, q3⟩
  · obtain ⟨r, q1, q2, q3, _⟩ := t171 hS h  e
    exact ⟨r, q1, q2, q3⟩
  · obtain ⟨r, q1, q2, q3, _⟩ := t1001 hS h  e
    exact ⟨r, q1, q2, q3⟩
  · obtain ⟨r, q1, q2, q3, _⟩ := t1002 hS h  e
    exact ⟨r, q1, q2, q3⟩
  · obtain ⟨r, q1, q2, q3, _⟩ := t172 hS h  e
    exact ⟨r, q1, q2, q3⟩
  · obtain ⟨r, q1, q2, q3, _⟩ := t173 hS h  e
    exact ⟨r, q1, q2, q3⟩
  · obtain ⟨r, q1, q2, q3, _⟩ := t174 hS h x1 e
    exact ⟨r, q1, q2, q3⟩
  · obtain ⟨r, q1, q2, q3, _⟩ := t1004 hS h x1 x2 e
    exact ⟨r, q1, q2, q3⟩
  · obtain ⟨r, q1, q2, q3, _⟩ := t1005 hS h x1 x2 x3 e
    exact ⟨r, q1, q2, q3⟩
  · obtain ⟨r, q1, q2, q3, _⟩ := t177 hS h  e
    exact ⟨r, q1, q2, q3⟩
  · obtain ⟨r, q1, q2, q3, _⟩ := t1006 hS h x1 x2 e
    exact ⟨r, q1, q2, q3⟩
  · obtain ⟨r, q1, q2, q3, _⟩ := t1003 hS h  e
    exact ⟨r, q1, q2, q3⟩
  · obtain ⟨r, q1, q2, q3, _⟩ := t1007 hS h x1 x2 e
    exact ⟨r, q1, q2, q3⟩
  · obtain ⟨r, q1, q2, q3, _⟩ := t1008 hS h x1 x2 e
    exact ⟨r, q1, q2, q3⟩
  · obtain ⟨r, q1, q2, q3, _⟩ := t1009 hS h x1 x2 x3 e
    exact ⟨r, q1, q2, q3⟩
  · obtain ⟨r, q1, q2, q3, _⟩ := t1010 hS h x1 x2 x3 e
    exact ⟨r, q1, q2, q3⟩
  · obtain ⟨r, q1, q2, q3, _⟩ := t184 hS h x1 x2 e
    exact ⟨r, q1, q2, q3⟩
  · obtain ⟨r, q1, q2, q3, _⟩ := t1011 hS h x1 x2 x3 x4 e
    exact ⟨r, q1, q2, q3⟩
  · obtain ⟨r, q1, q2, q3, _⟩ := t186 hS h x1 e
    exact ⟨r, q1, q2, q3⟩
  · obtain ⟨r, q1, q2, q3, _⟩ := t187 hS h x1 x2 e
    exact ⟨r, q1, q2, q3⟩
  · obtain ⟨r, q1, q2, q3, _⟩ := t188 hS h x1 e
    exact ⟨r, q1, q2, q3⟩
  · obtain ⟨r, q1, q2, q3, _⟩ := t189 hS h x1 e
    exact ⟨r, q1, q2, q3⟩
  · obtain ⟨r, q1, q2, q3, _⟩ := t1012 hS h x1 e
    exact ⟨r, q1, q2, q3⟩
theorem sC_all {c f : Nat} {B : sAr} {M0 M : xj_M} {G : xG_} {R : Int × xG_} (hc : c ≤ 24) (hI : xHI f) (hB : xB5 B) (h : xRX 279 M0 M G) (e : gC c f B G = some R) : xok (fR c f B M) (fun r => r.1 = R.1 ∧ xRX 279 M0 r.2 R.2) := by
  obtain ⟨x1, x2, x3, x4, x5⟩ := hB
  rcases (by omega : c = 0 ∨ c = 1 ∨ c = 2 ∨ c = 3 ∨ c = 4 ∨ c = 5 ∨ c = 6 ∨ c = 7 ∨ c = 8 ∨ c = 9 ∨ c = 10 ∨ c = 11 ∨ c = 12 ∨ c = 13 ∨ c = 14 ∨ c = 15 ∨ c = 16 ∨ c = 17 ∨ c = 18 ∨ c = 19 ∨ c = 20 ∨ c = 21 ∨ c = 22 ∨ c = 23 ∨ c = 24) with rfl | rfl | rfl | rfl | rfl | rfl | rfl | rfl | rfl | rfl | rfl | rfl | rfl | rfl | rfl | rfl | rfl | rfl | rfl | rfl | rfl | rfl | rfl | rfl | rfl
  · obtain ⟨r, q1, q2, q3, _⟩ := sg359 hI h x1 x2 x3 x4 x5 e
    exact ⟨r, q1, q2, q3⟩
  · obtain ⟨r, q1, q2, q3, _⟩ := sg360 hI h x1 e
    exact ⟨r, q1, q2, q3⟩
  · obtain ⟨r, q1, q2, q3, _⟩ := sg363 hI h  e
    exact ⟨r, q1, q2, q3⟩
  · obtain ⟨r, q1, q2, q3, _⟩ := sg364 hI h  e
    exact ⟨r, q1, q2, q3⟩
  · obtain ⟨r, q1, q2, q3, _⟩ := sg365 hI h  e
    exact ⟨r, q1, q2, q3⟩
  · obtain ⟨r, q1, q2, q3, _⟩ := sg356 hI h  e
    exact ⟨r, q1, q2, q3⟩
  · obtain ⟨r, q1, q2, q3, _⟩ := sg367 hI h  e
    exact ⟨r, q1, q2, q3⟩
  · obtain ⟨r, q1, q2, q3, _⟩ := sg298 hI h  e
    exact ⟨r, q1, q2, q3⟩
  · obtain ⟨r, q1, q2, q3, _⟩ := sg377 hI h x1 e
    exact ⟨r, q1, q2, q3⟩
  · obtain ⟨r, q1, q2, q3, _⟩ := sg378 hI h x1 x2 e
    exact ⟨r, q1, q2, q3⟩
  · obtain ⟨r, q1, q2, q3, _⟩ := sg372 hI h x1 x2 x3 e
    exact ⟨r, q1, q2, q3⟩
  · obtain ⟨r, q1, q2, q3, _⟩ := sg379 hI h  e
    exact ⟨r, q1, q2, q3⟩
  · obtain ⟨r, q1, q2, q3, _⟩ := sg380 hI h x1 x2 e
    exact ⟨r, q1, q2, q3⟩
  · obtain ⟨r, q1, q2, q3, _⟩ := sg368 hI h  e
    exact ⟨r, q1, q2, q3⟩
  · obtain ⟨r, q1, q2, q3, _⟩ := sg370 hI h x1 x2 e
    exact ⟨r, q1, q2, q3⟩
  · obtain ⟨r, q1, q2, q3, _⟩ := sg373 hI h x1 x2 e
    exact ⟨r, q1, q2, q3⟩
  · obtain ⟨r, q1, q2, q3, _⟩ := sg374 hI h x1 x2 x3 e
    exact ⟨r, q1, q2, q3⟩
  · obtain ⟨r, q1, q2, q3, _⟩ := sg355 hI h x1 x2 x3 e
    exact ⟨r, q1, q2, q3⟩
  · obtain ⟨r, q1, q2, q3, _⟩ := sg318 hI h x1 x2 e
    exact ⟨r, q1, q2, q3⟩
  · obtain ⟨r, q1, q2, q3, _⟩ := sg320 hI h x1 x2 x3 x4 e
    exact ⟨r, q1, q2, q3⟩
  · obtain ⟨r, q1, q2, q3, _⟩ := sg314 hI h x1 e
    exact ⟨r, q1, q2, q3⟩
  · obtain ⟨r, q1, q2, q3, _⟩ := sg315 hI h x1 x2 e
    exact ⟨r, q1, q2, q3⟩
  · obtain ⟨r, q1, q2, q3, _⟩ := sg317 hI h x1 e
    exact ⟨r, q1, q2, q3⟩
  · obtain ⟨r, q1, q2, q3, _⟩ := sg326 hI h x1 e
    exact ⟨r, q1, q2, q3⟩
  · obtain ⟨r, q1, q2, q3, _⟩ := sg330 hI h x1 e
    exact ⟨r, q1, q2, q3⟩
section
variable {xs : List Int32} {r23 : Nat → Nat → Nat → Nat → Int → xj_M → Option (Int × xj_M)} {f : Nat} {i v0 L w v k : Int} {B : sAr} {M M1 M2 M3 : xj_M}
theorem lw_n {c : Nat} (hc : c ≤ 24) (ht : isTh c = false) (hl : xq_scl xs = some L) (hL : ¬ xwr (L - 6) < i) (h0 : xq_sci xs i = some v0) (he : xand v0 31 = (c : Int)) (h1 : xq_sci xs (xwr (i + 1)) = some B.1) (h2 : xq_sci xs (xwr (i + 2)) = some B.2.1) (h3 : xq_sci xs (xwr (i + 3)) = some B.2.2.1) (h4 : xq_sci xs (xwr (i + 4)) = some B.2.2.2.1) (h5 : xq_sci xs (xwr (i + 5)) = some B.2.2.2.2) (i1 : xq_is 11 64 M = some ()) (e1 : fC c f B M = some (v, M1)) (i2 : xq_is 15 279 M1 = some ()) (e2 : fR c f B M1 = some (v, M2)) : f2000_23b xs r23 f 0 64 279 555 i M = r23 0 64 279 555 (xwr (i + 6)) M2 := by
  rcases (by omega : c = 0 ∨ c = 1 ∨ c = 2 ∨ c = 3 ∨ c = 4 ∨ c = 5 ∨ c = 6 ∨ c = 7 ∨ c = 8 ∨ c = 9 ∨ c = 10 ∨ c = 11 ∨ c = 12 ∨ c = 13 ∨ c = 14 ∨ c = 15 ∨ c = 16 ∨ c = 17 ∨ c = 18 ∨ c = 19 ∨ c = 20 ∨ c = 21 ∨ c = 22 ∨ c = 23 ∨ c = 24) with rfl | rfl | rfl | rfl | rfl | rfl | rfl | rfl | rfl | rfl | rfl | rfl | rfl | rfl | rfl | rfl | rfl | rfl | rfl | rfl | rfl | rfl | rfl | rfl | rfl
  · exact lw_0 hl hL h0 he h1 h2 h3 h4 h5 i1 e1 i2 e2
  · exact lw_1 hl hL h0 he h1 i1 e1 i2 e2
  · exact lw_2 hl hL h0 he  i1 e1 i2 e2
  · exact lw_3 hl hL h0 he  i1 e1 i2 e2
  · exact lw_4 hl hL h0 he  i1 e1 i2 e2
  · exact lw_5 hl hL h0 he  i1 e1 i2 e2
  · exact lw_6 hl hL h0 he  i1 e1 i2 e2
  · exact lw_7 hl hL h0 he  i1 e1 i2 e2
  · exact lw_8 hl hL h0 he h1 i1 e1 i2 e2
  · cases ht
  · cases ht
  · exact lw_11 hl hL h0 he  i1 e1 i2 e2
  · cases ht
  · exact lw_13 hl hL h0 he  i1 e1 i2 e2
  · cases ht
  · cases ht
  · cases ht
  · cases ht
  · exact lw_18 hl hL h0 he h1 h2 i1 e1 i2 e2
  · cases ht
  · exact lw_20 hl hL h0 he h1 i1 e1 i2 e2
  · exact lw_21 hl hL h0 he h1 h2 i1 e1 i2 e2
  · exact lw_22 hl hL h0 he h1 i1 e1 i2 e2
  · exact lw_23 hl hL h0 he h1 i1 e1 i2 e2
  · cases ht
theorem lw_t {c : Nat} (hc : c ≤ 24) (ht : isTh c = true) (hl : xq_scl xs = some L) (hL : ¬ xwr (L - 6) < i) (h0 : xq_sci xs i = some v0) (he : xand v0 31 = (c : Int)) (h1 : xq_sci xs (xwr (i + 1)) = some B.1) (h2 : xq_sci xs (xwr (i + 2)) = some B.2.1) (h3 : xq_sci xs (xwr (i + 3)) = some B.2.2.1) (h4 : xq_sci xs (xwr (i + 4)) = some B.2.2.2.1) (h5 : xq_sci xs (xwr (i + 5)) = some B.2.2.2.2) (e1 : fC c f B M = some (k, M1)) (i2 : xq_is 15 279 M1 = some ()) (e2 : fR c f B M1 = some (v, M2)) (i3 : xq_is 15 279 M2 = some ()) (e3 : f358 f 279 M2 = some (k, M3)) (e4 : k = 0 → xq_al 555 0 M3 = some v) : f2000_23b xs r23 f 0 64 279 555 i M = r23 0 64 279 555 (xwr (i + 6)) M3 := by
  rcases (by omega : c = 0 ∨ c = 1 ∨ c = 2 ∨ c = 3 ∨ c = 4 ∨ c = 5 ∨ c = 6 ∨ c = 7 ∨ c = 8 ∨ c = 9 ∨ c = 10 ∨ c = 11 ∨ c = 12 ∨ c = 13 ∨ c = 14 ∨ c = 15 ∨ c = 16 ∨ c = 17 ∨ c = 18 ∨ c = 19 ∨ c = 20 ∨ c = 21 ∨ c = 22 ∨ c = 23 ∨ c = 24) with rfl | rfl | rfl | rfl | rfl | rfl | rfl | rfl | rfl | rfl | rfl | rfl | rfl | rfl | rfl | rfl | rfl | rfl | rfl | rfl | rfl | rfl | rfl | rfl | rfl
  · cases ht
  · cases ht
  · cases ht
  · cases ht
  · cases ht
  · cases ht
  · cases ht
  · cases ht
  · cases ht
  · exact lw_9 hl hL h0 he h1 h2 e1 i2 e2 i3 e3 e4
  · exact lw_10 hl hL h0 he h1 h2 h3 e1 i2 e2 i3 e3 e4
  · cases ht
  · exact lw_12 hl hL h0 he h1 h2 e1 i2 e2 i3 e3 e4
  · cases ht
  · exact lw_14 hl hL h0 he h1 h2 e1 i2 e2 i3 e3 e4
  · exact lw_15 hl hL h0 he h1 h2 e1 i2 e2 i3 e3 e4
  · exact lw_16 hl hL h0 he h1 h2 h3 e1 i2 e2 i3 e3 e4
  · exact lw_17 hl hL h0 he h1 h2 h3 e1 i2 e2 i3 e3 e4
  · cases ht
  · exact lw_19 hl hL h0 he h1 h2 h3 h4 e1 i2 e2 i3 e3 e4
  · cases ht
  · cases ht
  · cases ht
  · cases ht
  · exact lw_24 hl hL h0 he h1 e1 i2 e2 i3 e3 e4
end
