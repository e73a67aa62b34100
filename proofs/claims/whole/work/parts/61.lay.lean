/-! The reference's own cells: it makes all of them when it is made, one behind another; what holds of them ever after -/
def xl_P : List (Nat × Nat × Nat) := [(0, 28, 1), (0, 29, 2), (0, 30, 37), (0, 31, 72), (0, 32, 107), (0, 33, 108), (0, 34, 109), (0, 35, 110), (0, 36, 111), (0, 44, 112), (0, 45, 113), (0, 46, 114), (0, 48, 115), (0, 49, 116), (0, 50, 117), (0, 51, 118), (0, 55, 119), (0, 56, 120), (0, 57, 121), (0, 61, 122), (0, 67, 239), (0, 68, 240), (0, 69, 241), (0, 70, 242), (0, 76, 243), (0, 77, 247), (0, 78, 251), (0, 79, 252), (0, 80, 253), (0, 81, 257), (0, 84, 258), (0, 85, 259), (0, 86, 260), (0, 87, 261), (0, 88, 262), (0, 92, 263), (0, 93, 264), (0, 94, 265), (0, 95, 266), (0, 96, 267), (0, 97, 268), (0, 98, 269), (0, 99, 270), (0, 100, 271), (0, 101, 272), (0, 102, 273), (0, 103, 274), (0, 104, 275), (2, 0, 3), (2, 1, 4), (2, 2, 5), (2, 3, 6), (2, 4, 7), (2, 5, 8), (2, 6, 9), (2, 7, 10), (2, 10, 11), (2, 11, 12), (2, 12, 13), (2, 13, 14), (2, 15, 15), (2, 16, 16), (2, 17, 17), (2, 18, 18), (2, 19, 19), (2, 20, 20), (2, 21, 21), (2, 22, 22), (2, 23, 23), (2, 24, 24), (2, 25, 25), (2, 26, 26), (2, 27, 27), (2, 28, 28), (2, 29, 29), (2, 30, 30), (2, 31, 31), (2, 32, 32), (2, 33, 33), (2, 34, 34), (2, 35, 35), (2, 36, 36), (37, 0, 38), (37, 1, 39), (37, 2, 40), (37, 3, 41), (37, 4, 42), (37, 5, 43), (37, 6, 44), (37, 7, 45), (37, 10, 46), (37, 11, 47), (37, 12, 48), (37, 13, 49), (37, 15, 50), (37, 16, 51), (37, 17, 52), (37, 18, 53), (37, 19, 54), (37, 20, 55), (37, 21, 56), (37, 22, 57), (37, 23, 58), (37, 24, 59), (37, 25, 60), (37, 26, 61), (37, 27, 62), (37, 28, 63), (37, 29, 64), (37, 30, 65), (37, 31, 66), (37, 32, 67), (37, 33, 68), (37, 34, 69), (37, 35, 70), (37, 36, 71), (72, 0, 73), (72, 1, 74), (72, 2, 75), (72, 3, 76), (72, 4, 77), (72, 5, 78), (72, 6, 79), (72, 7, 80), (72, 10, 81), (72, 11, 82), (72, 12, 83), (72, 13, 84), (72, 15, 85), (72, 16, 86), (72, 17, 87), (72, 18, 88), (72, 19, 89), (72, 20, 90), (72, 21, 91), (72, 22, 92), (72, 23, 93), (72, 24, 94), (72, 25, 95), (72, 26, 96), (72, 27, 97), (72, 28, 98), (72, 29, 99), (72, 30, 100), (72, 31, 101), (72, 32, 102), (72, 33, 103), (72, 34, 104), (72, 35, 105), (72, 36, 106), (122, 0, 123), (122, 1, 152), (122, 2, 181), (122, 3, 210), (123, 0, 124), (123, 5, 128), (123, 6, 129), (123, 7, 130), (123, 8, 131), (123, 9, 132), (123, 11, 133), (123, 12, 134), (123, 13, 135), (123, 14, 136), (123, 15, 137), (123, 18, 138), (123, 19, 139), (123, 20, 140), (123, 21, 141), (123, 22, 142), (123, 23, 143), (123, 24, 144), (123, 25, 145), (123, 26, 146), (123, 28, 147), (123, 29, 148), (123, 30, 149), (123, 31, 150), (123, 32, 151), (124, 0, 125), (124, 1, 126), (124, 2, 127), (152, 0, 153), (152, 5, 157), (152, 6, 158), (152, 7, 159), (152, 8, 160), (152, 9, 161), (152, 11, 162), (152, 12, 163), (152, 13, 164), (152, 14, 165), (152, 15, 166), (152, 18, 167), (152, 19, 168), (152, 20, 169), (152, 21, 170), (152, 22, 171), (152, 23, 172), (152, 24, 173), (152, 25, 174), (152, 26, 175), (152, 28, 176), (152, 29, 177), (152, 30, 178), (152, 31, 179), (152, 32, 180), (153, 0, 154), (153, 1, 155), (153, 2, 156), (181, 0, 182), (181, 5, 186), (181, 6, 187), (181, 7, 188), (181, 8, 189), (181, 9, 190), (181, 11, 191), (181, 12, 192), (181, 13, 193), (181, 14, 194), (181, 15, 195), (181, 18, 196), (181, 19, 197), (181, 20, 198), (181, 21, 199), (181, 22, 200), (181, 23, 201), (181, 24, 202), (181, 25, 203), (181, 26, 204), (181, 28, 205), (181, 29, 206), (181, 30, 207), (181, 31, 208), (181, 32, 209), (182, 0, 183), (182, 1, 184), (182, 2, 185), (210, 0, 211), (210, 5, 215), (210, 6, 216), (210, 7, 217), (210, 8, 218), (210, 9, 219), (210, 11, 220), (210, 12, 221), (210, 13, 222), (210, 14, 223), (210, 15, 224), (210, 18, 225), (210, 19, 226), (210, 20, 227), (210, 21, 228), (210, 22, 229), (210, 23, 230), (210, 24, 231), (210, 25, 232), (210, 26, 233), (210, 28, 234), (210, 29, 235), (210, 30, 236), (210, 31, 237), (210, 32, 238), (211, 0, 212), (211, 1, 213), (211, 2, 214), (243, 0, 244), (243, 1, 245), (243, 2, 246), (247, 0, 248), (247, 1, 249), (247, 2, 250), (253, 0, 254), (253, 1, 255), (253, 2, 256)]
/-- what stands at a place of the reference's cells, as one number: an int, a long, or how far behind its own place a reference leads (-1: null) -/
def xGv (t m : Nat) (z : Int) : Value := match t with
  | 1 => xZ z
  | 2 => if z < 0 then .null else .ref (m + z.toNat)
  | _ => xI z
def xGin (t : Nat) (z : Int) : Prop := match t with
  | 1 => xiN z
  | 2 => -1 ≤ z ∧ z < 276
  | 3 => 0 ≤ z ∧ z ≤ 1
  | 4 => -128 ≤ z ∧ z ≤ 127
  | 5 => 0 ≤ z ∧ z ≤ 65535
  | _ => xin z
/-- the memory M has G at the reference's cells, which begin at m, and is M0 elsewhere -/
def xRX (m : Nat) (M0 M : xj_M) (G : xG_) : Prop := 64 ≤ m ∧ (∀ o, o < 276 → xh_sh M (m + o) = xl_t o ∧ ∀ i, i < (xl_t o).2.2 → xh_v M (m + o) i = xGv (xh_t (xl_t o) i) m (G o i) ∧ xGin (xh_t (xl_t o) i) (G o i)) ∧ (∀ a, ¬ (m ≤ a ∧ a < m + 276) → xj_get M a = xj_get M0 a) ∧ M.1.length = M0.1.length ∧ M.2 = M0.2 ∧ (∀ q, q ∈ xl_P → G q.1 q.2.1 = (q.2.2 : Int)) ∧ (G 0 0 = -1 ∨ G 0 0 = 239 ∨ G 0 0 = 240) ∧ (G 0 22 = -1 ∨ G 0 22 = 2 ∨ G 0 22 = 37 ∨ G 0 22 = 72)
theorem xokv_i (v : Int) : xj_okv .int (xI v) = true := by
  show (decide (narrow .int (xI v) = xI v) && fits .int (xI v)) = true
  rw [Bool.and_eq_true]
  exact ⟨decide_eq_true rfl, rfl⟩
theorem xokv_l (v : Int) : xj_okv .long (xZ v) = true := by
  show (decide (narrow .long (xZ v) = xZ v) && fits .long (xZ v)) = true
  rw [Bool.and_eq_true]
  exact ⟨decide_eq_true rfl, rfl⟩
theorem xl_P_t : ∀ q, q ∈ xl_P → q.1 < 276 ∧ q.2.1 < (xl_t q.1).2.2 ∧ xh_t (xl_t q.1) q.2.1 = 2 := by decide +kernel
section
variable {m o c k n kk : Nat} {M0 M : xj_M} {G : xG_} {z v : Int}
theorem xRX.sh (h : xRX m M0 M G) (ho : o < 276) : xh_sh M (m + o) = xl_t o := (h.2.1 o ho).1
theorem xRX.vv (h : xRX m M0 M G) (ho : o < 276) {i : Nat} (hi : i < (xl_t o).2.2) : xh_v M (m + o) i = xGv (xh_t (xl_t o) i) m (G o i) := ((h.2.1 o ho).2 i hi).1
theorem xRX.r (h : xRX m M0 M G) (ho : o < 276) {i : Nat} (hi : i < (xl_t o).2.2) : xGin (xh_t (xl_t o) i) (G o i) := ((h.2.1 o ho).2 i hi).2
/-- a store -/
theorem xRX.up0 (h : xRX m M0 M G) (ho : o < 276) {i : Nat} (hi : i < (xl_t o).2.2) (hv : xGin (xh_t (xl_t o) i) v) (hP : ∀ q, q ∈ xl_P → xup2 G o i v q.1 q.2.1 = (q.2.2 : Int)) (hS : xup2 G o i v 0 0 = -1 ∨ xup2 G o i v 0 0 = 239 ∨ xup2 G o i v 0 0 = 240) (hI : xup2 G o i v 0 22 = -1 ∨ xup2 G o i v 0 22 = 2 ∨ xup2 G o i v 0 22 = 37 ∨ xup2 G o i v 0 22 = 72) : xRX m M0 (xh_up M (m + o) i (xGv (xh_t (xl_t o) i) m v)) (xup2 G o i v) := by
  have hi2 : i < (xh_sh M (m + o)).2.2 := by rw [h.sh ho]; exact hi
  refine ⟨h.1, fun p hp => ⟨by rw [xh_sh_up]; exact h.sh hp, fun j hj => ?_⟩, fun a ha => ?_, by rw [xh_len_up]; exact h.2.2.2.1, by rw [xh_slots_up]; exact h.2.2.2.2.1, hP, hS, hI⟩
  · rw [xh_v_up hi2]
    unfold xup2
    by_cases e : p = o ∧ j = i
    · obtain ⟨rfl, rfl⟩ := e
      rw [if_pos ⟨rfl, rfl⟩, if_pos ⟨rfl, rfl⟩]
      exact ⟨rfl, hv⟩
    · rw [if_neg e, if_neg (fun q => e ⟨by omega, q.2⟩)]
      exact (h.2.1 p hp).2 j hj
  · rw [← h.2.2.1 a ha]
    unfold xh_up
    split
    · rename_i q hq
      rw [xh_get_put hq, if_neg (by omega)]
    · rename_i q hq
      rw [xh_get_put hq, if_neg (by omega)]
    · rfl
theorem xRX.up (h : xRX m M0 M G) (ho : o < 276) {i : Nat} (hi : i < (xl_t o).2.2) (hv : xGin (xh_t (xl_t o) i) v) (ht : xh_t (xl_t o) i ≠ 2) : xRX m M0 (xh_up M (m + o) i (xGv (xh_t (xl_t o) i) m v)) (xup2 G o i v) := by
  have hne : ∀ p j, xh_t (xl_t p) j = 2 → xup2 G o i v p j = G p j := by
    intro p j hp
    unfold xup2
    rw [if_neg]
    rintro ⟨rfl, rfl⟩
    exact ht hp
  refine h.up0 ho hi hv (fun q hq => ?_) ?_ ?_
  · rw [hne _ _ (xl_P_t q hq).2.2]
    exact h.2.2.2.2.2.1 q hq
  · rw [hne 0 0 (by decide)]
    exact h.2.2.2.2.2.2.1
  · rw [hne 0 22 (by decide)]
    exact h.2.2.2.2.2.2.2
theorem xGv_i {t : Nat} (ht : t = 0 ∨ t = 3 ∨ t = 4 ∨ t = 5) : xGv t m z = xI z := by rcases ht with rfl | rfl | rfl | rfl <;> rfl
theorem xGin_i {t : Nat} (ht : t = 0 ∨ t = 3 ∨ t = 4 ∨ t = 5) (h : xGin t z) : xin z := by
  rcases ht with rfl | rfl | rfl | rfl
  · exact h
  · exact ⟨by have := h.1; omega, by have := h.2; omega⟩
  · exact ⟨by have := h.1; omega, by have := h.2; omega⟩
  · exact ⟨by have := h.1; omega, by have := h.2; omega⟩
theorem xRX.oi (h : xRX m M0 M G) (ho : o < 276) {i : Nat} (hi : i < (xl_t o).2.2) (ht : xh_t (xl_t o) i = 0 ∨ xh_t (xl_t o) i = 3 ∨ xh_t (xl_t o) i = 4 ∨ xh_t (xl_t o) i = 5) : xh_v M (m + o) i = xI (G o i) ∧ xin (G o i) := by
  have h1 := h.vv ho hi
  rw [xGv_i ht] at h1
  exact ⟨h1, xGin_i ht (h.r ho hi)⟩
theorem xRX.obj (h : xRX m M0 M G) (ho : o < 276) (hs : xl_t o = (1, c, n)) : ∃ fs : List Value, xj_obj M (m + o) = some (c, fs) ∧ fs.length = n ∧ ∀ i, i < n → fs[i]? = some (xh_v M (m + o) i) := by
  obtain ⟨fs, h1, h2⟩ := xh_obj ((h.sh ho).trans hs)
  refine ⟨fs, by unfold xj_obj; rw [h1], h2, fun i hi => ?_⟩
  unfold xh_v
  rw [h1]
  simp only
  rw [List.getD_eq_getElem?_getD, List.getElem?_eq_getElem (by omega)]
  rfl
theorem xRX.gi (h : xRX m M0 M G) (ho : o < 276) (hs : xl_t o = (1, c, n)) (hk : k < n) (ht : xh_t (1, c, n) k = 0 ∨ xh_t (1, c, n) k = 3 ∨ xh_t (1, c, n) k = 4 ∨ xh_t (1, c, n) k = 5) : xq_gi c k (m + o) M = some (G o k) := by
  obtain ⟨fs, h1, h2, h3⟩ := h.obj ho hs
  have h4 := h.oi (i := k) ho (by rw [hs]; exact hk) (by rw [hs]; exact ht)
  unfold xq_gi
  simp only [h1, if_pos, h3 k hk, h4.1]
  simp only [xI, xin_to h4.2]
theorem xRX.gl (h : xRX m M0 M G) (ho : o < 276) (hs : xl_t o = (1, c, n)) (hk : k < n) (ht : xh_t (1, c, n) k = 1) : xq_gl c k (m + o) M = some (G o k) := by
  obtain ⟨fs, h1, h2, h3⟩ := h.obj ho hs
  have h4 := h.vv (i := k) ho (by rw [hs]; exact hk)
  have h5 := h.r (i := k) ho (by rw [hs]; exact hk)
  rw [hs, ht] at h4 h5
  unfold xq_gl
  simp only [h1, if_pos, h3 k hk, h4]
  simp only [xGv, xZ, xiN_to (show xiN (G o k) from h5)]
theorem xRX.gr (h : xRX m M0 M G) (ho : o < 276) (hs : xl_t o = (1, c, n)) (hk : k < n) (ht : xh_t (1, c, n) k = 2) : xq_gr c k (m + o) M = some (if G o k < 0 then 0 else m + (G o k).toNat) := by
  obtain ⟨fs, h1, h2, h3⟩ := h.obj ho hs
  have h4 := h.vv (i := k) ho (by rw [hs]; exact hk)
  rw [hs, ht] at h4
  have hm := h.1
  unfold xq_gr
  simp only [h1, if_pos, h3 k hk, h4, xGv]
  by_cases e : G o k < 0
  · rw [if_pos e, if_pos e]; rfl
  · rw [if_neg e, if_neg e]
    unfold xq_rn
    simp only
    rw [if_neg (show ¬ (m + (G o k).toNat = 0) by omega)]
theorem xRX.is (h : xRX m M0 M G) (ho : o < 276) (hs : xl_t o = (1, c, n)) : xq_is c (m + o) M = some () := by
  obtain ⟨fs, h1, h2, h3⟩ := h.obj ho hs
  unfold xq_is
  simp only [h1, if_pos]
theorem xRX.arr (h : xRX m M0 M G) (ho : o < 276) (hs : xl_t o = (2, kk, n)) : ∃ g : Nat → Value, xj_arr M (m + o) = some (kk, n, g) ∧ ∀ i, g i = xh_v M (m + o) i := by
  obtain ⟨g, hg⟩ := xh_arr ((h.sh ho).trans hs)
  refine ⟨g, by unfold xj_arr; rw [hg], fun i => ?_⟩
  unfold xh_v
  rw [hg]
theorem xRX.ai (h : xRX m M0 M G) (ho : o < 276) (hs : xl_t o = (2, kk, n)) (hk : kk = 3 ∨ kk = 2) (h0 : 0 ≤ z) (h1 : z < n) : xq_ai kk (m + o) z M = some (G o z.toNat) := by
  obtain ⟨g, h2, h3⟩ := h.arr ho hs
  have h4 := h.oi (i := z.toNat) ho (by rw [hs]; simp only; omega) (by rw [hs]; rcases hk with rfl | rfl; exact Or.inl rfl; exact Or.inr (Or.inr (Or.inr rfl)))
  unfold xq_ai
  simp only [h2]
  rw [if_pos ⟨trivial, h0, h1⟩, h3, h4.1]
  simp only [xI, xin_to h4.2]
theorem xRX.ab (h : xRX m M0 M G) (ho : o < 276) (hs : xl_t o = (2, kk, n)) (hk : kk = 0 ∨ kk = 1) (h0 : 0 ≤ z) (h1 : z < n) : xq_ab (m + o) z M = some (G o z.toNat) := by
  obtain ⟨g, h2, h3⟩ := h.arr ho hs
  have h4 := h.oi (i := z.toNat) ho (by rw [hs]; simp only; omega) (by rw [hs]; rcases hk with rfl | rfl; exact Or.inr (Or.inl rfl); exact Or.inr (Or.inr (Or.inl rfl)))
  unfold xq_ab
  simp only [h2]
  rw [if_pos ⟨by omega, h0, h1⟩, h3, h4.1]
  simp only [xI, xin_to h4.2]
theorem xRX.al (h : xRX m M0 M G) (ho : o < 276) (hs : xl_t o = (2, 4, n)) (h0 : 0 ≤ z) (h1 : z < n) : xq_al (m + o) z M = some (G o z.toNat) := by
  obtain ⟨g, h2, h3⟩ := h.arr ho hs
  have h4 := h.vv (i := z.toNat) ho (by rw [hs]; simp only; omega)
  have h5 := h.r (i := z.toNat) ho (by rw [hs]; simp only; omega)
  rw [hs] at h4 h5
  unfold xq_al
  simp only [h2]
  rw [if_pos ⟨trivial, h0, h1⟩, h3, h4]
  simp only [xGv, xh_t, xZ, xiN_to (show xiN (G o z.toNat) from h5)]
theorem xRX.ar (h : xRX m M0 M G) (ho : o < 276) (hs : xl_t o = (2, kk + 5, n)) (h0 : 0 ≤ z) (h1 : z < n) : xq_ar (m + o) z M = some (if G o z.toNat < 0 then 0 else m + (G o z.toNat).toNat) := by
  obtain ⟨g, h2, h3⟩ := h.arr ho hs
  have h4 := h.vv (i := z.toNat) ho (by rw [hs]; simp only; omega)
  rw [hs] at h4
  have hm := h.1
  unfold xq_ar
  simp only [h2]
  rw [if_pos ⟨by omega, h0, h1⟩, h3, h4]
  have e2 : xh_t (2, kk + 5, n) z.toNat = 2 := rfl
  rw [e2]
  simp only [xGv]
  by_cases e : G o z.toNat < 0
  · rw [if_pos e, if_pos e]; rfl
  · rw [if_neg e, if_neg e]
    unfold xq_rn
    simp only
    rw [if_neg (show ¬ (m + (G o z.toNat).toNat = 0) by omega)]
theorem xRX.gin (h : xRX m M0 M G) (ho : o < 276) (hs : xl_t o = (1, c, n)) (hk : k < n) (ht : xh_t (1, c, n) k = 0 ∨ xh_t (1, c, n) k = 3 ∨ xh_t (1, c, n) k = 4 ∨ xh_t (1, c, n) k = 5) : xin (G o k) := (h.oi (i := k) ho (by rw [hs]; exact hk) (by rw [hs]; exact ht)).2
theorem xRX.gln (h : xRX m M0 M G) (ho : o < 276) (hs : xl_t o = (1, c, n)) (hk : k < n) (ht : xh_t (1, c, n) k = 1) : xiN (G o k) := by
  have h5 := h.r (i := k) ho (by rw [hs]; exact hk)
  rw [hs, ht] at h5
  exact h5
theorem xRX.ain (h : xRX m M0 M G) (ho : o < 276) (hs : xl_t o = (2, kk, n)) (hk : kk = 3 ∨ kk = 2) (h0 : 0 ≤ z) (h1 : z < n) : xin (G o z.toNat) := (h.oi (i := z.toNat) ho (by rw [hs]; simp only; omega) (by rw [hs]; rcases hk with rfl | rfl; exact Or.inl rfl; exact Or.inr (Or.inr (Or.inr rfl)))).2
theorem xRX.abn (h : xRX m M0 M G) (ho : o < 276) (hs : xl_t o = (2, kk, n)) (hk : kk = 0 ∨ kk = 1) (h0 : 0 ≤ z) (h1 : z < n) : xin (G o z.toNat) := (h.oi (i := z.toNat) ho (by rw [hs]; simp only; omega) (by rw [hs]; rcases hk with rfl | rfl; exact Or.inr (Or.inl rfl); exact Or.inr (Or.inr (Or.inl rfl)))).2
theorem xRX.aln (h : xRX m M0 M G) (ho : o < 276) (hs : xl_t o = (2, 4, n)) (h0 : 0 ≤ z) (h1 : z < n) : xiN (G o z.toNat) := by
  have h5 := h.r (i := z.toNat) ho (by rw [hs]; simp only; omega)
  rw [hs] at h5
  exact h5
/-- pointers -/
theorem xRX.pt {t : Nat} (h : xRX m M0 M G) (ho : o < 276) (hs : xl_t o = (1, c, n)) (hk : k < n) (hq : (o, k, t) ∈ xl_P) : xq_gr c k (m + o) M = some (m + t) := by
  have h1 := (xl_P_t _ hq).2.2
  simp only at h1
  rw [hs] at h1
  rw [h.gr ho hs hk h1, h.2.2.2.2.2.1 _ hq]
  simp only
  rw [if_neg (by omega), Int.toNat_natCast]
theorem xRX.src (h : xRX m M0 M G) (hc : ¬ G 0 0 < 0) : xq_gr 15 0 m M = some (m + (G 0 0).toNat) := by
  have h1 := h.gr (o := 0) (c := 15) (k := 0) (n := 107) (by decide) rfl (by decide) (by decide)
  rw [if_neg hc] at h1
  exact h1
theorem xRX.itp (h : xRX m M0 M G) (hc : ¬ G 0 22 < 0) : xq_gr 15 22 m M = some (m + (G 0 22).toNat) := by
  have h1 := h.gr (o := 0) (c := 15) (k := 22) (n := 107) (by decide) rfl (by decide) (by decide)
  rw [if_neg hc] at h1
  exact h1
end
def xoP (p : Nat) : Prop := p = 2 ∨ p = 37 ∨ p = 72
def xoL (p : Nat) : Prop := p = 123 ∨ p = 152 ∨ p = 181 ∨ p = 210
def xoF (p : Nat) : Prop := p = 124 ∨ p = 153 ∨ p = 182 ∨ p = 211 ∨ p = 243 ∨ p = 247 ∨ p = 253
def xoB (p : Nat) : Prop := p = 239 ∨ p = 240
def xoJ (p : Nat) : Prop := p < 276 ∧ xl_t p = (2, 4, (xl_t p).2.2)
def xoI (p : Nat) : Prop := p < 276 ∧ xl_t p = (2, 3, (xl_t p).2.2)
def xoZ (p : Nat) : Prop := p < 276 ∧ xl_t p = (2, 0, (xl_t p).2.2)
theorem xoP_all {p : Nat} {Q : Nat → Prop} (h : xoP p) (h1 : Q 2) (h2 : Q 37) (h3 : Q 72) : Q p := by rcases h with rfl | rfl | rfl <;> assumption
theorem xoL_all {p : Nat} {Q : Nat → Prop} (h : xoL p) (h1 : Q 123) (h2 : Q 152) (h3 : Q 181) (h4 : Q 210) : Q p := by rcases h with rfl | rfl | rfl | rfl <;> assumption
theorem xoF_all {p : Nat} {Q : Nat → Prop} (h : xoF p) (h1 : Q 124) (h2 : Q 153) (h3 : Q 182) (h4 : Q 211) (h5 : Q 243) (h6 : Q 247) (h7 : Q 253) : Q p := by rcases h with rfl | rfl | rfl | rfl | rfl | rfl | rfl <;> assumption
theorem xoP_o {p : Nat} (h : xoP p) : p < 276 ∧ xl_t p = (1, 14, 38) := by rcases h with rfl | rfl | rfl <;> exact ⟨by decide, rfl⟩
theorem xoL_o {p : Nat} (h : xoL p) : p < 276 ∧ xl_t p = (1, 13, 37) := by rcases h with rfl | rfl | rfl | rfl <;> exact ⟨by decide, rfl⟩
theorem xoF_o {p : Nat} (h : xoF p) : p < 276 ∧ xl_t p = (1, 12, 4) := by rcases h with rfl | rfl | rfl | rfl | rfl | rfl | rfl <;> exact ⟨by decide, rfl⟩
theorem xoB_o {p : Nat} (h : xoB p) : p < 276 ∧ xl_t p = (2, 1, (xl_t p).2.2) := by rcases h with rfl | rfl <;> exact ⟨by decide, rfl⟩
theorem xoL_of {z : Int} (h : 0 ≤ z ∧ z < 4) : xoL (123 + 29 * z.toNat) := by
  have : z.toNat = 0 ∨ z.toNat = 1 ∨ z.toNat = 2 ∨ z.toNat = 3 := by omega
  unfold xoL
  omega
section
variable {m o c k n kk : Nat} {M0 M : xj_M} {G : xG_} {z v : Int}
theorem xRX.srt (h : xRX m M0 M G) (hc : ¬ G 0 0 < 0) : xoB (G 0 0).toNat := by
  unfold xoB
  have := h.2.2.2.2.2.2.1
  omega
theorem xRX.itt (h : xRX m M0 M G) (hc : ¬ G 0 22 < 0) : xoP (G 0 22).toNat := by
  unfold xoP
  have := h.2.2.2.2.2.2.2
  omega
theorem xRX.lin (h : xRX m M0 M G) (hz : 0 ≤ z ∧ z < 4) : xq_ar (m + 122) z M = some (m + (123 + 29 * z.toNat)) := by
  have h1 := h.ar (o := 122) (kk := 13) (n := 4) (z := z) (by decide) rfl hz.1 hz.2
  rw [h1]
  have hz4 : z.toNat = 0 ∨ z.toNat = 1 ∨ z.toNat = 2 ∨ z.toNat = 3 := by omega
  have e : G 122 z.toNat = ((123 + 29 * z.toNat : Nat) : Int) := by
    rcases hz4 with e | e | e | e <;> rw [e]
    · exact h.2.2.2.2.2.1 (122, 0, 123) (by decide +kernel)
    · exact h.2.2.2.2.2.1 (122, 1, 152) (by decide +kernel)
    · exact h.2.2.2.2.2.1 (122, 2, 181) (by decide +kernel)
    · exact h.2.2.2.2.2.1 (122, 3, 210) (by decide +kernel)
  rw [e, if_neg (by omega), Int.toNat_natCast]
/-- stores: what is behind them -/
theorem xRX.pi (h : xRX m M0 M G) (ho : o < 276) (hs : xl_t o = (1, c, n)) (hk : k < n) (ht : xj_ty c k = .int) (hv : xin v) : ∃ M', xq_pi c k (m + o) v M = some M' ∧ xRX m M0 M' (xup2 G o k v) := by
  have ht0 : xh_t (xl_t o) k = 0 := by rw [hs]; unfold xh_t; simp only [ht]; rfl
  have h1 := h.up (i := k) (v := v) ho (by rw [hs]; exact hk) (by rw [ht0]; exact hv) (by rw [ht0]; decide)
  rw [ht0] at h1
  exact ⟨_, xq_p_eq ((h.sh ho).trans hs) (by rw [ht]; exact xokv_i v), h1⟩
theorem xRX.pb (h : xRX m M0 M G) (ho : o < 276) (hs : xl_t o = (1, c, n)) (hk : k < n) (ht : xj_ty c k = .boolean) (hv : v = 0 ∨ v = 1) : ∃ M', xq_pi c k (m + o) v M = some M' ∧ xRX m M0 M' (xup2 G o k v) := by
  have ht0 : xh_t (xl_t o) k = 3 := by rw [hs]; unfold xh_t; simp only [ht]; rfl
  have h1 := h.up (i := k) (v := v) ho (by rw [hs]; exact hk) (by rw [ht0]; rcases hv with rfl | rfl; exact ⟨by decide, by decide⟩; exact ⟨by decide, by decide⟩) (by rw [ht0]; decide)
  rw [ht0] at h1
  exact ⟨_, xq_p_eq ((h.sh ho).trans hs) (by rw [ht]; rcases hv with rfl | rfl <;> decide), h1⟩
theorem xRX.pl (h : xRX m M0 M G) (ho : o < 276) (hs : xl_t o = (1, c, n)) (hk : k < n) (ht : xj_ty c k = .long) (hv : xiN v) : ∃ M', xq_pl c k (m + o) v M = some M' ∧ xRX m M0 M' (xup2 G o k v) := by
  have ht0 : xh_t (xl_t o) k = 1 := by rw [hs]; unfold xh_t; simp only [ht]; rfl
  have h1 := h.up (i := k) (v := v) ho (by rw [hs]; exact hk) (by rw [ht0]; exact hv) (by rw [ht0]; decide)
  rw [ht0] at h1
  exact ⟨_, xq_p_eq ((h.sh ho).trans hs) (by rw [ht]; exact xokv_l v), h1⟩
theorem xRX.si (h : xRX m M0 M G) (ho : o < 276) (hs : xl_t o = (2, 3, n)) (h0 : 0 ≤ z) (h1 : z < n) (hv : xin v) : ∃ M', xq_si (m + o) z v M = some M' ∧ xRX m M0 M' (xup2 G o z.toNat v) := by
  have ht0 : xh_t (xl_t o) z.toNat = 0 := by rw [hs]; rfl
  have h2 := h.up (i := z.toNat) (v := v) ho (by rw [hs]; simp only; omega) (by rw [ht0]; exact hv) (by rw [ht0]; decide)
  rw [ht0] at h2
  exact ⟨_, xq_s_eq ((h.sh ho).trans hs) h0 h1, h2⟩
theorem xRX.sl (h : xRX m M0 M G) (ho : o < 276) (hs : xl_t o = (2, 4, n)) (h0 : 0 ≤ z) (h1 : z < n) (hv : xiN v) : ∃ M', xq_sl (m + o) z v M = some M' ∧ xRX m M0 M' (xup2 G o z.toNat v) := by
  have ht0 : xh_t (xl_t o) z.toNat = 1 := by rw [hs]; rfl
  have h2 := h.up (i := z.toNat) (v := v) ho (by rw [hs]; simp only; omega) (by rw [ht0]; exact hv) (by rw [ht0]; decide)
  rw [ht0] at h2
  exact ⟨_, xq_s_eq ((h.sh ho).trans hs) h0 h1, h2⟩
theorem xRX.sb0 (h : xRX m M0 M G) (ho : o < 276) (hs : xl_t o = (2, 0, n)) (h0 : 0 ≤ z) (h1 : z < n) (hv : v = 0 ∨ v = 1) : ∃ M', xq_sb (m + o) z v M = some M' ∧ xRX m M0 M' (xup2 G o z.toNat v) := by
  have ht0 : xh_t (xl_t o) z.toNat = 3 := by rw [hs]; rfl
  have h2 := h.up (i := z.toNat) (v := v) ho (by rw [hs]; simp only; omega) (by rw [ht0]; rcases hv with rfl | rfl; exact ⟨by decide, by decide⟩; exact ⟨by decide, by decide⟩) (by rw [ht0]; decide)
  rw [ht0] at h2
  have e : xnar .boolean v = v := by rcases hv with rfl | rfl <;> decide
  refine ⟨_, xq_sb_eq0 ((h.sh ho).trans hs) h0 h1, ?_⟩
  rw [e]
  exact h2
theorem yxnar_b (v : Int) : -128 ≤ xnar .byte v ∧ xnar .byte v ≤ 127 := by
  have h : xnar .byte v = ((Int32.ofInt v).toInt8.toInt32).toInt := rfl
  rw [h, Int8.toInt_toInt32]
  have h1 := Int8.le_toInt (Int32.ofInt v).toInt8
  have h2 := Int8.toInt_lt (Int32.ofInt v).toInt8
  exact ⟨by omega, by omega⟩
theorem xRX.sb1 (h : xRX m M0 M G) (ho : o < 276) (hs : xl_t o = (2, 1, n)) (h0 : 0 ≤ z) (h1 : z < n) : ∃ M', xq_sb (m + o) z v M = some M' ∧ xRX m M0 M' (xup2 G o z.toNat (xnar .byte v)) := by
  have ht0 : xh_t (xl_t o) z.toNat = 4 := by rw [hs]; rfl
  have h2 := h.up (i := z.toNat) (v := xnar .byte v) ho (by rw [hs]; simp only; omega) (by rw [ht0]; exact yxnar_b v) (by rw [ht0]; decide)
  rw [ht0] at h2
  exact ⟨_, xq_sb_eq1 ((h.sh ho).trans hs) h0 h1, h2⟩
theorem xRX.psrc {x : Nat} (h : xRX m M0 M G) (hx : xoB x) : ∃ M', xq_pr 15 0 m (m + x) M = some M' ∧ xRX m M0 M' (xup2 G 0 0 ((x : Nat) : Int)) := by
  have hm := h.1
  have h2 := h.up0 (o := 0) (i := 0) (v := (x : Int)) (by decide) (by decide) (by show -1 ≤ (x : Int) ∧ (x : Int) < 276; unfold xoB at hx; omega) (fun q hq => by
    have hq0 : ¬ (q.1 = 0 ∧ q.2.1 = 0) := by
      have : ∀ q, q ∈ xl_P → ¬ (q.1 = 0 ∧ q.2.1 = 0) := by decide +kernel
      exact this q hq
    unfold xup2
    rw [if_neg hq0]
    exact h.2.2.2.2.2.1 q hq) (by unfold xup2; rw [if_pos ⟨rfl, rfl⟩]; unfold xoB at hx; omega) (by unfold xup2; rw [if_neg (by decide)]; exact h.2.2.2.2.2.2.2)
  have e : xGv (xh_t (xl_t 0) 0) m (x : Int) = xR_ (m + x) := by
    show (if (x : Int) < 0 then Value.null else Value.ref (m + (x : Int).toNat)) = _
    rw [if_neg (by omega), xR_ref (by omega), Int.toNat_natCast]
  rw [e] at h2
  refine ⟨_, xq_p_eq (n := 107) (h.sh (o := 0) (by decide)) ?_, h2⟩
  rw [xR_ref (by omega)]
  show (decide (narrow _ (Value.ref (m + x)) = Value.ref (m + x)) && fits _ (Value.ref (m + x))) = true
  rw [Bool.and_eq_true]
  exact ⟨decide_eq_true rfl, rfl⟩
theorem xRX.pitp {x : Nat} (h : xRX m M0 M G) (hx : xoP x) : ∃ M', xq_pr 15 22 m (m + x) M = some M' ∧ xRX m M0 M' (xup2 G 0 22 ((x : Nat) : Int)) := by
  have hm := h.1
  have h2 := h.up0 (o := 0) (i := 22) (v := (x : Int)) (by decide) (by decide) (by show -1 ≤ (x : Int) ∧ (x : Int) < 276; unfold xoP at hx; omega) (fun q hq => by
    have hq0 : ¬ (q.1 = 0 ∧ q.2.1 = 22) := by
      have : ∀ q, q ∈ xl_P → ¬ (q.1 = 0 ∧ q.2.1 = 22) := by decide +kernel
      exact this q hq
    unfold xup2
    rw [if_neg hq0]
    exact h.2.2.2.2.2.1 q hq) (by unfold xup2; rw [if_neg (by decide)]; exact h.2.2.2.2.2.2.1) (by unfold xup2; rw [if_pos ⟨rfl, rfl⟩]; unfold xoP at hx; omega)
  have e : xGv (xh_t (xl_t 0) 22) m (x : Int) = xR_ (m + x) := by
    show (if (x : Int) < 0 then Value.null else Value.ref (m + (x : Int).toNat)) = _
    rw [if_neg (by omega), xR_ref (by omega), Int.toNat_natCast]
  rw [e] at h2
  refine ⟨_, xq_p_eq (n := 107) (h.sh (o := 0) (by decide)) ?_, h2⟩
  rw [xR_ref (by omega)]
  show (decide (narrow _ (Value.ref (m + x)) = Value.ref (m + x)) && fits _ (Value.ref (m + x))) = true
  rw [Bool.and_eq_true]
  exact ⟨decide_eq_true rfl, rfl⟩
end
/-- where a sign stands among those of one byte; -1 if it doesn't -/
def xHI (f : Nat) : Prop := ∀ (c : Int) (M : xj_M), xin c → f387 f 9 c M = some (xidx c, M) ∧ xin (xidx c)
