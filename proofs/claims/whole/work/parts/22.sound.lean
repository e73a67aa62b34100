/-! What the abstract machine says holds of the interpreter: values, locals, memory -/
theorem xif_t {α : Type} (t e : α) : xif true t e = t := rfl
theorem xif_f {α : Type} (t e : α) : xif false t e = e := rfl
theorem xif_some {α : Type} {c : Bool} {t : Option α} {v : α} (h : xif c t none = some v) : c = true ∧ t = some v := by
  cases c with
  | true => exact ⟨rfl, h⟩
  | false => cases h
theorem xif_and {a b : Bool} (h : xif a b false = true) : a = true ∧ b = true := by
  cases a with
  | true => exact ⟨rfl, h⟩
  | false => cases h
theorem xbeq {a b : Nat} (h : Nat.beq a b = true) : a = b := Nat.eq_of_beq_eq_true h
theorem xble {a b : Nat} (h : Nat.ble a b = true) : a ≤ b := Nat.le_of_ble_eq_true h
theorem xblt {a b : Nat} (h : Nat.blt a b = true) : a < b := Nat.le_of_ble_eq_true h
theorem xnbeq {a b : Nat} (h : Nat.beq a b = false) : a ≠ b := Nat.ne_of_beq_eq_false h
theorem xaeq_eq {a b : xa} (h : xaeq a b = true) : a = b := by
  unfold xaeq at h
  obtain ⟨h1, h2⟩ := xif_and h
  obtain ⟨h2, h3⟩ := xif_and h2
  obtain ⟨a1, a2, a3⟩ := a
  obtain ⟨b1, b2, b3⟩ := b
  cases xbeq h1; cases xbeq h2; cases xbeq h3
  rfl
theorem xcon_eq {a : xa} (h : xcon a = true) : a.2.1 = a.2.2 := xbeq h
theorem xv_mi {a : xa} {x : Int32} (h0 : a.1 = 0) (h1 : a.2.1 ≤ xa_e x) (h2 : xa_e x ≤ a.2.2) : xv a (.int x) := ⟨h0, h1, h2⟩
theorem xv_ml {a : xa} {x : Int64} (h0 : a.1 = 1) (h1 : a.2.1 ≤ xa_E x) (h2 : xa_E x ≤ a.2.2) : xv a (.long x) := ⟨h0, h1, h2⟩
theorem xv_top {x : Int32} : xv xtop (.int x) := ⟨rfl, Nat.zero_le _, by have := xa_lt x; show xa_e x ≤ 4294967295; omega⟩
theorem xv_Top {x : Int64} : xv xTop (.long x) := ⟨rfl, Nat.zero_le _, by have := xa_Lt x; show xa_E x ≤ 18446744073709551615; omega⟩
theorem xv_ci (x : Int32) : xv (0, xa_e x, xa_e x) (.int x) := ⟨rfl, Nat.le_refl _, Nat.le_refl _⟩
theorem xv_cl (x : Int64) : xv (1, xa_E x, xa_E x) (.long x) := ⟨rfl, Nat.le_refl _, Nat.le_refl _⟩
theorem xv_cat {a : xa} {v : Value} (h : xv a v) : v.category = if a.1 = 1 then 2 else 1 := by
  unfold xv at h
  split at h
  · rw [h.1]; rfl
  · rw [h.1]; rfl
  · rw [h.1]; rfl
  · rw [h]; rfl
  · exact h.elim
theorem xa_add (x y : Int32) : xa_e (x + y) = (xa_e x + xa_e y + 2147483648) % 4294967296 := by
  have h1 := xa_e_int (x + y); have h2 := xa_e_int x; have h3 := xa_e_int y
  have hx := x.toInt_lt; have hx' := x.le_toInt; have hy := y.toInt_lt; have hy' := y.le_toInt
  rw [Int32.toInt_add, Int.bmod_def] at h1
  split at h1 <;> omega
theorem xa_sub (x y : Int32) : xa_e (x - y) = (xa_e x + 6442450944 - xa_e y) % 4294967296 := by
  have h1 := xa_e_int (x - y); have h2 := xa_e_int x; have h3 := xa_e_int y
  have hx := x.toInt_lt; have hx' := x.le_toInt; have hy := y.toInt_lt; have hy' := y.le_toInt
  rw [Int32.toInt_sub, Int.bmod_def] at h1
  split at h1 <;> omega
theorem xa_mul {x y : Int32} (hx : 2147483648 ≤ xa_e x) (hy : 2147483648 ≤ xa_e y) (h : (xa_e x - 2147483648) * (xa_e y - 2147483648) < 2147483648) : xa_e (x * y) = (xa_e x - 2147483648) * (xa_e y - 2147483648) + 2147483648 := by
  have h1 := xa_e_int (x * y); have h2 := xa_e_int x; have h3 := xa_e_int y
  obtain ⟨m, hm⟩ := Nat.exists_eq_add_of_le hx
  obtain ⟨n, hn⟩ := Nat.exists_eq_add_of_le hy
  have e1 : x.toInt = (m : Int) := by omega
  have e2 : y.toInt = (n : Int) := by omega
  rw [hm, hn, Nat.add_sub_cancel_left, Nat.add_sub_cancel_left] at h ⊢
  rw [Int32.toInt_mul, e1, e2, Int.bmod_def, ← Int.natCast_mul] at h1
  generalize m * n = p at h h1 ⊢
  split at h1 <;> omega
theorem xa_and {x y : Int32} (hy : 2147483648 ≤ xa_e y) : 2147483648 ≤ xa_e (x &&& y) ∧ xa_e (x &&& y) ≤ xa_e y := by
  have h1 := xa_e_int (x &&& y); have h3 := xa_e_int y
  have hy0 : 0 ≤ y.toInt := by omega
  have e1 : (x &&& y).toInt = (x.toBitVec &&& y.toBitVec).toInt := by rw [← Int32.toBitVec_and]; rfl
  have hm : y.toBitVec.msb = false := by
    rw [BitVec.msb_eq_toInt]
    exact decide_eq_false (by show ¬ y.toInt < 0; omega)
  have hm2 : (x.toBitVec &&& y.toBitVec).msb = false := by rw [BitVec.msb_and, hm, Bool.and_false]
  rw [BitVec.toInt_eq_msb_cond, hm2] at e1
  have e3 : y.toInt = (y.toBitVec.toNat : Int) := by
    show y.toBitVec.toInt = _
    rw [BitVec.toInt_eq_msb_cond, hm]; rfl
  have e4 : (x.toBitVec &&& y.toBitVec).toNat ≤ y.toBitVec.toNat := by rw [BitVec.toNat_and]; exact Nat.and_le_right
  have e5 : (x &&& y).toInt = ((x.toBitVec &&& y.toBitVec).toNat : Int) := e1
  omega
theorem xmul_le {a b c d : Nat} (h1 : a ≤ c) (h2 : b ≤ d) : a * b ≤ c * d := Nat.mul_le_mul h1 h2
theorem xn2_ok (s : Nat) {x y : xa} {u w : Int32} (hx1 : x.2.1 ≤ xa_e u) (hx2 : xa_e u ≤ x.2.2) (hy1 : y.2.1 ≤ xa_e w) (hy2 : xa_e w ≤ y.2.2) : xv (xn2 s x y) (.int (xi2 s u w)) := by
  unfold xn2
  split
  · cases c1 : Nat.ble 2147483648 (Nat.add x.2.1 y.2.1) with
    | false => exact xv_top
    | true =>
      cases c2 : Nat.blt (Nat.add x.2.2 y.2.2) 6442450944 with
      | false => exact xv_top
      | true =>
        have c1 : 2147483648 ≤ x.2.1 + y.2.1 := xble c1
        have c2 : x.2.2 + y.2.2 < 6442450944 := xblt c2
        have := xa_add u w
        refine xv_mi rfl ?_ ?_
        · show x.2.1 + y.2.1 - 2147483648 ≤ xa_e (u + w); omega
        · show xa_e (u + w) ≤ x.2.2 + y.2.2 - 2147483648; omega
  · cases c1 : Nat.ble 2147483648 x.2.1 with
    | false => exact xv_top
    | true =>
      cases c2 : Nat.ble 2147483648 y.2.1 with
      | false => exact xv_top
      | true =>
        cases c3 : Nat.blt (Nat.mul (Nat.sub x.2.2 2147483648) (Nat.sub y.2.2 2147483648)) 2147483648 with
        | false => exact xv_top
        | true =>
          have c1 : 2147483648 ≤ x.2.1 := xble c1
          have c2 : 2147483648 ≤ y.2.1 := xble c2
          have c3 : (x.2.2 - 2147483648) * (y.2.2 - 2147483648) < 2147483648 := xblt c3
          have m1 : (x.2.1 - 2147483648) * (y.2.1 - 2147483648) ≤ (xa_e u - 2147483648) * (xa_e w - 2147483648) := xmul_le (by omega) (by omega)
          have m2 : (xa_e u - 2147483648) * (xa_e w - 2147483648) ≤ (x.2.2 - 2147483648) * (y.2.2 - 2147483648) := xmul_le (by omega) (by omega)
          have e := xa_mul (x := u) (y := w) (Nat.le_trans c1 hx1) (Nat.le_trans c2 hy1) (Nat.lt_of_le_of_lt m2 c3)
          refine xv_mi rfl ?_ ?_
          · show (x.2.1 - 2147483648) * (y.2.1 - 2147483648) + 2147483648 ≤ xa_e (u * w); omega
          · show xa_e (u * w) ≤ (x.2.2 - 2147483648) * (y.2.2 - 2147483648) + 2147483648; omega
  · cases c1 : xcon y with
    | false => exact xv_top
    | true =>
      cases c2 : Nat.ble 2147483648 y.2.1 with
      | false => exact xv_top
      | true =>
        have c1 := xcon_eq c1
        have c2 : 2147483648 ≤ y.2.1 := xble c2
        have e := xa_and (x := u) (y := w) (by omega)
        refine xv_mi rfl ?_ ?_
        · show 2147483648 ≤ xa_e (u &&& w); omega
        · show xa_e (u &&& w) ≤ y.2.1; omega
  · exact xv_top
theorem xr2_ok (s : Nat) {x y : xa} {u w : Int32} (hx1 : x.2.1 ≤ xa_e u) (hx2 : xa_e u ≤ x.2.2) (hy1 : y.2.1 ≤ xa_e w) (hy2 : xa_e w ≤ y.2.2) : xv (xr2 s x y) (.int (xi2 s u w)) := by
  unfold xr2
  cases c : xif (xcon x) (xcon y) false with
  | false => exact xn2_ok s hx1 hx2 hy1 hy2
  | true =>
    obtain ⟨c1, c2⟩ := xif_and c
    have c1 := xcon_eq c1
    have c2 := xcon_eq c2
    have e1 : xa_e u = x.2.1 := by omega
    have e2 : xa_e w = y.2.1 := by omega
    rw [xif_t, xg_eq]
    have : xc2 s x.2.1 y.2.1 = xa_e (xi2 s u w) := by
      rw [← e1, ← e2]
      unfold xc2
      split
      · exact (xa_add u w).symm
      · exact (xa_sub u w).symm
      · rw [xa_d_e, xa_d_e]
    rw [this]
    exact xv_ci _
theorem xR2_ok (s : Nat) {x y : xa} {u w : Int64} (hx1 : x.2.1 ≤ xa_E u) (hx2 : xa_E u ≤ x.2.2) (hy1 : y.2.1 ≤ xa_E w) (hy2 : xa_E w ≤ y.2.2) : xv (xR2 s x y) (.long (xj2 s u w)) := by
  unfold xR2
  cases c : xif (xcon x) (xcon y) false with
  | false => exact xv_Top
  | true =>
    obtain ⟨c1, c2⟩ := xif_and c
    have c1 := xcon_eq c1
    have c2 := xcon_eq c2
    have e1 : xa_E u = x.2.1 := by omega
    have e2 : xa_E w = y.2.1 := by omega
    rw [xif_t, xg_eq, ← e1, ← e2, xa_D_E, xa_D_E]
    exact xv_cl _
theorem xa_le {x y : Int32} : xa_e x ≤ xa_e y ↔ x ≤ y := by
  have h1 := xa_e_int x; have h2 := xa_e_int y
  rw [Int32.le_iff_toInt_le]; omega
theorem xa_lt2 {x y : Int32} : xa_e x < xa_e y ↔ x < y := by
  have h1 := xa_e_int x; have h2 := xa_e_int y
  rw [Int32.lt_iff_toInt_lt]; omega
theorem xa_inj {x y : Int32} : xa_e x = xa_e y ↔ x = y := by
  constructor
  · intro h; rw [← xa_d_e x, h, xa_d_e]
  · intro h; rw [h]
theorem xlt_ok {x y : xa} {u w : Int32} {b : Bool} (hx1 : x.2.1 ≤ xa_e u) (hx2 : xa_e u ≤ x.2.2) (hy1 : y.2.1 ≤ xa_e w) (hy2 : xa_e w ≤ y.2.2) (h : xlt x y = some b) : b = decide (u < w) := by
  unfold xlt at h
  cases c1 : Nat.blt x.2.2 y.2.1 with
  | true =>
    rw [c1, xif_t] at h; cases h
    have c1 : x.2.2 < y.2.1 := xblt c1
    exact (decide_eq_true (xa_lt2.mp (by omega))).symm
  | false =>
    rw [c1, xif_f] at h
    cases c2 : Nat.ble y.2.2 x.2.1 with
    | true =>
      rw [c2, xif_t] at h; cases h
      have c2 : y.2.2 ≤ x.2.1 := xble c2
      exact (decide_eq_false (fun q => by have := xa_lt2.mpr q; omega)).symm
    | false => rw [c2] at h; cases h
theorem xeq_ok {x y : xa} {u w : Int32} {b : Bool} (hx1 : x.2.1 ≤ xa_e u) (hx2 : xa_e u ≤ x.2.2) (hy1 : y.2.1 ≤ xa_e w) (hy2 : xa_e w ≤ y.2.2) (h : xeq x y = some b) : b = decide (u = w) := by
  unfold xeq at h
  cases c1 : Nat.blt x.2.2 y.2.1 with
  | true =>
    rw [c1, xif_t] at h; cases h
    have c1 : x.2.2 < y.2.1 := xblt c1
    exact (decide_eq_false (fun q => by have := xa_inj.mpr q; omega)).symm
  | false =>
    rw [c1, xif_f] at h
    cases c2 : Nat.blt y.2.2 x.2.1 with
    | true =>
      rw [c2, xif_t] at h; cases h
      have c2 : y.2.2 < x.2.1 := xblt c2
      exact (decide_eq_false (fun q => by have := xa_inj.mpr q; omega)).symm
    | false =>
      rw [c2, xif_f] at h
      obtain ⟨c, h⟩ := xif_some h
      cases h
      obtain ⟨d1, d2⟩ := xif_and c
      have d1 := xcon_eq d1
      have d2 := xcon_eq d2
      have n1 : ¬ x.2.2 < y.2.1 := fun q => by have : Nat.blt x.2.2 y.2.1 = true := Nat.ble_eq_true_of_le q; rw [c1] at this; cases this
      have n2 : ¬ y.2.2 < x.2.1 := fun q => by have : Nat.blt y.2.2 x.2.1 = true := Nat.ble_eq_true_of_le q; rw [c2] at this; cases this
      exact (decide_eq_true (xa_inj.mp (by omega))).symm
theorem xnot_ok {b : Option Bool} {c : Bool} (h : xnot b = some c) : ∃ d, b = some d ∧ c = !d := by
  cases b with
  | none => cases h
  | some d => cases h; exact ⟨d, rfl, by cases d <;> rfl⟩
/-- lists of locals -/
theorem xl_get_n (i : Nat) : xl_get [] i = none := rfl
theorem xl_get_z (a : xa) (l : List xa) : xl_get (a :: l) 0 = some a := rfl
theorem xl_get_s (a : xa) (l : List xa) (i : Nat) : xl_get (a :: l) (i + 1) = xl_get l i := rfl
theorem xl_set_n (i : Nat) (v : xa) : xl_set [] i v = xl_pad i v := rfl
theorem xl_set_z (a v : xa) (l : List xa) : xl_set (a :: l) 0 v = v :: l := rfl
theorem xl_set_s (a v : xa) (l : List xa) (i : Nat) : xl_set (a :: l) (i + 1) v = a :: xl_set l i v := rfl
theorem xl_pad_get (v a : xa) : ∀ i j : Nat, xl_get (xl_pad i v) j = some a → (j = i ∧ a = v) ∨ (j ≠ i ∧ a.1 = 9) := by
  intro i
  induction i with
  | zero =>
    intro j h
    cases j with
    | zero => cases h; exact Or.inl ⟨rfl, rfl⟩
    | succ j => cases h
  | succ i ih =>
    intro j h
    cases j with
    | zero => cases h; exact Or.inr ⟨by omega, rfl⟩
    | succ j =>
      rcases ih j h with ⟨h1, h2⟩ | ⟨h1, h2⟩
      · exact Or.inl ⟨by omega, h2⟩
      · exact Or.inr ⟨by omega, h2⟩
theorem xl_gs (v a : xa) : ∀ (l : List xa) (i j : Nat), xl_get (xl_set l i v) j = some a → (j = i ∧ a = v) ∨ (j ≠ i ∧ (a.1 = 9 ∨ xl_get l j = some a)) := by
  intro l
  induction l with
  | nil =>
    intro i j h
    rcases xl_pad_get v a i j h with h | h
    · exact Or.inl h
    · exact Or.inr ⟨h.1, Or.inl h.2⟩
  | cons b l ih =>
    intro i j h
    cases i with
    | zero =>
      cases j with
      | zero => cases h; exact Or.inl ⟨rfl, rfl⟩
      | succ j => exact Or.inr ⟨by omega, Or.inr h⟩
    | succ i =>
      cases j with
      | zero => exact Or.inr ⟨by omega, Or.inr h⟩
      | succ j =>
        rcases ih i j h with ⟨h1, h2⟩ | ⟨h1, h2⟩
        · exact Or.inl ⟨by omega, h2⟩
        · exact Or.inr ⟨by omega, h2⟩
def xlr (l : List xa) (lv : xj_L) : Prop := ∀ i a, xl_get l i = some a → a.1 ≠ 9 → ∃ v, xj_ld lv i = some v ∧ xv a v
theorem xv9 {a : xa} {v : Value} (h : xv a v) : a.1 ≠ 9 := by
  unfold xv at h
  split at h
  · rw [h.1]; decide
  · rw [h.1]; decide
  · rw [h.1]; decide
  · rw [h]; decide
  · exact h.elim
theorem xj_ld_filter {f : Nat × Value → Bool} {j : Nat} {w : Value} : ∀ lv : xj_L, xj_ld lv j = some w → f (j, w) = true → xj_ld (lv.filter f) j = some w := by
  intro lv
  induction lv with
  | nil => intro h; cases h
  | cons q lv ih =>
    intro h hf
    obtain ⟨k, v⟩ := q
    by_cases e : k = j
    · subst e
      have : v = w := by
        simp only [xj_ld, List.find?_cons, beq_self_eq_true, Option.map_some, Option.some.injEq] at h
        exact h
      subst this
      simp only [List.filter_cons, hf, if_true, xj_ld, List.find?_cons, beq_self_eq_true, Option.map_some]
    · have e2 : (k == j) = false := beq_eq_false_iff_ne.mpr e
      have h' : xj_ld lv j = some w := by
        simp only [xj_ld, List.find?_cons, e2] at h
        exact h
      have h2 := ih h' hf
      simp only [List.filter_cons]
      split
      · simp only [xj_ld, List.find?_cons, e2]
        exact h2
      · exact h2
theorem xj_ld_s1 {lv : xj_L} {i j : Nat} {v w : Value} (h : xj_ld lv j = some w) (hj : j ≠ i) (hc : j + 1 = i → w.category ≠ 2) : xj_ld (xj_s1 lv i v) j = some w := by
  unfold xj_s1
  have e2 : (i == j) = false := beq_eq_false_iff_ne.mpr (Ne.symm hj)
  have : xj_ld (lv.filter (fun q => !(q.1 == i) && !(q.1 + 1 == i && q.2.category == 2))) j = some w := by
    refine xj_ld_filter lv h ?_
    simp only [Bool.and_eq_true, Bool.not_eq_true', beq_eq_false_iff_ne, Bool.and_eq_false_iff]
    refine ⟨hj, ?_⟩
    by_cases e : j + 1 = i
    · exact Or.inr (hc e)
    · exact Or.inl e
  simp only [xj_ld, List.find?_cons, e2]
  exact this
theorem xj_ld_s1t {lv : xj_L} {i j : Nat} {v w : Value} (h : xj_ld lv j = some w) (hj : j ≠ i) (hc : j + 1 = i → w.category ≠ 2) : xj_ld (xj_s1 lv i v).tail j = some w := by
  have h1 := xj_ld_s1 (v := v) h hj hc
  have e2 : (i == j) = false := beq_eq_false_iff_ne.mpr (Ne.symm hj)
  simp only [xj_s1, xj_ld, List.find?_cons, e2, List.tail_cons] at h1 ⊢
  exact h1
theorem xj_ld_s2 {lv : xj_L} {i j : Nat} {v w : Value} (h : xj_ld lv j = some w) (hj : j ≠ i) (hj2 : j ≠ i + 1) (hc : j + 1 = i → w.category ≠ 2) : xj_ld (xj_s2 lv i v) j = some w := by
  unfold xj_s2
  have e2 : (i == j) = false := beq_eq_false_iff_ne.mpr (Ne.symm hj)
  have : xj_ld (lv.filter (fun q => !(q.1 == i) && (!(q.1 == i + 1) && !(q.1 + 1 == i && q.2.category == 2)))) j = some w := by
    refine xj_ld_filter lv h ?_
    simp only [Bool.and_eq_true, Bool.not_eq_true', beq_eq_false_iff_ne, Bool.and_eq_false_iff]
    refine ⟨hj, hj2, ?_⟩
    by_cases e : j + 1 = i
    · exact Or.inr (hc e)
    · exact Or.inl e
  simp only [xj_ld, List.find?_cons, e2]
  exact this
theorem xj_ld_z1 (lv : xj_L) (i : Nat) (v : Value) : xj_ld (xj_s1 lv i v) i = some v := by
  simp only [xj_s1, xj_ld, List.find?_cons, beq_self_eq_true, Option.map_some]
theorem xj_ld_z2 (lv : xj_L) (i : Nat) (v : Value) : xj_ld (xj_s2 lv i v) i = some v := by
  simp only [xj_s2, xj_ld, List.find?_cons, beq_self_eq_true, Option.map_some]
/-- what is still listed after a kill is not a long just below -/
theorem xl_kill_ok {l : List xa} {i j : Nat} {a : xa} (h : xl_get (xl_kill l i) j = some a) (h9 : a.1 ≠ 9) : xl_get l j = some a ∧ (j + 1 = i → a.1 ≠ 1) := by
  cases i with
  | zero => exact ⟨h, fun q => by omega⟩
  | succ i =>
    have e : xl_kill l (i + 1) = Option.casesOn (motive := fun _ => List xa) (xl_get l i) l (fun a => xif (Nat.beq a.1 1) (xl_set l i (9, 0, 0)) l) := rfl
    rw [e] at h
    cases hg : xl_get l i with
    | none =>
      rw [hg] at h
      refine ⟨h, fun q => ?_⟩
      have : j = i := by omega
      subst this
      rw [hg] at h; cases h
    | some b =>
      rw [hg] at h
      simp only at h
      cases hb : Nat.beq b.1 1 with
      | true =>
        rw [hb, xif_t] at h
        rcases xl_gs _ _ _ _ _ h with ⟨-, rfl⟩ | ⟨h1, h2 | h2⟩
        · exact absurd rfl h9
        · exact absurd h2 h9
        · exact ⟨h2, fun q => absurd (by omega) h1⟩
      | false =>
        rw [hb, xif_f] at h
        refine ⟨h, fun q => ?_⟩
        have : j = i := by omega
        subst this
        rw [hg] at h; cases h
        exact xnbeq hb
theorem xv_cat2 {a : xa} {v : Value} (h : xv a v) (h1 : a.1 ≠ 1) : v.category ≠ 2 := by rw [xv_cat h, if_neg h1]; decide
theorem xlr_s1 {l : List xa} {lv : xj_L} {i : Nat} {a : xa} {v : Value} (h : xlr l lv) (ha : xv a v) : xlr (xl_s1 l i a) (xj_s1 lv i v) := by
  intro j b hb h9
  rcases xl_gs _ _ _ _ _ hb with ⟨rfl, rfl⟩ | ⟨h1, h2 | h2⟩
  · exact ⟨v, xj_ld_z1 _ _ _, ha⟩
  · exact absurd h2 h9
  · obtain ⟨h3, h4⟩ := xl_kill_ok h2 h9
    obtain ⟨w, hw, hbw⟩ := h j b h3 h9
    exact ⟨w, xj_ld_s1 hw h1 (fun q => xv_cat2 hbw (h4 q)), hbw⟩
theorem xlr_h {l : List xa} {lv : xj_L} {i : Nat} (h : xlr l lv) : xlr (xl_set (xl_kill l i) i (9, 0, 0)) (xj_s1 lv i .null).tail := by
  intro j b hb h9
  rcases xl_gs _ _ _ _ _ hb with ⟨rfl, rfl⟩ | ⟨h1, h2 | h2⟩
  · exact absurd rfl h9
  · exact absurd h2 h9
  · obtain ⟨h3, h4⟩ := xl_kill_ok h2 h9
    obtain ⟨w, hw, hbw⟩ := h j b h3 h9
    exact ⟨w, xj_ld_s1t hw h1 (fun q => xv_cat2 hbw (h4 q)), hbw⟩
theorem xlr_s2 {l : List xa} {lv : xj_L} {i : Nat} {a : xa} {v : Value} (h : xlr l lv) (ha : xv a v) : xlr (xl_s2 l i a) (xj_s2 lv i v) := by
  intro j b hb h9
  rcases xl_gs _ _ _ _ _ hb with ⟨rfl, rfl⟩ | ⟨h1, h2 | h2⟩
  · exact ⟨v, xj_ld_z2 _ _ _, ha⟩
  · exact absurd h2 h9
  · rcases xl_gs _ _ _ _ _ h2 with ⟨-, rfl⟩ | ⟨h5, h6 | h6⟩
    · exact absurd rfl h9
    · exact absurd h6 h9
    · obtain ⟨h3, h4⟩ := xl_kill_ok h6 h9
      obtain ⟨w, hw, hbw⟩ := h j b h3 h9
      exact ⟨w, xj_ld_s2 hw h1 h5 (fun q => xv_cat2 hbw (h4 q)), hbw⟩
/-- arguments -/
theorem xl_args_ok : ∀ (as : List xa) (vs : List Value) (k : Nat), xvs as vs → ∀ i a, xl_get (xl_args as) i = some a → a.1 ≠ 9 → ∃ v, xj_ld (lv_args k vs) (k + i) = some v ∧ xv a v := by
  intro as
  induction as with
  | nil => intro vs k h i a ha; cases ha
  | cons b as ih =>
    intro vs k h i a ha h9
    obtain ⟨v, vs, rfl, hv, hvs⟩ := xvs_c h
    have e : xl_args (b :: as) = xif (Nat.beq b.1 1) (b :: (9, 0, 0) :: xl_args as) (b :: xl_args as) := rfl
    rw [e] at ha
    have hcat := xv_cat hv
    cases hb : Nat.beq b.1 1 with
    | true =>
      rw [hb, xif_t] at ha
      have hb := xbeq hb
      rw [if_pos hb] at hcat
      simp only [lv_args, hcat, if_true]
      cases i with
      | zero =>
        cases ha
        exact ⟨v, by simp [xj_ld], hv⟩
      | succ i =>
        cases i with
        | zero => cases ha; exact absurd rfl h9
        | succ i =>
          obtain ⟨w, hw, haw⟩ := ih vs (k + 2) hvs i a ha h9
          refine ⟨w, ?_, haw⟩
          have e2 : (k == k + (i + 1 + 1)) = false := beq_eq_false_iff_ne.mpr (by omega)
          simp only [xj_ld, List.find?_cons, e2]
          rw [show k + (i + 1 + 1) = k + 2 + i by omega]
          exact hw
    | false =>
      rw [hb, xif_f] at ha
      have hb := xnbeq hb
      rw [if_neg hb] at hcat
      simp only [lv_args, hcat, show ¬ (1 : Nat) = 2 by decide, if_false]
      cases i with
      | zero =>
        cases ha
        exact ⟨v, by simp [xj_ld], hv⟩
      | succ i =>
        obtain ⟨w, hw, haw⟩ := ih vs (k + 1) hvs i a ha h9
        refine ⟨w, ?_, haw⟩
        have e2 : (k == k + (i + 1)) = false := beq_eq_false_iff_ne.mpr (by omega)
        simp only [xj_ld, List.find?_cons, e2]
        rw [show k + (i + 1) = k + 1 + i by omega]
        exact hw
theorem xlr_args {as : List xa} {vs : List Value} (h : xvs as vs) : xlr (xl_args as) (lv_args 0 vs) := by
  intro i a ha h9
  obtain ⟨v, h1, h2⟩ := xl_args_ok as vs 0 h i a ha h9
  rw [Nat.zero_add] at h1
  exact ⟨v, h1, h2⟩
theorem xsum_c (a : xa) (as : List xa) : xsum (a :: as) = xif (Nat.beq a.1 1) (Nat.succ (Nat.succ (xsum as))) (Nat.succ (xsum as)) := rfl
theorem xsum_ok : ∀ (as : List xa) (vs : List Value), xvs as vs → (vs.map fun v => v.category).sum = xsum as := by
  intro as
  induction as with
  | nil => intro vs h; rw [xvs_n h]; rfl
  | cons a as ih =>
    intro vs h
    obtain ⟨v, vs, rfl, hv, hvs⟩ := xvs_c h
    simp only [List.map_cons, List.sum_cons]
    rw [ih vs hvs, xsum_c, xv_cat hv]
    cases hb : Nat.beq a.1 1 with
    | true => rw [if_pos (xbeq hb)]; show 2 + xsum as = xsum as + 1 + 1; omega
    | false => rw [if_neg (xnbeq hb)]; show 1 + xsum as = xsum as + 1; omega
theorem lg_sl_len : ∀ vs : List Value, (lg_sl vs).length = (vs.map fun v => v.category).sum ∨ True := fun _ => Or.inr trivial
theorem xsp_ok : ∀ (n : Nat) (acc st as rest : List xa) (ac vs : List Value), xsp n acc st = some (as, rest) → xvs acc ac → xvs st vs → n ≤ vs.length ∧ xvs rest (vs.drop n) ∧ xvs as ((vs.take n).reverse ++ ac) := by
  intro n
  induction n with
  | zero =>
    intro acc st as rest ac vs h ha hs
    cases h
    exact ⟨Nat.zero_le _, by rw [List.drop_zero]; exact hs, by rw [List.take_zero]; exact ha⟩
  | succ n ih =>
    intro acc st as rest ac vs h ha hs
    cases st with
    | nil => cases h
    | cons v r =>
      obtain ⟨w, ws, rfl, hv, hr⟩ := xvs_c hs
      obtain ⟨h1, h2, h3⟩ := ih (v :: acc) r as rest (w :: ac) ws h ⟨hv, ha⟩ hr
      refine ⟨by simp; omega, by rw [List.drop_succ_cons]; exact h2, ?_⟩
      rw [List.take_succ_cons, List.reverse_cons, List.append_assoc]
      exact h3
theorem xvs_get : ∀ (as : List xa) (vs : List Value), xvs as vs → ∀ i a, xl_get as i = some a → ∃ v, vs[i]? = some v ∧ xv a v := by
  intro as
  induction as with
  | nil => intro vs h i a ha; cases ha
  | cons b as ih =>
    intro vs h i a ha
    obtain ⟨v, vs, rfl, hv, hvs⟩ := xvs_c h
    cases i with
    | zero => cases ha; exact ⟨v, rfl, hv⟩
    | succ i =>
      obtain ⟨w, h1, h2⟩ := ih vs hvs i a ha
      exact ⟨w, by simpa using h1, h2⟩
theorem xvs_len : ∀ (as : List xa) (vs : List Value), xvs as vs → as.length = vs.length := by
  intro as
  induction as with
  | nil => intro vs h; rw [xvs_n h]; rfl
  | cons b as ih =>
    intro vs h
    obtain ⟨v, vs, rfl, hv, hvs⟩ := xvs_c h
    simp [ih vs hvs]
theorem xvs_set : ∀ (as : List xa) (vs : List Value) (i : Nat) (a : xa) (v : Value), xvs as vs → i < vs.length → xv a v → xvs (xl_set as i a) (vs.set i v) := by
  intro as
  induction as with
  | nil => intro vs i a v h hi; rw [xvs_n h] at hi; simp at hi
  | cons b as ih =>
    intro vs i a v h hi hv
    obtain ⟨w, vs, rfl, hw, hvs⟩ := xvs_c h
    cases i with
    | zero => exact ⟨hv, hvs⟩
    | succ i => exact ⟨hw, ih vs i a v hvs (by simpa using hi) hv⟩
/-- memory -/
def xcr (c : xcl) (C : xj_C) : Prop := match C with
  | .inl _ => False
  | .inr (.inl q) => c.1 = 1 ∧ c.2.1 = q.1 ∧ c.2.2.1 = q.2.1 ∧ q.2.1 ≤ 131072 ∧ ∀ i, i < q.2.1 → xv (xel c i) (q.2.2 i)
  | .inr (.inr o) => c.1 = 0 ∧ c.2.1 = o.1 ∧ xvs c.2.2.2.2.1 o.2
def xmr (A : xme) (M : xj_M) : Prop := A.2.1 = M.1.length ∧ A.2.2 = M.2 ∧ A.2.1 ≤ 2048 ∧ ∀ i c, i < 2048 → xs_get 11 A.1 i = some c → ∃ C, M.1[i]? = some C ∧ xcr c C
theorem xm_cell_ok {A : xme} {M : xj_M} {a : Nat} {c : xcl} (h : xmr A M) (hc : xm_cell A a = some c) : 64 ≤ a ∧ a - 64 < 2048 ∧ ∃ C, xj_get M a = some C ∧ M.1[a - 64]? = some C ∧ xcr c C := by
  unfold xm_cell at hc
  obtain ⟨h1, hc⟩ := xif_some hc
  obtain ⟨h2, hc⟩ := xif_some hc
  have h1 := xble h1
  have h2 := xblt h2
  obtain ⟨C, h3, h4⟩ := h.2.2.2 (a - 64) c (by omega) hc
  exact ⟨h1, by omega, C, by unfold xj_get; rw [if_neg (by omega)]; exact h3, h3, h4⟩
theorem xm_obj_ok {A : xme} {M : xj_M} {a : Nat} {c : xcl} (h : xmr A M) (hc : xm_cell A a = some c) (h0 : c.1 = 0) : 64 ≤ a ∧ a - 64 < 2048 ∧ ∃ o, xj_obj M a = some o ∧ M.1[a - 64]? = some (.inr (.inr o)) ∧ c.2.1 = o.1 ∧ xvs c.2.2.2.2.1 o.2 := by
  obtain ⟨h1, h2, C, h3, h4, h5⟩ := xm_cell_ok h hc
  unfold xcr at h5
  split at h5
  · exact h5.elim
  · rw [h0] at h5; exact absurd h5.1 (by decide)
  · rename_i o
    exact ⟨h1, h2, o, by unfold xj_obj; rw [h3], h4, h5.2.1, h5.2.2⟩
theorem xm_arr_ok {A : xme} {M : xj_M} {a : Nat} {c : xcl} (h : xmr A M) (hc : xm_cell A a = some c) (h0 : c.1 = 1) : 64 ≤ a ∧ a - 64 < 2048 ∧ ∃ q, xj_arr M a = some q ∧ M.1[a - 64]? = some (.inr (.inl q)) ∧ c.2.1 = q.1 ∧ c.2.2.1 = q.2.1 ∧ q.2.1 ≤ 131072 ∧ ∀ i, i < q.2.1 → xv (xel c i) (q.2.2 i) := by
  obtain ⟨h1, h2, C, h3, h4, h5⟩ := xm_cell_ok h hc
  unfold xcr at h5
  split at h5
  · exact h5.elim
  · rename_i q
    exact ⟨h1, h2, q, by unfold xj_arr; rw [h3], h4, h5.2.1, h5.2.2.1, h5.2.2.2.1, h5.2.2.2.2⟩
  · rw [h0] at h5; exact absurd h5.1 (by decide)
theorem xmr_put {A : xme} {M : xj_M} {a : Nat} {c : xcl} {C C0 : xj_C} (h : xmr A M) (h1 : a - 64 < 2048) (h2 : M.1[a - 64]? = some C0) (hc : xcr c C) : xmr (xm_put A a c) (xj_put M a C) := by
  have hlt := (List.getElem?_eq_some_iff.mp h2).1
  refine ⟨by show A.2.1 = (M.1.set _ _).length; rw [List.length_set]; exact h.1, h.2.1, h.2.2.1, fun i d hi hd => ?_⟩
  have hd : xs_get 11 (xs_set 11 A.1 (a - 64) c) i = some d := hd
  rw [xs_get_set 11 A.1 (a - 64) i c (by omega) (by omega)] at hd
  show ∃ C', (M.1.set (a - 64) C)[i]? = some C' ∧ xcr d C'
  by_cases e : i = a - 64
  · rw [if_pos e] at hd
    cases hd
    exact ⟨C, by rw [e, List.getElem?_set_self hlt], hc⟩
  · rw [if_neg e] at hd
    obtain ⟨C', h3, h4⟩ := h.2.2.2 i d hi hd
    exact ⟨C', by rw [List.getElem?_set_ne (Ne.symm e)]; exact h3, h4⟩
/-- the same cell stays where the new one fits it too -/
theorem xmr_same {A : xme} {M : xj_M} {a : Nat} {C : xj_C} {C0 : xj_C} (h : xmr A M) (h2 : M.1[a - 64]? = some C0) (hc : ∀ c, xcr c C0 → xs_get 11 A.1 (a - 64) = some c → xcr c C) : xmr A (xj_put M a C) := by
  have hlt := (List.getElem?_eq_some_iff.mp h2).1
  refine ⟨by show A.2.1 = (M.1.set _ _).length; rw [List.length_set]; exact h.1, h.2.1, h.2.2.1, fun i d hi hd => ?_⟩
  obtain ⟨C', h3, h4⟩ := h.2.2.2 i d hi hd
  show ∃ C', (M.1.set (a - 64) C)[i]? = some C' ∧ xcr d C'
  by_cases e : i = a - 64
  · subst e
    rw [h2] at h3
    cases h3
    exact ⟨C, by rw [List.getElem?_set_self hlt], hc d h4 hd⟩
  · exact ⟨C', by rw [List.getElem?_set_ne (Ne.symm e)]; exact h3, h4⟩
theorem xm_new_eq (A : xme) (c : xcl) (n : Nat) : xm_new A c n = (xs_set 11 A.1 A.2.1 c, A.2.1 + 1, A.2.2 + n) := by
  unfold xm_new; rw [xg_eq, xg_eq]; rfl
theorem xmr_new {A : xme} {M : xj_M} {c : xcl} {C : xj_C} {n : Nat} (h : xmr A M) (h1 : A.2.1 < 2048) (hc : xcr c C) : xmr (xm_new A c n) (xj_new M C n) := by
  rw [xm_new_eq]
  refine ⟨by show A.2.1 + 1 = (M.1 ++ [C]).length; rw [List.length_append, h.1]; rfl, by show A.2.2 + n = M.2 + n; rw [h.2.1], by show A.2.1 + 1 ≤ 2048; omega, fun i d hi hd => ?_⟩
  have hd : xs_get 11 (xs_set 11 A.1 A.2.1 c) i = some d := hd
  rw [xs_get_set 11 A.1 A.2.1 i c (by omega) (by omega)] at hd
  show ∃ C', (M.1 ++ [C])[i]? = some C' ∧ xcr d C'
  by_cases e : i = A.2.1
  · rw [if_pos e] at hd
    cases hd
    refine ⟨C, ?_, hc⟩
    rw [e, h.1, List.getElem?_append_right (Nat.le_refl _), Nat.sub_self]; rfl
  · rw [if_neg e] at hd
    obtain ⟨C', h3, h4⟩ := h.2.2.2 i d hi hd
    refine ⟨C', ?_, h4⟩
    rw [List.getElem?_append_left (List.getElem?_eq_some_iff.mp h3).1]
    exact h3
theorem xmr_exc {A : xme} {M : xj_M} (h : xmr A M) (h1 : A.2.1 < 2048) : xmr (A.1, Nat.succ A.2.1, Nat.add A.2.2 6) (xj_new M (.inl ()) 6) := by
  refine ⟨by show A.2.1 + 1 = (M.1 ++ [_]).length; rw [List.length_append, h.1]; rfl, by show A.2.2 + 6 = M.2 + 6; rw [h.2.1], by show A.2.1 + 1 ≤ 2048; omega, fun i d hi hd => ?_⟩
  obtain ⟨C', h3, h4⟩ := h.2.2.2 i d hi hd
  refine ⟨C', ?_, h4⟩
  show (M.1 ++ [_])[i]? = _
  rw [List.getElem?_append_left (List.getElem?_eq_some_iff.mp h3).1]
  exact h3
