/-! RULES for runs of the interpreter, read backwards: what must hold behind an instruction holds ahead of it -/
abbrev xZ (a : Int) : Value := .long (Int64.ofInt a)
/-- a reference as a number, 0 for null -/
def xR_ (a : Nat) : Value := if a = 0 then .null else .ref a
-- an int, a long cut to its size
/-- from the state K the method's run ends, and Q holds of its end, however large the measures are -/
def xW (d : Nat) (X : xj_X) (row : xj_mR) (K : xj_K) (Q : xj_R → xj_M → Prop) : Prop :=
  ∃ r M', Q r M' ∧ ∃ n0, ∀ n k, n0 ≤ n → n0 ≤ k → xj_loop (xj_call n d) X row k K = some (r, M')
def xT (d j : Nat) (as : List Value) (M : xj_M) (Q : xj_R → xj_M → Prop) : Prop :=
  ∃ r M', Q r M' ∧ ∃ n0, ∀ n, n0 ≤ n → xj_call n d j as M = some (r, M')
theorem xW.mono {d : Nat} {X : xj_X} {row : xj_mR} {K : xj_K} {Q Q' : xj_R → xj_M → Prop} (h : xW d X row K Q) (hq : ∀ r M', Q r M' → Q' r M') : xW d X row K Q' := by
  obtain ⟨r, M', h1, h2⟩ := h
  exact ⟨r, M', hq _ _ h1, h2⟩
theorem xT.mono {d j : Nat} {as : List Value} {M : xj_M} {Q Q' : xj_R → xj_M → Prop} (h : xT d j as M Q) (hq : ∀ r M', Q r M' → Q' r M') : xT d j as M Q' := by
  obtain ⟨r, M', h1, h2⟩ := h
  exact ⟨r, M', hq _ _ h1, h2⟩
theorem xT_of {d j : Nat} {as : List Value} {M : xj_M} {Q : xj_R → xj_M → Prop} {row : xj_mR} (hr : xj_row j = some row) {X : xj_X} (hX : (xj_tab j, d, none) = X) (hl : (lg_sl as).length ≤ row.2.2.2.1) {lv : xj_L} (hv : lv_args 0 as = lv) (h : xW d X row (0, lv, [], M) Q) : xT (d + 1) j as M Q := by
  subst hX
  subst hv
  obtain ⟨r, M', hq, n0, hn⟩ := h
  refine ⟨r, M', hq, n0, fun n h1 => ?_⟩
  show (match xj_row j with
    | some row => if (lg_sl as).length ≤ row.2.2.2.1 then xj_loop (xj_call n d) (xj_tab j, d, none) row n (0, lv_args 0 as, [], M) else none
    | none => none) = _
  rw [hr]
  simp only
  rw [if_pos hl]
  exact hn n n h1 h1
section
variable {d : Nat} {X : xj_X} {row : xj_mR} {K K2 : xj_K} {Q : xj_R → xj_M → Prop}
theorem xW_go (hs : ∀ n, xj_step (xj_call n d) X row K = some (.inl K2)) (h : xW d X row K2 Q) : xW d X row K Q := by
  obtain ⟨r, M', hq, n0, hn⟩ := h
  refine ⟨r, M', hq, n0 + 1, fun n k h1 h2 => ?_⟩
  obtain ⟨k', rfl⟩ : ∃ k', k = k' + 1 := ⟨k - 1, by omega⟩
  show (match xj_step (xj_call n d) X row K with
    | some (.inl K2) => xj_loop (xj_call n d) X row k' K2
    | some (.inr r) => some r
    | none => none) = _
  rw [hs n]
  exact hn n k' (by omega) (by omega)
theorem xW_end {r : xj_R} {M' : xj_M} (hs : ∀ n, xj_step (xj_call n d) X row K = some (.inr (r, M'))) (hq : Q r M') : xW d X row K Q := by
  refine ⟨r, M', hq, 1, fun n k h1 h2 => ?_⟩
  obtain ⟨k', rfl⟩ : ∃ k', k = k' + 1 := ⟨k - 1, by omega⟩
  show (match xj_step (xj_call n d) X row K with
    | some (.inl K2) => xj_loop (xj_call n d) X row k' K2
    | some (.inr r) => some r
    | none => none) = _
  rw [hs n]
theorem xW_call {j : Nat} {as : List Value} {M : xj_M} {nt : Bool} {pc : Nat} {lv : xj_L} {rest : List Value}
    (hs : ∀ n, xj_step (xj_call n d) X row K = xj_out X row nt pc lv rest (xj_call n d j as M))
    (h : xT d j as M (fun r M1 => ∃ v, r = .inl v ∧ xW d X row (pc + 3, lv, v.toList ++ rest, M1) Q)) : xW d X row K Q := by
  obtain ⟨r1, M1, ⟨v, rfl, r, M', hq, n0, hn⟩, n1, h1⟩ := h
  refine ⟨r, M', hq, n0 + n1 + 1, fun n k h2 h3 => ?_⟩
  obtain ⟨k', rfl⟩ : ∃ k', k = k' + 1 := ⟨k - 1, by omega⟩
  show (match xj_step (xj_call n d) X row K with
    | some (.inl K2) => xj_loop (xj_call n d) X row k' K2
    | some (.inr r) => some r
    | none => none) = _
  rw [hs n, h1 n (by omega)]
  exact hn n k' (by omega) (by omega)
end
section
variable {d : Nat} {X : xj_X} {row : xj_mR} {pc nx len : Nat} {lv lv' : xj_L} {st st' : List Value} {M : xj_M} {ins : Instr} {Q : xj_R → xj_M → Prop}
/-- the operand stack alone -/
theorem xe_pure (hd : decode row.2.2.1 pc = .ok (ins, len)) (hl : xj_lenok ins len = true) (h : xj_pure ins st = some st') (hn : pc + len = nx) (k : xW d X row (nx, lv, st', M) Q) : xW d X row (pc, lv, st, M) Q :=
  xW_go (fun _ => xk_pure hd hl h) (hn ▸ k)
theorem xe_loc {q : xj_L × List Value} (hd : decode row.2.2.1 pc = .ok (ins, len)) (hl : xj_lenok ins len = true) (h0 : xj_pure ins st = none) (h : xj_loc row.2.2.2.1 ins lv st = some q) (h1 : q.1 = lv') (h2 : q.2 = st') (hn : pc + len = nx) (k : xW d X row (nx, lv', st', M) Q) : xW d X row (pc, lv, st, M) Q := by
  subst h1
  subst h2
  exact xW_go (fun _ => xk_loc hd hl h0 h) (hn ▸ k)
theorem xe_ct (hd : decode row.2.2.1 pc = .ok (ins, len)) (hl : xj_lenok ins len = true) (h0 : xj_pure ins st = none) (h1 : xj_loc row.2.2.2.1 ins lv st = none) (h2 : xj_jmp ins st = none) (h : xj_ct row.1 ins st = some st') (hn : pc + len = nx) (k : xW d X row (nx, lv, st', M) Q) : xW d X row (pc, lv, st, M) Q :=
  xW_go (fun _ => xk_ct hd hl h0 h1 h2 h) (hn ▸ k)
/-- two ints -/
theorem xe_iadd {a b : Int} (hd : decode row.2.2.1 pc = .ok (.iadd, 1)) (hn : pc + 1 = nx) (k : xW d X row (nx, lv, xI (xwr (a + b)) :: st, M) Q) : xW d X row (pc, lv, xI b :: xI a :: st, M) Q :=
  xe_pure (st' := xI (xwr (a + b)) :: st) hd rfl (by simp only [xj_pure, xj_i2, xI, xwr, Int32.ofInt_toInt, Int32.ofInt_add]) hn k
theorem xe_isub {a b : Int} (hd : decode row.2.2.1 pc = .ok (.isub, 1)) (hn : pc + 1 = nx) (k : xW d X row (nx, lv, xI (xwr (a - b)) :: st, M) Q) : xW d X row (pc, lv, xI b :: xI a :: st, M) Q :=
  xe_pure (st' := xI (xwr (a - b)) :: st) hd rfl (by simp only [xj_pure, xj_i2, xI, xwr, Int32.ofInt_toInt, Int32.ofInt_sub]) hn k
theorem xe_imul {a b : Int} (hd : decode row.2.2.1 pc = .ok (.imul, 1)) (hn : pc + 1 = nx) (k : xW d X row (nx, lv, xI (xwr (a * b)) :: st, M) Q) : xW d X row (pc, lv, xI b :: xI a :: st, M) Q :=
  xe_pure (st' := xI (xwr (a * b)) :: st) hd rfl (by simp only [xj_pure, xj_i2, xI, xwr, Int32.ofInt_toInt, Int32.ofInt_mul]) hn k
theorem xe_ladd {a b : Int} (hd : decode row.2.2.1 pc = .ok (.ladd, 1)) (hn : pc + 1 = nx) (k : xW d X row (nx, lv, xZ (xwl (a + b)) :: st, M) Q) : xW d X row (pc, lv, xZ b :: xZ a :: st, M) Q :=
  xe_pure (st' := xZ (xwl (a + b)) :: st) hd rfl (by simp only [xj_pure, xj_l2, xZ, xwl, Int64.ofInt_toInt, Int64.ofInt_add]) hn k
theorem xe_lsub {a b : Int} (hd : decode row.2.2.1 pc = .ok (.lsub, 1)) (hn : pc + 1 = nx) (k : xW d X row (nx, lv, xZ (xwl (a - b)) :: st, M) Q) : xW d X row (pc, lv, xZ b :: xZ a :: st, M) Q :=
  xe_pure (st' := xZ (xwl (a - b)) :: st) hd rfl (by simp only [xj_pure, xj_l2, xZ, xwl, Int64.ofInt_toInt, Int64.ofInt_sub]) hn k
theorem xe_lmul {a b : Int} (hd : decode row.2.2.1 pc = .ok (.lmul, 1)) (hn : pc + 1 = nx) (k : xW d X row (nx, lv, xZ (xwl (a * b)) :: st, M) Q) : xW d X row (pc, lv, xZ b :: xZ a :: st, M) Q :=
  xe_pure (st' := xZ (xwl (a * b)) :: st) hd rfl (by simp only [xj_pure, xj_l2, xZ, xwl, Int64.ofInt_toInt, Int64.ofInt_mul]) hn k
/-- within an int, a long -/
abbrev xin (a : Int) : Prop := -2147483648 ≤ a ∧ a < 2147483648
abbrev xiN (a : Int) : Prop := -9223372036854775808 ≤ a ∧ a < 9223372036854775808
theorem xin_to {a : Int} (h : xin a) : (Int32.ofInt a).toInt = a := by
  rw [Int32.toInt_ofInt, show (Int32.size : Nat) = 4294967296 from rfl]
  rw [Int.bmod_eq_of_le (by omega) (by omega)]
theorem xiN_to {a : Int} (h : xiN a) : (Int64.ofInt a).toInt = a := by
  rw [Int64.toInt_ofInt, show (Int64.size : Nat) = 18446744073709551616 from rfl]
  rw [Int.bmod_eq_of_le (by omega) (by omega)]
theorem xin_lt {a b : Int} (ha : xin a) (hb : xin b) : (Int32.ofInt a < Int32.ofInt b) ↔ a < b := by
  rw [Int32.lt_iff_toInt_lt, xin_to ha, xin_to hb]
theorem xin_le {a b : Int} (ha : xin a) (hb : xin b) : (Int32.ofInt a ≤ Int32.ofInt b) ↔ a ≤ b := by
  rw [Int32.le_iff_toInt_le, xin_to ha, xin_to hb]
theorem xin_eq {a b : Int} (ha : xin a) (hb : xin b) : (Int32.ofInt a = Int32.ofInt b) ↔ a = b := by
  rw [← Int32.toInt_inj, xin_to ha, xin_to hb]
theorem xiN_lt {a b : Int} (ha : xiN a) (hb : xiN b) : (Int64.ofInt a < Int64.ofInt b) ↔ a < b := by
  rw [Int64.lt_iff_toInt_lt, xiN_to ha, xiN_to hb]
theorem xiN_eq {a b : Int} (ha : xiN a) (hb : xiN b) : (Int64.ofInt a = Int64.ofInt b) ↔ a = b := by
  rw [← Int64.toInt_inj, xiN_to ha, xiN_to hb]
theorem xe_goto {off : Int} (hd : decode row.2.2.1 pc = .ok (.goto off, 3)) (ht : xj_tg pc off = some nx) (k : xW d X row (nx, lv, st, M) Q) : xW d X row (pc, lv, st, M) Q :=
  xW_go (fun _ => xk_jmp hd rfl rfl rfl (q := ((off, true), st)) rfl (by unfold xj_J; simp only [ht]; rfl)) k
theorem xe_if2 {f : Int32 → Int32 → Bool} {off a b : Int} {t : Nat} {p : Prop} (hd : decode row.2.2.1 pc = .ok (ins, 3)) (hl : xj_lenok ins 3 = true) (h0 : ∀ st, xj_pure ins st = none) (h1 : ∀ st, xj_loc row.2.2.2.1 ins lv st = none) (hj : ∀ st, xj_jmp ins st = xj_z2 f off st) (hf : f (Int32.ofInt a) (Int32.ofInt b) = true ↔ p) (ht : xj_tg pc off = some t) (hn : pc + 3 = nx)
    (k1 : p → xW d X row (t, lv, st, M) Q) (k2 : ¬ p → xW d X row (nx, lv, st, M) Q) : xW d X row (pc, lv, xI b :: xI a :: st, M) Q := by
  subst hn
  by_cases hp : p
  · have hv := hf.mpr hp
    refine xW_go (fun _ => xk_jmp hd hl (h0 _) (h1 _) (q := ((off, true), st)) ?_ ?_) (k1 hp)
    · rw [hj]
      show some ((off, f (Int32.ofInt a) (Int32.ofInt b)), st) = _
      rw [hv]
    · unfold xj_J
      simp only [ht]
      rfl
  · have hv : f (Int32.ofInt a) (Int32.ofInt b) = false := by
      cases e : f (Int32.ofInt a) (Int32.ofInt b) with
      | false => rfl
      | true => exact absurd (hf.mp e) hp
    refine xW_go (fun _ => xk_jmp hd hl (h0 _) (h1 _) (q := ((off, false), st)) ?_ ?_) (k2 hp)
    · rw [hj]
      show some ((off, f (Int32.ofInt a) (Int32.ofInt b)), st) = _
      rw [hv]
    · unfold xj_J
      simp only [ht]
      rfl
theorem xe_if1 {f : Int32 → Bool} {off a : Int} {t : Nat} {p : Prop} (hd : decode row.2.2.1 pc = .ok (ins, 3)) (hl : xj_lenok ins 3 = true) (h0 : ∀ st, xj_pure ins st = none) (h1 : ∀ st, xj_loc row.2.2.2.1 ins lv st = none) (hj : ∀ st, xj_jmp ins st = xj_z1 f off st) (hf : f (Int32.ofInt a) = true ↔ p) (ht : xj_tg pc off = some t) (hn : pc + 3 = nx)
    (k1 : p → xW d X row (t, lv, st, M) Q) (k2 : ¬ p → xW d X row (nx, lv, st, M) Q) : xW d X row (pc, lv, xI a :: st, M) Q := by
  subst hn
  by_cases hp : p
  · have hv := hf.mpr hp
    refine xW_go (fun _ => xk_jmp hd hl (h0 _) (h1 _) (q := ((off, true), st)) ?_ ?_) (k1 hp)
    · rw [hj]
      show some ((off, f (Int32.ofInt a)), st) = _
      rw [hv]
    · unfold xj_J
      simp only [ht]
      rfl
  · have hv : f (Int32.ofInt a) = false := by
      cases e : f (Int32.ofInt a) with
      | false => rfl
      | true => exact absurd (hf.mp e) hp
    refine xW_go (fun _ => xk_jmp hd hl (h0 _) (h1 _) (q := ((off, false), st)) ?_ ?_) (k2 hp)
    · rw [hj]
      show some ((off, f (Int32.ofInt a)), st) = _
      rw [hv]
    · unfold xj_J
      simp only [ht]
      rfl
theorem xe_icmpeq {off a b : Int} {t : Nat} (hd : decode row.2.2.1 pc = .ok (.if_icmp .eq off, 3)) (ht : xj_tg pc off = some t) (hn : pc + 3 = nx) (ha : xin a) (hb : xin b) (k1 : a = b → xW d X row (t, lv, st, M) Q) (k2 : ¬ (a = b) → xW d X row (nx, lv, st, M) Q) : xW d X row (pc, lv, xI b :: xI a :: st, M) Q :=
  xe_if2 (f := fun x y => decide (x = y)) hd rfl (fun _ => rfl) (fun _ => rfl) (fun _ => rfl) (by rw [decide_eq_true_iff]; exact xin_eq ha hb) ht hn k1 k2
theorem xe_icmpne {off a b : Int} {t : Nat} (hd : decode row.2.2.1 pc = .ok (.if_icmp .ne off, 3)) (ht : xj_tg pc off = some t) (hn : pc + 3 = nx) (ha : xin a) (hb : xin b) (k1 : ¬ a = b → xW d X row (t, lv, st, M) Q) (k2 : ¬ (¬ a = b) → xW d X row (nx, lv, st, M) Q) : xW d X row (pc, lv, xI b :: xI a :: st, M) Q :=
  xe_if2 (f := fun x y => decide (¬ x = y)) hd rfl (fun _ => rfl) (fun _ => rfl) (fun _ => rfl) (by rw [decide_eq_true_iff]; exact not_congr (xin_eq ha hb)) ht hn k1 k2
theorem xe_icmplt {off a b : Int} {t : Nat} (hd : decode row.2.2.1 pc = .ok (.if_icmp .lt off, 3)) (ht : xj_tg pc off = some t) (hn : pc + 3 = nx) (ha : xin a) (hb : xin b) (k1 : a < b → xW d X row (t, lv, st, M) Q) (k2 : ¬ (a < b) → xW d X row (nx, lv, st, M) Q) : xW d X row (pc, lv, xI b :: xI a :: st, M) Q :=
  xe_if2 (f := fun x y => decide (x < y)) hd rfl (fun _ => rfl) (fun _ => rfl) (fun _ => rfl) (by rw [decide_eq_true_iff]; exact xin_lt ha hb) ht hn k1 k2
theorem xe_icmpge {off a b : Int} {t : Nat} (hd : decode row.2.2.1 pc = .ok (.if_icmp .ge off, 3)) (ht : xj_tg pc off = some t) (hn : pc + 3 = nx) (ha : xin a) (hb : xin b) (k1 : b ≤ a → xW d X row (t, lv, st, M) Q) (k2 : ¬ (b ≤ a) → xW d X row (nx, lv, st, M) Q) : xW d X row (pc, lv, xI b :: xI a :: st, M) Q :=
  xe_if2 (f := fun x y => decide (y ≤ x)) hd rfl (fun _ => rfl) (fun _ => rfl) (fun _ => rfl) (by rw [decide_eq_true_iff]; exact xin_le hb ha) ht hn k1 k2
theorem xe_icmpgt {off a b : Int} {t : Nat} (hd : decode row.2.2.1 pc = .ok (.if_icmp .gt off, 3)) (ht : xj_tg pc off = some t) (hn : pc + 3 = nx) (ha : xin a) (hb : xin b) (k1 : b < a → xW d X row (t, lv, st, M) Q) (k2 : ¬ (b < a) → xW d X row (nx, lv, st, M) Q) : xW d X row (pc, lv, xI b :: xI a :: st, M) Q :=
  xe_if2 (f := fun x y => decide (y < x)) hd rfl (fun _ => rfl) (fun _ => rfl) (fun _ => rfl) (by rw [decide_eq_true_iff]; exact xin_lt hb ha) ht hn k1 k2
theorem xe_icmple {off a b : Int} {t : Nat} (hd : decode row.2.2.1 pc = .ok (.if_icmp .le off, 3)) (ht : xj_tg pc off = some t) (hn : pc + 3 = nx) (ha : xin a) (hb : xin b) (k1 : a ≤ b → xW d X row (t, lv, st, M) Q) (k2 : ¬ (a ≤ b) → xW d X row (nx, lv, st, M) Q) : xW d X row (pc, lv, xI b :: xI a :: st, M) Q :=
  xe_if2 (f := fun x y => decide (x ≤ y)) hd rfl (fun _ => rfl) (fun _ => rfl) (fun _ => rfl) (by rw [decide_eq_true_iff]; exact xin_le ha hb) ht hn k1 k2
theorem xin_0 : xin 0 := by unfold xin; omega
theorem xe_ifeq {off a : Int} {t : Nat} (hd : decode row.2.2.1 pc = .ok (.ifCond .eq off, 3)) (ht : xj_tg pc off = some t) (hn : pc + 3 = nx) (ha : xin a) (k1 : a = 0 → xW d X row (t, lv, st, M) Q) (k2 : ¬ (a = 0) → xW d X row (nx, lv, st, M) Q) : xW d X row (pc, lv, xI a :: st, M) Q :=
  xe_if1 (f := fun x => decide (x = 0)) hd rfl (fun _ => rfl) (fun _ => rfl) (fun _ => rfl) (by rw [decide_eq_true_iff]; exact xin_eq ha xin_0) ht hn k1 k2
theorem xe_ifne {off a : Int} {t : Nat} (hd : decode row.2.2.1 pc = .ok (.ifCond .ne off, 3)) (ht : xj_tg pc off = some t) (hn : pc + 3 = nx) (ha : xin a) (k1 : ¬ a = 0 → xW d X row (t, lv, st, M) Q) (k2 : ¬ (¬ a = 0) → xW d X row (nx, lv, st, M) Q) : xW d X row (pc, lv, xI a :: st, M) Q :=
  xe_if1 (f := fun x => decide (¬ x = 0)) hd rfl (fun _ => rfl) (fun _ => rfl) (fun _ => rfl) (by rw [decide_eq_true_iff]; exact not_congr (xin_eq ha xin_0)) ht hn k1 k2
theorem xe_iflt {off a : Int} {t : Nat} (hd : decode row.2.2.1 pc = .ok (.ifCond .lt off, 3)) (ht : xj_tg pc off = some t) (hn : pc + 3 = nx) (ha : xin a) (k1 : a < 0 → xW d X row (t, lv, st, M) Q) (k2 : ¬ (a < 0) → xW d X row (nx, lv, st, M) Q) : xW d X row (pc, lv, xI a :: st, M) Q :=
  xe_if1 (f := fun x => decide (x < 0)) hd rfl (fun _ => rfl) (fun _ => rfl) (fun _ => rfl) (by rw [decide_eq_true_iff]; exact xin_lt ha xin_0) ht hn k1 k2
theorem xe_ifge {off a : Int} {t : Nat} (hd : decode row.2.2.1 pc = .ok (.ifCond .ge off, 3)) (ht : xj_tg pc off = some t) (hn : pc + 3 = nx) (ha : xin a) (k1 : 0 ≤ a → xW d X row (t, lv, st, M) Q) (k2 : ¬ (0 ≤ a) → xW d X row (nx, lv, st, M) Q) : xW d X row (pc, lv, xI a :: st, M) Q :=
  xe_if1 (f := fun x => decide (0 ≤ x)) hd rfl (fun _ => rfl) (fun _ => rfl) (fun _ => rfl) (by rw [decide_eq_true_iff]; exact xin_le xin_0 ha) ht hn k1 k2
theorem xe_ifgt {off a : Int} {t : Nat} (hd : decode row.2.2.1 pc = .ok (.ifCond .gt off, 3)) (ht : xj_tg pc off = some t) (hn : pc + 3 = nx) (ha : xin a) (k1 : 0 < a → xW d X row (t, lv, st, M) Q) (k2 : ¬ (0 < a) → xW d X row (nx, lv, st, M) Q) : xW d X row (pc, lv, xI a :: st, M) Q :=
  xe_if1 (f := fun x => decide (0 < x)) hd rfl (fun _ => rfl) (fun _ => rfl) (fun _ => rfl) (by rw [decide_eq_true_iff]; exact xin_lt xin_0 ha) ht hn k1 k2
theorem xe_ifle {off a : Int} {t : Nat} (hd : decode row.2.2.1 pc = .ok (.ifCond .le off, 3)) (ht : xj_tg pc off = some t) (hn : pc + 3 = nx) (ha : xin a) (k1 : a ≤ 0 → xW d X row (t, lv, st, M) Q) (k2 : ¬ (a ≤ 0) → xW d X row (nx, lv, st, M) Q) : xW d X row (pc, lv, xI a :: st, M) Q :=
  xe_if1 (f := fun x => decide (x ≤ 0)) hd rfl (fun _ => rfl) (fun _ => rfl) (fun _ => rfl) (by rw [decide_eq_true_iff]; exact xin_le ha xin_0) ht hn k1 k2
/-- what a method gives back -/
theorem xe_ret_v (hd : decode row.2.2.1 pc = .ok (.return_, 1)) (hr : row.2.2.2.2.1 = none) (hq : Q (.inl none) M) : xW d X row (pc, lv, [], M) Q :=
  xW_end (fun _ => xk_ret hd rfl rfl rfl rfl rfl rfl (by cases X.2.2 <;> rfl) rfl rfl (by rw [hr]; rfl)) hq
theorem xe_ret_i {a : Int} {ty : FieldType} (hd : decode row.2.2.1 pc = .ok (.ireturn, 1)) (hr : row.2.2.2.2.1 = some ty) (ht : narrow ty (xI a) = xI a) (hq : Q (.inl (some (xI a))) M) : xW d X row (pc, lv, [xI a], M) Q :=
  xW_end (fun _ => xk_ret hd rfl rfl rfl rfl rfl rfl (by cases X.2.2 <;> rfl) rfl rfl (by rw [hr]; show (if narrow ty (xI a) = xI a then some (some (xI a)) else none) = _; rw [if_pos ht])) hq
theorem xe_ret_l {a : Int} (hd : decode row.2.2.1 pc = .ok (.lreturn, 1)) (hr : row.2.2.2.2.1 = some .long) (hq : Q (.inl (some (xZ a))) M) : xW d X row (pc, lv, [xZ a], M) Q :=
  xW_end (fun _ => xk_ret hd rfl rfl rfl rfl rfl rfl (by cases X.2.2 <;> rfl) rfl rfl (by rw [hr]; rfl)) hq
theorem xe_ret_r {a : Nat} {ty : FieldType} (hd : decode row.2.2.1 pc = .ok (.areturn, 1)) (hr : row.2.2.2.2.1 = some ty) (ht : xj_isref ty = true) (hq : Q (.inl (some (xR_ a))) M) : xW d X row (pc, lv, [xR_ a], M) Q := by
  refine xW_end (fun _ => xk_ret hd rfl rfl rfl rfl rfl rfl (by cases X.2.2 <;> rfl) rfl rfl ?_) hq
  rw [hr]
  show xj_areturn ty [xR_ a] = _
  unfold xR_
  split
  · show (if xj_isref ty = true then some (some Value.null) else none) = _
    rw [if_pos ht]
  · show (if xj_isref ty = true then some (some (Value.ref a)) else none) = _
    rw [if_pos ht]
end
theorem xin_of (x : Int32) : xin x.toInt := ⟨Int32.le_toInt x, Int32.toInt_lt x⟩
theorem xiN_of (x : Int64) : xiN x.toInt := ⟨Int64.le_toInt x, Int64.toInt_lt x⟩
theorem xin_wr (a : Int) : xin (xwr a) := xin_of _
theorem xiN_wl (a : Int) : xiN (xwl a) := xiN_of _
theorem xwr_id {a : Int} (h : xin a) : xwr a = a := xin_to h
theorem xwl_id {a : Int} (h : xiN a) : xwl a = a := xiN_to h
theorem xI_toInt (x : Int32) : xI x.toInt = .int x := by simp only [xI, Int32.ofInt_toInt]
theorem xZ_toInt (x : Int64) : xZ x.toInt = .long x := by simp only [xZ, Int64.ofInt_toInt]
theorem xR_ref {a : Nat} (h : 64 ≤ a) : xR_ a = .ref a := by unfold xR_; rw [if_neg (by omega)]
theorem xR_0 : xR_ 0 = .null := rfl
