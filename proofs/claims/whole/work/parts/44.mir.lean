/-! Locals that hold references; what a mirror's rows need beside -/
theorem xR_cat (a : Nat) : (xR_ a).category = 1 := by unfold xR_; split <;> rfl
theorem xI_cat (a : Int) : (xI a).category = 1 := rfl
theorem xZ_cat (a : Int) : (xZ a).category = 2 := rfl
theorem xin_N {a : Int} (h : xin a) : xiN a := ⟨by omega, by omega⟩
theorem xbool {a : Int} (h : a = 0 ∨ a = 1) : narrow .boolean (xI a) = xI a := by rcases h with rfl | rfl <;> decide
def xkp (i : Nat) (l l' : xj_L) : Prop := l.filter (fun q => !(q.1 == i) && !(q.1 + 1 == i && q.2.category == 2)) = l'
theorem xk_n {i : Nat} : xkp i [] [] := rfl
theorem xk_k {i : Nat} {q : Nat × Value} {l l' : xj_L} (h1 : ¬ q.1 = i) (h2 : ¬ (q.1 + 1 = i) ∨ q.2.category = 1) (h : xkp i l l') : xkp i (q :: l) (q :: l') := by
  unfold xkp at h ⊢
  rw [List.filter_cons, h, if_pos]
  rcases h2 with e | e <;> simp [h1, e]
theorem xk_d {i : Nat} {q : Nat × Value} {l l' : xj_L} (h1 : q.1 = i) (h : xkp i l l') : xkp i (q :: l) l' := by
  unfold xkp at h ⊢
  rw [List.filter_cons, h, if_neg]
  simp [h1]
theorem xk_z {i : Nat} {q : Nat × Value} {l l' : xj_L} (h1 : q.1 + 1 = i) (h2 : q.2.category = 2) (h : xkp i l l') : xkp i (q :: l) l' := by
  unfold xkp at h ⊢
  rw [List.filter_cons, h, if_neg]
  simp [h1, h2]
def xkp2 (i : Nat) (l l' : xj_L) : Prop := l.filter (fun q => !(q.1 == i) && (!(q.1 == i + 1) && !(q.1 + 1 == i && q.2.category == 2))) = l'
theorem xk2_n {i : Nat} : xkp2 i [] [] := rfl
theorem xk2_k {i : Nat} {q : Nat × Value} {l l' : xj_L} (h1 : ¬ q.1 = i) (h3 : ¬ q.1 = i + 1) (h2 : ¬ (q.1 + 1 = i) ∨ q.2.category = 1) (h : xkp2 i l l') : xkp2 i (q :: l) (q :: l') := by
  unfold xkp2 at h ⊢
  rw [List.filter_cons, h, if_pos]
  rcases h2 with e | e <;> simp [h1, h3, e]
theorem xk2_d {i : Nat} {q : Nat × Value} {l l' : xj_L} (h1 : q.1 = i ∨ q.1 = i + 1) (h : xkp2 i l l') : xkp2 i (q :: l) l' := by
  unfold xkp2 at h ⊢
  rw [List.filter_cons, h, if_neg]
  rcases h1 with e | e <;> simp [e]
theorem xk2_z {i : Nat} {q : Nat × Value} {l l' : xj_L} (h1 : q.1 + 1 = i) (h2 : q.2.category = 2) (h : xkp2 i l l') : xkp2 i (q :: l) l' := by
  unfold xkp2 at h ⊢
  rw [List.filter_cons, h, if_neg]
  simp [h1, h2]
/-- arguments as locals -/
def xarg (i : Nat) (as : List Value) (lv : xj_L) (n : Nat) : Prop := lv_args i as = lv ∧ (lg_sl as).length = n
theorem xa_n {i : Nat} : xarg i [] [] 0 := ⟨rfl, rfl⟩
theorem xa_1 {i n : Nat} {v : Value} {vs : List Value} {l : xj_L} (h : v.category = 1) (t : xarg (i + 1) vs l n) : xarg i (v :: vs) ((i, v) :: l) (n + 1) := by
  refine ⟨?_, ?_⟩
  · show (i, v) :: lv_args (if v.category = 2 then i + 2 else i + 1) vs = _
    rw [if_neg (by omega), t.1]
  · rw [← t.2]
    unfold lg_sl
    rw [List.flatMap_cons, if_neg (by omega), List.length_append]
    simp only [List.length_cons, List.length_nil]
    omega
theorem xa_2 {i n : Nat} {v : Value} {vs : List Value} {l : xj_L} (h : v.category = 2) (t : xarg (i + 2) vs l n) : xarg i (v :: vs) ((i, v) :: l) (n + 2) := by
  refine ⟨?_, ?_⟩
  · show (i, v) :: lv_args (if v.category = 2 then i + 2 else i + 1) vs = _
    rw [if_pos h, t.1]
  · rw [← t.2]
    unfold lg_sl
    rw [List.flatMap_cons, if_pos h, List.length_append]
    simp only [List.length_cons, List.length_nil]
    omega
theorem xT_m {d j n : Nat} {as : List Value} {M : xj_M} {Q : xj_R → xj_M → Prop} {row : xj_mR} (hr : xj_row j = some row) {X : xj_X} (hX : (xj_tab j, d, none) = X) {lv : xj_L} (ha : xarg 0 as lv n) (hl : n ≤ row.2.2.2.1) (h : xW d X row (0, lv, [], M) Q) : xT (d + 1) j as M Q :=
  xT_of hr hX (by rw [ha.2]; exact hl) ha.1 h
def xsbl : xj_L → xj_L → Prop
  | [], _ => True
  | q :: t, l => xj_ld l q.1 = some q.2 ∧ xsbl t l
theorem xsb_of {l l' : xj_L} (h : xsbl l l') (hn : (l'.map (fun q => q.1)).Nodup) : xsb l l' := by
  refine ⟨?_, hn⟩
  induction l with
  | nil => intro q hq; cases hq
  | cons a t ih =>
    intro q hq
    rcases List.mem_cons.mp hq with e | e
    · rw [e]
      exact xld_mem h.1
    · exact ih h.2 q e
theorem xcmp8_eq {a b : Int} : xcmp8 a b = 0 ↔ a = b := by unfold xcmp8; split <;> rename_i h; omega; split <;> omega
theorem xcmp8_ne {a b : Int} : ¬ xcmp8 a b = 0 ↔ ¬ a = b := not_congr xcmp8_eq
theorem xcmp8_lt {a b : Int} : xcmp8 a b < 0 ↔ a < b := by unfold xcmp8; split <;> rename_i h; omega; split <;> omega
theorem xcmp8_ge {a b : Int} : 0 ≤ xcmp8 a b ↔ b ≤ a := by unfold xcmp8; split <;> rename_i h; omega; split <;> omega
theorem xcmp8_gt {a b : Int} : 0 < xcmp8 a b ↔ b < a := by unfold xcmp8; split <;> rename_i h; omega; split <;> omega
theorem xcmp8_le {a b : Int} : xcmp8 a b ≤ 0 ↔ a ≤ b := by unfold xcmp8; split <;> rename_i h; omega; split <;> omega
section
variable {d : Nat} {X : xj_X} {row : xj_mR} {pc nx len i : Nat} {lv l2 : xj_L} {st : List Value} {M : xj_M} {Q : xj_R → xj_M → Prop} {ins : Instr}
theorem xe_alr {a : Nat} (hd : decode row.2.2.1 pc = .ok (ins, len)) (hl : xj_lenok ins len = true) (h0 : xj_pure ins st = none) (h1 : xj_loc row.2.2.2.1 ins lv st = xj_lda lv i st) (h : xj_ld lv i = some (xR_ a)) (hn : pc + len = nx) (k : xW d X row (nx, lv, xR_ a :: st, M) Q) : xW d X row (pc, lv, st, M) Q := by
  refine xe_loc (q := (lv, xR_ a :: st)) hd hl h0 ?_ rfl rfl hn k
  rw [h1]
  unfold xj_lda
  rw [h]
  by_cases e : a = 0
  · subst e; rfl
  · have e2 : xR_ a = Value.ref a := by unfold xR_; rw [if_neg e]
    rw [e2]
theorem xe_asr {a : Nat} (hd : decode row.2.2.1 pc = .ok (ins, len)) (hl : xj_lenok ins len = true) (h0 : xj_pure ins (xR_ a :: st) = none) (h1 : xj_loc row.2.2.2.1 ins lv (xR_ a :: st) = xj_sta row.2.2.2.1 lv i (xR_ a :: st)) (hi : i < row.2.2.2.1) (hk : xkp i lv l2) (hn : pc + len = nx) (k : xW d X row (nx, (i, xR_ a) :: l2, st, M) Q) : xW d X row (pc, lv, xR_ a :: st, M) Q := by
  refine xe_loc (q := ((i, xR_ a) :: l2, st)) hd hl h0 ?_ rfl rfl hn k
  rw [h1]
  by_cases e : a = 0
  · subst e
    show (if i < row.2.2.2.1 then some ((i, Value.null) :: lv.filter _, st) else none) = _
    rw [if_pos hi]
    unfold xkp at hk
    rw [hk]
    rfl
  · have e2 : xR_ a = Value.ref a := by unfold xR_; rw [if_neg e]
    rw [e2]
    show (if i < row.2.2.2.1 then some ((i, Value.ref a) :: lv.filter _, st) else none) = _
    rw [if_pos hi]
    unfold xkp at hk
    rw [hk]
theorem xe_isr {a : Int} (hd : decode row.2.2.1 pc = .ok (ins, len)) (hl : xj_lenok ins len = true) (h0 : xj_pure ins (xI a :: st) = none) (h1 : xj_loc row.2.2.2.1 ins lv (xI a :: st) = xj_sti row.2.2.2.1 lv i (xI a :: st)) (hi : i < row.2.2.2.1) (hk : xkp i lv l2) (hn : pc + len = nx) (k : xW d X row (nx, (i, xI a) :: l2, st, M) Q) : xW d X row (pc, lv, xI a :: st, M) Q := by
  refine xe_loc (q := ((i, xI a) :: l2, st)) hd hl h0 ?_ rfl rfl hn k
  rw [h1]
  show (if i < row.2.2.2.1 then some ((i, xI a) :: lv.filter _, st) else none) = _
  rw [if_pos hi]
  unfold xkp at hk
  rw [hk]
theorem xe_lsr {a : Int} (hd : decode row.2.2.1 pc = .ok (ins, len)) (hl : xj_lenok ins len = true) (h0 : xj_pure ins (xZ a :: st) = none) (h1 : xj_loc row.2.2.2.1 ins lv (xZ a :: st) = xj_stl row.2.2.2.1 lv i (xZ a :: st)) (hi : i + 1 < row.2.2.2.1) (hk : xkp2 i lv l2) (hn : pc + len = nx) (k : xW d X row (nx, (i, xZ a) :: l2, st, M) Q) : xW d X row (pc, lv, xZ a :: st, M) Q := by
  refine xe_loc (q := ((i, xZ a) :: l2, st)) hd hl h0 ?_ rfl rfl hn k
  rw [h1]
  show (if i + 1 < row.2.2.2.1 then some ((i, xZ a) :: lv.filter _, st) else none) = _
  rw [if_pos hi]
  unfold xkp2 at hk
  rw [hk]
theorem xe_iincr {n z : Int} (hd : decode row.2.2.1 pc = .ok (.iinc i n, 3)) (hi : i < row.2.2.2.1) (h : xj_ld lv i = some (xI z)) (hk : xkp i lv l2) (hn : pc + 3 = nx) (k : xW d X row (nx, (i, xI (xwr (z + n))) :: l2, st, M) Q) : xW d X row (pc, lv, st, M) Q :=
  xe_iinc hd hi h (by unfold xkp at hk; unfold xj_s1; rw [hk]) hn k
theorem xe_dupr {a : Nat} (hd : decode row.2.2.1 pc = .ok (.dup, 1)) (hn : pc + 1 = nx) (k : xW d X row (nx, lv, xR_ a :: xR_ a :: st, M) Q) : xW d X row (pc, lv, xR_ a :: st, M) Q :=
  xe_pure (st' := xR_ a :: xR_ a :: st) hd rfl (by show (if (xR_ a).category = 1 then some (xR_ a :: xR_ a :: st) else none) = _; rw [if_pos (xR_cat a)]) hn k
theorem xe_dup2r {a b : Value} (ha : a.category = 1) (hb : b.category = 1) (hd : decode row.2.2.1 pc = .ok (.dup2, 1)) (hn : pc + 1 = nx) (k : xW d X row (nx, lv, a :: b :: a :: b :: st, M) Q) : xW d X row (pc, lv, a :: b :: st, M) Q :=
  xe_pure (st' := a :: b :: a :: b :: st) hd rfl (by show (if a.category = 1 ∧ b.category = 1 then some (a :: b :: a :: b :: st) else none) = _; rw [if_pos ⟨ha, hb⟩]) hn k
end
