/-! The interpreter: a step, a method's run, a call -/
def xj_cal (o i : Nat) : Option (Nat × Nat) := ((xj_cT o).find? (fun q => q.1 == i)).map (fun q => (q.2.1, q.2.2.1))
def xj_or {α : Type} (a b : Option α) : Option α := match a with | some x => some x | none => b
def xj_mem (o : Nat) (ini : Bool) (ins : Instr) (st : List Value) (M : xj_M) : Option (List Value × xj_M) := match ins with
  | .getfield i => xj_gf o i st M
  | .putfield i => xj_pf o ini i st M
  | .iaload => xj_al 3 st M
  | .laload => xj_al 4 st M
  | .caload => xj_al 2 st M
  | .baload => xj_or (xj_al 1 st M) (xj_al 0 st M)
  | .aaload => xj_aq st M
  | .iastore => xj_as 3 xj_oki st M
  | .lastore => xj_as 4 xj_okl st M
  | .castore => xj_as 2 (xj_okn .char) st M
  | .bastore => xj_or (xj_as 1 (xj_okn .byte) st M) (xj_as 0 (xj_okn .boolean) st M)
  | .aastore => xj_aa st M
  | .arraylength => xj_ln st M
  | .checkcast i => match xj_y o i with | some (9, k) => xj_cc k st M | _ => none
  | .invokestatic i => match xj_y o i with | some (7, _) => xj_cp st M | _ => none
  | _ => none
def xj_mk (o : Nat) (ins : Instr) (st : List Value) (M : xj_M) : Option (List Value × xj_M) := match ins with
  | .new i => xj_nw o i st M
  | .newarray t => xj_na t st M
  | .anewarray i => xj_an o i st M
  | .invokevirtual i => match xj_y o i with | some (8, k) => xj_cl k st M | _ => none
  | _ => none
def xj_ireturn (ty : FieldType) (st : List Value) : Option (Option Value) := match st with
  | [.int v] => if narrow ty (.int v) = .int v then some (some (.int v)) else none
  | _ => none
def xj_lreturn (ty : FieldType) (st : List Value) : Option (Option Value) := match st with
  | [.long v] => if ty = .long then some (some (.long v)) else none
  | _ => none
def xj_isref (ty : FieldType) : Bool := match ty with | .object _ => true | .array _ => true | _ => false
def xj_areturn (ty : FieldType) (st : List Value) : Option (Option Value) := match st with
  | [.ref a] => if xj_isref ty = true then some (some (.ref a)) else none
  | [.null] => if xj_isref ty = true then some (some .null) else none
  | _ => none
def xj_ret (rt : Option FieldType) (ins : Instr) (st : List Value) : Option (Option Value) := match ins with
  | .return_ => match rt with | none => (match st with | [] => some none | _ => none) | some _ => none
  | .ireturn => match rt with | some ty => xj_ireturn ty st | none => none
  | .lreturn => match rt with | some ty => xj_lreturn ty st | none => none
  | .areturn => match rt with | some ty => xj_areturn ty st | none => none
  | _ => none
/-- methods by their numbers: those with a handler from 1000 on; the table of one -/
def xj_row (j : Nat) : Option xj_mR := if j < 1000 then xj_mT[j]? else (xj_wT[j - 1000]?).map (fun r => r.1)
abbrev xj_H : Type := Option (Nat × Nat × Nat × Nat × Nat)
def xj_tab (j : Nat) : xj_H := if j < 1000 then none else (xj_wT[j - 1000]?).map (fun r => (r.2.1.1, r.2.1.2.1, r.2.1.2.2.1, r.2.1.2.2.2, r.2.2.1))
/-- a call: the method, its arguments, what is left on the stack -/
def xj_tV (j : Nat) (st : List Value) (M : xj_M) : Option (Nat × List Value × List Value) := match xj_row j with
  | some row => match st.drop row.2.2.2.2.2.1 with
    | .ref b :: rest => match xj_obj M b with
      | some ob => if ob.1 = row.1 ∧ row.1 < 16 ∧ row.2.2.2.2.2.1 ≤ st.length ∧ (rest.map fun v => v.category).sum ≤ 8 then some (j, .ref b :: (st.take row.2.2.2.2.2.1).reverse, rest) else none
      | none => none
    | _ => none
  | none => none
def xj_tI (j : Nat) (st : List Value) : Option (Nat × List Value × List Value) := match xj_row j with
  | some row => match st.drop row.2.2.2.2.2.1 with
    | .ref b :: rest => if row.2.2.2.2.2.1 ≤ st.length ∧ row.2.2.2.2.1 = none ∧ (rest.map fun v => v.category).sum ≤ 8 then some (j, .ref b :: (st.take row.2.2.2.2.2.1).reverse, rest) else none
    | _ => none
  | none => none
def xj_tW (j : Nat) (st : List Value) : Option (Nat × List Value × List Value) := match xj_row j with
  | some row => match st.drop row.2.2.2.2.2.1 with
    | .ref b :: rest => if 1 ≤ b ∧ b ≤ 10 ∧ row.2.2.2.2.2.1 ≤ st.length ∧ (rest.map fun v => v.category).sum ≤ 8 then some (j, .ref b :: (st.take row.2.2.2.2.2.1).reverse, rest) else none
    | _ => none
  | none => none
def xj_tS (j : Nat) (st : List Value) : Option (Nat × List Value × List Value) := match xj_row j with
  | some row => if row.2.2.2.2.2.1 ≤ st.length ∧ ((st.drop row.2.2.2.2.2.1).map fun v => v.category).sum ≤ 8 then some (j, (st.take row.2.2.2.2.2.1).reverse, st.drop row.2.2.2.2.2.1) else none
  | none => none
/-- kinds: 0 virtual, 1 constructor, 2 static, 4 and 5 the same of a nest mate, 10 and 11 virtual and static with a handler, 12 String's -/
def xj_tgt (o : Nat) (ins : Instr) (st : List Value) (M : xj_M) : Option (Nat × List Value × List Value) := match ins with
  | .invokevirtual i => match xj_cal o i with | some (0, j) => xj_tV j st M | some (10, j) => xj_tV (1000 + j) st M | some (12, j) => xj_tW j st | _ => none
  | .invokespecial i => match xj_cal o i with | some (1, j) => xj_tI j st | some (4, j) => xj_tI j st | _ => none
  | .invokestatic i => match xj_cal o i with | some (2, j) => xj_tS j st | some (5, j) => xj_tS j st | some (11, j) => xj_tS (1000 + j) st | _ => none
  | _ => none
/-- Math, and Object's constructor -/
def xj_ma (k : Nat) (st : List Value) : Option (List Value) := match k with
  | 0 => xj_i2 (fun x y => if x < y then y else x) st
  | 1 => xj_i2 (fun x y => if y < x then y else x) st
  | 2 => xj_l2 (fun x y => .long (if y < x then x else y)) st
  | 3 => xj_l2 (fun x y => .long (if y < x then y else x)) st
  | 4 => xj_l1 (fun x => .long (if 0 < x then x else -x)) st
  | _ => none
def xj_oi (st : List Value) : Option (List Value) := match st with
  | .ref _ :: r => some r
  | _ => none
def xj_small (st : List Value) : Bool := decide ((st.map fun v => v.category).sum ≤ 8)
def xj_mac (o : Nat) (ins : Instr) (st : List Value) : Option (List Value) := match ins with
  | .invokespecial i => match xj_cal o i with | some (3, _) => (if xj_small (st.drop 1) = true then xj_oi st else none) | _ => none
  | .invokestatic i => match xj_cal o i with | some (6, k) => (if xj_small (st.drop 1) = true then xj_ma k st else none) | _ => none
  | _ => none
abbrev xj_F : Type := Nat → List Value → xj_M → Option (xj_R × xj_M)
/-- calls that may not throw -/
def xj_nt (o : Nat) (ins : Instr) : Bool := match ins with
  | .invokespecial _ => true
  | .invokestatic i => (match xj_cal o i with | some (5, _) => true | _ => false)
  | _ => false
/-- what a run has beside its method: a handler, how many calls may stand open, the script -/
abbrev xj_X : Type := xj_H × Nat × Option (List Int32)
def xj_hand (X : xj_X) (row : xj_mR) (pc : Nat) (lv : xj_L) (k : Nat) (M : xj_M) : Option xj_N := match X.1 with
  | none => some (.inr (.inr k, M))
  | some t => if t.1 ≤ pc ∧ pc < t.2.1 ∧ k = t.2.2.2.2 then
      (match decode row.2.2.1 t.2.2.1 with
      | .ok (.astore_n i, 1) => if (i : Nat) < row.2.2.2.1 then some (.inl (t.2.2.1 + 1, (xj_s1 lv i .null).tail, [], M)) else none
      | .ok (.astore i, 2) => if i < row.2.2.2.1 then some (.inl (t.2.2.1 + 2, (xj_s1 lv i .null).tail, [], M)) else none
      | _ => none)
    else none
def xj_out (X : xj_X) (row : xj_mR) (nt : Bool) (pc : Nat) (lv : xj_L) (rest : List Value) (r : Option (xj_R × xj_M)) : Option xj_N := match r with
  | some (.inl v, M) => some (.inl (pc + 3, lv, v.toList ++ rest, M))
  | some (.inr E, M) => if nt = true then none else xj_hand X row pc lv E M
  | none => none
def xj_thr (X : xj_X) (row : xj_mR) (ins : Instr) (pc : Nat) (st : List Value) (M : xj_M) : Option xj_N := match ins with
  | .new i => if X.1.isNone = true ∧ 5 ≤ X.2.1 ∧ st.isEmpty = true then (match xj_th row.1 row.2.2.1 pc i with
    | some k => some (.inr (.inr k, xj_new M (.inl ()) 6))
    | none => none) else none
  | _ => none
/-- String.checkIndex: the formatter is read, Preconditions.checkIndex called, its answer dropped, as one step -/
def xj_chk (X : xj_X) (row : xj_mR) (ins : Instr) (pc : Nat) (st : List Value) : Option (List Value) := match ins with
  | .getstatic i => if row.1 = 18 ∧ i = 1053 ∧ 1 ≤ X.2.1 then (match decode row.2.2.1 (pc + 3), decode row.2.2.1 (pc + 6) with
    | .ok (.invokestatic j, 3), .ok (.pop, 1) => if j = 1059 then (match st with
      | .int n :: .int x :: r => if 0 ≤ x ∧ x < n ∧ xj_small r = true then some r else none
      | _ => none) else none
    | _, _ => none) else none
  | _ => none
def xj_step (call : xj_F) (X : xj_X) (row : xj_mR) (K : xj_K) : Option xj_N :=
  match decode row.2.2.1 K.1 with
  | .error _ => none
  | .ok (ins, len) =>
    if xj_lenok ins len = false then none else
    match xj_pure ins K.2.2.1 with
    | some st => some (.inl (K.1 + len, K.2.1, st, K.2.2.2))
    | none =>
    match xj_loc row.2.2.2.1 ins K.2.1 K.2.2.1 with
    | some q => some (.inl (K.1 + len, q.1, q.2, K.2.2.2))
    | none =>
    match xj_jmp ins K.2.2.1 with
    | some q => (match xj_J K.1 len q.1 with | some t => some (.inl (t, K.2.1, q.2, K.2.2.2)) | none => none)
    | none =>
    match xj_ct row.1 ins K.2.2.1 with
    | some st => some (.inl (K.1 + len, K.2.1, st, K.2.2.2))
    | none =>
    match xj_fx row.1 ins K.2.2.1 with
    | some st => some (.inl (K.1 + len, K.2.1, st, K.2.2.2))
    | none =>
    match xj_sc X.2.2 ins K.2.2.1 with
    | some st => some (.inl (K.1 + len, K.2.1, st, K.2.2.2))
    | none =>
    match xj_mem row.1 row.2.2.2.2.2.2.1 ins K.2.2.1 K.2.2.2 with
    | some q => some (.inl (K.1 + len, K.2.1, q.1, q.2))
    | none =>
    match xj_mk row.1 ins K.2.2.1 K.2.2.2 with
    | some q => some (.inl (K.1 + len, K.2.1, q.1, q.2))
    | none =>
    match xj_ret row.2.2.2.2.1 ins K.2.2.1 with
    | some v => some (.inr (.inl v, K.2.2.2))
    | none =>
    match xj_mac row.1 ins K.2.2.1 with
    | some st => some (.inl (K.1 + len, K.2.1, st, K.2.2.2))
    | none =>
    match xj_tgt row.1 ins K.2.2.1 K.2.2.2 with
    | some q => xj_out X row (xj_nt row.1 ins) K.1 K.2.1 q.2.2 (call q.1 q.2.1 K.2.2.2)
    | none =>
    match xj_chk X row ins K.1 K.2.2.1 with
    | some st => some (.inl (K.1 + 7, K.2.1, st, K.2.2.2))
    | none => xj_thr X row ins K.1 K.2.2.1 K.2.2.2
def xj_loop (call : xj_F) (X : xj_X) (row : xj_mR) : Nat → xj_K → Option (xj_R × xj_M)
  | 0, _ => none
  | n + 1, K => match xj_step call X row K with
    | some (.inl K2) => xj_loop call X row n K2
    | some (.inr r) => some r
    | none => none
/-- a call of the method j with these arguments: d calls may stand open, each makes n steps at most -/
def xj_call (n : Nat) : Nat → xj_F
  | 0, _, _, _ => none
  | d + 1, j, as, M => match xj_row j with
    | some row => if (lg_sl as).length ≤ row.2.2.2.1 then xj_loop (xj_call n d) (xj_tab j, d, none) row n (0, lv_args 0 as, [], M) else none
    | none => none
/-- the memory grows -/
def xj_le (M M' : xj_M) : Prop := M.1.length ≤ M'.1.length ∧ M.2 ≤ M'.2
theorem xj_le.rf {M : xj_M} : xj_le M M := ⟨Nat.le_refl _, Nat.le_refl _⟩
theorem xj_le.tr {A B C : xj_M} (h : xj_le A B) (g : xj_le B C) : xj_le A C := ⟨Nat.le_trans h.1 g.1, Nat.le_trans h.2 g.2⟩
theorem xj_le.put {M : xj_M} {a : Nat} {c : xj_C} : xj_le M (xj_put M a c) := ⟨by simp [xj_put], Nat.le_refl _⟩
theorem xj_le.new {M : xj_M} {c : xj_C} {n : Nat} : xj_le M (xj_new M c n) := ⟨by simp [xj_new], by simp [xj_new]⟩
theorem xj_or_inv {α : Type} {a b : Option α} {x : α} (h : xj_or a b = some x) : a = some x ∨ b = some x := by
  unfold xj_or at h
  split at h
  · exact Or.inl h
  · exact Or.inr h
theorem xj_cc_inv {k : Nat} {st st' : List Value} {M M' : xj_M} (h : xj_cc k st M = some (st', M')) : M' = M := by
  unfold xj_cc at h
  split at h
  · split at h
    · split at h
      · cases h; rfl
      · cases h
    · cases h
  · cases h
theorem xj_cp_inv {st st' : List Value} {M M' : xj_M} (h : xj_cp st M = some (st', M')) : ∃ (a : Nat) (c : xj_C), M' = xj_put M a c := by
  unfold xj_cp at h
  split at h
  · split at h
    · split at h
      · split at h
        · cases h; exact ⟨_, _, rfl⟩
        · cases h
      · cases h
    · cases h
  · cases h
theorem xj_cl_inv {k : Nat} {st st' : List Value} {M M' : xj_M} (h : xj_cl k st M = some (st', M')) : ∃ (c : xj_C) (n : Nat), M' = xj_new M c n := by
  unfold xj_cl at h
  split at h
  · split at h
    · split at h
      · cases h; exact ⟨_, _, rfl⟩
      · cases h
    · cases h
  · cases h
theorem xj_mem_le {o : Nat} {ini : Bool} {ins : Instr} {st st' : List Value} {M M' : xj_M} (h : xj_mem o ini ins st M = some (st', M')) : xj_le M M' := by
  unfold xj_mem at h
  cases ins
  case getfield i => obtain ⟨_, _, _, _, _, _, _, _, _, _, _, rfl⟩ := xj_gf_inv h; exact .rf
  case putfield i => obtain ⟨_, _, _, _, _, _, _, _, _, _, rfl⟩ := xj_pf_inv h; exact .put
  case iaload => obtain ⟨_, _, _, _, _, _, _, _, _, rfl⟩ := xj_al_inv h; exact .rf
  case laload => obtain ⟨_, _, _, _, _, _, _, _, _, rfl⟩ := xj_al_inv h; exact .rf
  case caload => obtain ⟨_, _, _, _, _, _, _, _, _, rfl⟩ := xj_al_inv h; exact .rf
  case baload => rcases xj_or_inv h with h | h <;> (obtain ⟨_, _, _, _, _, _, _, _, _, rfl⟩ := xj_al_inv h; exact .rf)
  case aaload => obtain ⟨_, _, _, _, _, _, _, _, _, _, rfl⟩ := xj_aq_inv h; exact .rf
  case iastore => obtain ⟨_, _, _, _, _, _, _, _, _, _, rfl⟩ := xj_as_inv h; exact .put
  case lastore => obtain ⟨_, _, _, _, _, _, _, _, _, _, rfl⟩ := xj_as_inv h; exact .put
  case castore => obtain ⟨_, _, _, _, _, _, _, _, _, _, rfl⟩ := xj_as_inv h; exact .put
  case bastore => rcases xj_or_inv h with h | h <;> (obtain ⟨_, _, _, _, _, _, _, _, _, _, rfl⟩ := xj_as_inv h; exact .put)
  case aastore =>
    rcases xj_aa_inv h with ⟨_, _, _, _, _, _, _, _, _, _, _, rfl⟩ | ⟨_, _, _, _, _, _, _, _, rfl⟩
    · exact .put
    · exact .put
  case arraylength =>
    simp only [xj_ln] at h
    split at h
    · split at h
      · cases h; exact .rf
      · cases h
    · cases h
  case checkcast i =>
    simp only at h
    split at h
    · rw [xj_cc_inv h]; exact .rf
    · cases h
  case invokestatic i =>
    simp only at h
    split at h
    · obtain ⟨a, c, rfl⟩ := xj_cp_inv h; exact .put
    · cases h
  all_goals cases h
theorem xj_mk_le {o : Nat} {ins : Instr} {st st' : List Value} {M M' : xj_M} (h : xj_mk o ins st M = some (st', M')) : xj_le M M' := by
  unfold xj_mk at h
  cases ins
  case new i =>
    simp only [xj_nw] at h
    split at h
    · split at h
      · cases h; exact .new
      · cases h
    · cases h
  case newarray t =>
    simp only [xj_na] at h
    split at h
    · split at h
      · split at h
        · cases h
        · cases h; exact .new
      · cases h
    · cases h
  case anewarray i =>
    simp only [xj_an] at h
    split at h
    · split at h
      · split at h
        · cases h
        · cases h; exact .new
      · cases h
    · cases h
  case invokevirtual i =>
    simp only at h
    split at h
    · obtain ⟨c, n, rfl⟩ := xj_cl_inv h; exact .new
    · cases h
  all_goals cases h
/-- the memory behind a step -/
def xj_nM (N : xj_N) : xj_M := match N with | .inl K => K.2.2.2 | .inr r => r.2
theorem xj_hand_inv {X : xj_X} {row : xj_mR} {pc : Nat} {lv : xj_L} {k : Nat} {M : xj_M} {N : xj_N} (h : xj_hand X row pc lv k M = some N) : (X.1 = none ∧ N = .inr (.inr k, M)) ∨ (∃ (t : Nat × Nat × Nat × Nat × Nat) (i n : Nat), X.1 = some t ∧ t.1 ≤ pc ∧ pc < t.2.1 ∧ k = t.2.2.2.2 ∧ i < row.2.2.2.1 ∧ ((∃ i4 : Fin 4, (i4 : Nat) = i ∧ decode row.2.2.1 t.2.2.1 = .ok (.astore_n i4, 1) ∧ n = 1) ∨ (decode row.2.2.1 t.2.2.1 = .ok (.astore i, 2) ∧ n = 2)) ∧ N = .inl (t.2.2.1 + n, (xj_s1 lv i .null).tail, [], M)) := by
  unfold xj_hand at h
  split at h
  · rename_i hX; cases h; exact Or.inl ⟨hX, rfl⟩
  · rename_i t hX
    split at h
    · rename_i hc
      split at h
      · rename_i i hd
        split at h
        · rename_i hi
          cases h
          exact Or.inr ⟨t, i, 1, hX, hc.1, hc.2.1, hc.2.2, hi, Or.inl ⟨i, rfl, hd, rfl⟩, rfl⟩
        · cases h
      · rename_i i hd
        split at h
        · rename_i hi
          cases h
          exact Or.inr ⟨t, i, 2, hX, hc.1, hc.2.1, hc.2.2, hi, Or.inr ⟨hd, rfl⟩, rfl⟩
        · cases h
      · cases h
    · cases h
theorem xj_hand_M {X : xj_X} {row : xj_mR} {pc : Nat} {lv : xj_L} {k : Nat} {M : xj_M} {N : xj_N} (h : xj_hand X row pc lv k M = some N) : xj_nM N = M := by
  rcases xj_hand_inv h with ⟨-, rfl⟩ | ⟨t, i, n, -, -, -, -, -, -, rfl⟩ <;> rfl
theorem xj_thr_inv {X : xj_X} {row : xj_mR} {ins : Instr} {pc : Nat} {st : List Value} {M : xj_M} {N : xj_N} (h : xj_thr X row ins pc st M = some N) : ∃ i k : Nat, ins = .new i ∧ X.1 = none ∧ 5 ≤ X.2.1 ∧ st = [] ∧ xj_th row.1 row.2.2.1 pc i = some k ∧ N = .inr (.inr k, xj_new M (.inl ()) 6) := by
  unfold xj_thr at h
  split at h
  · rename_i i
    split at h
    · rename_i hc
      split at h
      · rename_i k hk
        cases h
        exact ⟨i, k, rfl, Option.isNone_iff_eq_none.mp hc.1, hc.2.1, List.isEmpty_iff.mp hc.2.2, hk, rfl⟩
      · cases h
    · cases h
  · cases h
theorem xj_chk_inv {X : xj_X} {row : xj_mR} {ins : Instr} {pc : Nat} {st r : List Value} (h : xj_chk X row ins pc st = some r) : ∃ (n x : Int32), ins = .getstatic 1053 ∧ row.1 = 18 ∧ 1 ≤ X.2.1 ∧ decode row.2.2.1 (pc + 3) = .ok (.invokestatic 1059, 3) ∧ decode row.2.2.1 (pc + 6) = .ok (.pop, 1) ∧ st = .int n :: .int x :: r ∧ 0 ≤ x ∧ x < n ∧ xj_small r = true := by
  unfold xj_chk at h
  split at h
  · rename_i i
    split at h
    · rename_i hc
      split at h
      · rename_i j d3 d6
        split at h
        · rename_i hj
          split at h
          · rename_i n x r'
            split at h
            · rename_i hq
              cases h
              obtain ⟨c1, c2, c3⟩ := hc
              subst c2
              subst hj
              exact ⟨n, x, rfl, c1, c3, d3, d6, rfl, hq.1, hq.2.1, hq.2.2⟩
            · cases h
          · cases h
        · cases h
      · cases h
    · cases h
  · cases h
theorem xj_step_le {call : xj_F} {X : xj_X} {row : xj_mR} {K : xj_K} {N : xj_N} (hc : ∀ j as M r M', call j as M = some (r, M') → xj_le M M') (h : xj_step call X row K = some N) : xj_le K.2.2.2 (xj_nM N) := by
  unfold xj_step at h
  split at h
  · cases h
  · split at h
    · cases h
    · split at h
      · cases h; exact .rf
      · split at h
        · cases h; exact .rf
        · split at h
          · split at h
            · cases h; exact .rf
            · cases h
          · split at h
            · cases h; exact .rf
            · split at h
              · cases h; exact .rf
              · split at h
                · cases h; exact .rf
                · split at h
                  · rename_i q hq; cases h; exact xj_mem_le hq
                  · split at h
                    · rename_i q hq; cases h; exact xj_mk_le hq
                    · split at h
                      · cases h; exact .rf
                      · split at h
                        · cases h; exact .rf
                        · split at h
                          · unfold xj_out at h
                            split at h
                            · rename_i hq; cases h; exact hc _ _ _ _ _ hq
                            · rename_i hq
                              split at h
                              · cases h
                              · rw [xj_hand_M h]; exact hc _ _ _ _ _ hq
                            · cases h
                          · split at h
                            · cases h; exact .rf
                            · obtain ⟨i, k, -, -, -, -, -, rfl⟩ := xj_thr_inv h
                              exact .new
theorem xj_loop_le {call : xj_F} {X : xj_X} {row : xj_mR} (hc : ∀ j as M r M', call j as M = some (r, M') → xj_le M M') : ∀ (n : Nat) (K : xj_K) (r : xj_R) (M' : xj_M), xj_loop call X row n K = some (r, M') → xj_le K.2.2.2 M' := by
  intro n
  induction n with
  | zero => intro K r M' h; cases h
  | succ n ih =>
    intro K r M' h
    unfold xj_loop at h
    split at h
    · rename_i K2 hK
      exact (xj_step_le hc hK).tr (ih K2 r M' h)
    · rename_i q hK
      cases h
      exact xj_step_le hc hK
    · cases h
theorem xj_call_le {n : Nat} : ∀ (d j : Nat) (as : List Value) (M : xj_M) (r : xj_R) (M' : xj_M), xj_call n d j as M = some (r, M') → xj_le M M' := by
  intro d
  induction d with
  | zero => intro j as M r M' h; cases h
  | succ d ih =>
    intro j as M r M' h
    unfold xj_call at h
    split at h
    · split at h
      · exact xj_loop_le ih n _ r M' h
      · cases h
    · cases h
