/-! Each step of the abstract machine is one of the interpreter -/
section
variable {call : xj_F} {X : xj_X} {row : xj_mR} {pc len : Nat} {lv : xj_L} {st : List Value} {M : xj_M} {ins : Instr}
theorem xk_pure (hd : decode row.2.2.1 pc = .ok (ins, len)) (hl : xj_lenok ins len = true) {st' : List Value} (h : xj_pure ins st = some st') : xj_step call X row (pc, lv, st, M) = some (.inl (pc + len, lv, st', M)) := by
  unfold xj_step; simp only [hd]; rw [if_neg (by rw [hl]; decide)]; simp only [h]
theorem xk_loc (hd : decode row.2.2.1 pc = .ok (ins, len)) (hl : xj_lenok ins len = true) (h0 : xj_pure ins st = none) {q : xj_L × List Value} (h : xj_loc row.2.2.2.1 ins lv st = some q) : xj_step call X row (pc, lv, st, M) = some (.inl (pc + len, q.1, q.2, M)) := by
  unfold xj_step; simp only [hd]; rw [if_neg (by rw [hl]; decide)]; simp only [h0, h]
theorem xk_jmp (hd : decode row.2.2.1 pc = .ok (ins, len)) (hl : xj_lenok ins len = true) (h0 : xj_pure ins st = none) (h1 : xj_loc row.2.2.2.1 ins lv st = none) {q : (Int × Bool) × List Value} {t : Nat} (h : xj_jmp ins st = some q) (ht : xj_J pc len q.1 = some t) : xj_step call X row (pc, lv, st, M) = some (.inl (t, lv, q.2, M)) := by
  unfold xj_step; simp only [hd]; rw [if_neg (by rw [hl]; decide)]; simp only [h0, h1, h, ht]
theorem xk_ct (hd : decode row.2.2.1 pc = .ok (ins, len)) (hl : xj_lenok ins len = true) (h0 : xj_pure ins st = none) (h1 : xj_loc row.2.2.2.1 ins lv st = none) (h2 : xj_jmp ins st = none) {st' : List Value} (h : xj_ct row.1 ins st = some st') : xj_step call X row (pc, lv, st, M) = some (.inl (pc + len, lv, st', M)) := by
  unfold xj_step; simp only [hd]; rw [if_neg (by rw [hl]; decide)]; simp only [h0, h1, h2, h]
theorem xk_fx (hd : decode row.2.2.1 pc = .ok (ins, len)) (hl : xj_lenok ins len = true) (h0 : xj_pure ins st = none) (h1 : xj_loc row.2.2.2.1 ins lv st = none) (h2 : xj_jmp ins st = none) (h3 : xj_ct row.1 ins st = none) {st' : List Value} (h : xj_fx row.1 ins st = some st') : xj_step call X row (pc, lv, st, M) = some (.inl (pc + len, lv, st', M)) := by
  unfold xj_step; simp only [hd]; rw [if_neg (by rw [hl]; decide)]; simp only [h0, h1, h2, h3, h]
theorem xk_sc (hd : decode row.2.2.1 pc = .ok (ins, len)) (hl : xj_lenok ins len = true) (h0 : xj_pure ins st = none) (h1 : xj_loc row.2.2.2.1 ins lv st = none) (h2 : xj_jmp ins st = none) (h3 : xj_ct row.1 ins st = none) (h4 : xj_fx row.1 ins st = none) {st' : List Value} (h : xj_sc X.2.2 ins st = some st') : xj_step call X row (pc, lv, st, M) = some (.inl (pc + len, lv, st', M)) := by
  unfold xj_step; simp only [hd]; rw [if_neg (by rw [hl]; decide)]; simp only [h0, h1, h2, h3, h4, h]
theorem xk_mem (hd : decode row.2.2.1 pc = .ok (ins, len)) (hl : xj_lenok ins len = true) (h0 : xj_pure ins st = none) (h1 : xj_loc row.2.2.2.1 ins lv st = none) (h2 : xj_jmp ins st = none) (h3 : xj_ct row.1 ins st = none) (h4 : xj_fx row.1 ins st = none) (h5 : xj_sc X.2.2 ins st = none) {q : List Value × xj_M} (h : xj_mem row.1 row.2.2.2.2.2.2.1 ins st M = some q) : xj_step call X row (pc, lv, st, M) = some (.inl (pc + len, lv, q.1, q.2)) := by
  unfold xj_step; simp only [hd]; rw [if_neg (by rw [hl]; decide)]; simp only [h0, h1, h2, h3, h4, h5, h]
theorem xk_mk (hd : decode row.2.2.1 pc = .ok (ins, len)) (hl : xj_lenok ins len = true) (h0 : xj_pure ins st = none) (h1 : xj_loc row.2.2.2.1 ins lv st = none) (h2 : xj_jmp ins st = none) (h3 : xj_ct row.1 ins st = none) (h4 : xj_fx row.1 ins st = none) (h5 : xj_sc X.2.2 ins st = none) (h6 : xj_mem row.1 row.2.2.2.2.2.2.1 ins st M = none) {q : List Value × xj_M} (h : xj_mk row.1 ins st M = some q) : xj_step call X row (pc, lv, st, M) = some (.inl (pc + len, lv, q.1, q.2)) := by
  unfold xj_step; simp only [hd]; rw [if_neg (by rw [hl]; decide)]; simp only [h0, h1, h2, h3, h4, h5, h6, h]
theorem xk_ret (hd : decode row.2.2.1 pc = .ok (ins, len)) (hl : xj_lenok ins len = true) (h0 : xj_pure ins st = none) (h1 : xj_loc row.2.2.2.1 ins lv st = none) (h2 : xj_jmp ins st = none) (h3 : xj_ct row.1 ins st = none) (h4 : xj_fx row.1 ins st = none) (h5 : xj_sc X.2.2 ins st = none) (h6 : xj_mem row.1 row.2.2.2.2.2.2.1 ins st M = none) (h7 : xj_mk row.1 ins st M = none) {v : Option Value} (h : xj_ret row.2.2.2.2.1 ins st = some v) : xj_step call X row (pc, lv, st, M) = some (.inr (.inl v, M)) := by
  unfold xj_step; simp only [hd]; rw [if_neg (by rw [hl]; decide)]; simp only [h0, h1, h2, h3, h4, h5, h6, h7, h]
theorem xk_mac (hd : decode row.2.2.1 pc = .ok (ins, len)) (hl : xj_lenok ins len = true) (h0 : xj_pure ins st = none) (h1 : xj_loc row.2.2.2.1 ins lv st = none) (h2 : xj_jmp ins st = none) (h3 : xj_ct row.1 ins st = none) (h4 : xj_fx row.1 ins st = none) (h5 : xj_sc X.2.2 ins st = none) (h6 : xj_mem row.1 row.2.2.2.2.2.2.1 ins st M = none) (h7 : xj_mk row.1 ins st M = none) (h8 : xj_ret row.2.2.2.2.1 ins st = none) {st' : List Value} (h : xj_mac row.1 ins st = some st') : xj_step call X row (pc, lv, st, M) = some (.inl (pc + len, lv, st', M)) := by
  unfold xj_step; simp only [hd]; rw [if_neg (by rw [hl]; decide)]; simp only [h0, h1, h2, h3, h4, h5, h6, h7, h8, h]
theorem xk_tgt (hd : decode row.2.2.1 pc = .ok (ins, len)) (hl : xj_lenok ins len = true) (h0 : xj_pure ins st = none) (h1 : xj_loc row.2.2.2.1 ins lv st = none) (h2 : xj_jmp ins st = none) (h3 : xj_ct row.1 ins st = none) (h4 : xj_fx row.1 ins st = none) (h5 : xj_sc X.2.2 ins st = none) (h6 : xj_mem row.1 row.2.2.2.2.2.2.1 ins st M = none) (h7 : xj_mk row.1 ins st M = none) (h8 : xj_ret row.2.2.2.2.1 ins st = none) (h9 : xj_mac row.1 ins st = none) {q : Nat × List Value × List Value} (h : xj_tgt row.1 ins st M = some q) : xj_step call X row (pc, lv, st, M) = xj_out X row (xj_nt row.1 ins) pc lv q.2.2 (call q.1 q.2.1 M) := by
  unfold xj_step; simp only [hd]; rw [if_neg (by rw [hl]; decide)]; simp only [h0, h1, h2, h3, h4, h5, h6, h7, h8, h9, h]
theorem xk_chk (hd : decode row.2.2.1 pc = .ok (ins, len)) (hl : xj_lenok ins len = true) (h0 : xj_pure ins st = none) (h1 : xj_loc row.2.2.2.1 ins lv st = none) (h2 : xj_jmp ins st = none) (h3 : xj_ct row.1 ins st = none) (h4 : xj_fx row.1 ins st = none) (h5 : xj_sc X.2.2 ins st = none) (h6 : xj_mem row.1 row.2.2.2.2.2.2.1 ins st M = none) (h7 : xj_mk row.1 ins st M = none) (h8 : xj_ret row.2.2.2.2.1 ins st = none) (h9 : xj_mac row.1 ins st = none) (h10 : xj_tgt row.1 ins st M = none) {st' : List Value} (h : xj_chk X row ins pc st = some st') : xj_step call X row (pc, lv, st, M) = some (.inl (pc + 7, lv, st', M)) := by
  unfold xj_step; simp only [hd]; rw [if_neg (by rw [hl]; decide)]; simp only [h0, h1, h2, h3, h4, h5, h6, h7, h8, h9, h10, h]
theorem xk_thr (hd : decode row.2.2.1 pc = .ok (ins, len)) (hl : xj_lenok ins len = true) (h0 : xj_pure ins st = none) (h1 : xj_loc row.2.2.2.1 ins lv st = none) (h2 : xj_jmp ins st = none) (h3 : xj_ct row.1 ins st = none) (h4 : xj_fx row.1 ins st = none) (h5 : xj_sc X.2.2 ins st = none) (h6 : xj_mem row.1 row.2.2.2.2.2.2.1 ins st M = none) (h7 : xj_mk row.1 ins st M = none) (h8 : xj_ret row.2.2.2.2.1 ins st = none) (h9 : xj_mac row.1 ins st = none) (h10 : xj_tgt row.1 ins st M = none) (h11 : xj_chk X row ins pc st = none) : xj_step call X row (pc, lv, st, M) = xj_thr X row ins pc st M := by
  unfold xj_step; simp only [hd]; rw [if_neg (by rw [hl]; decide)]; simp only [h0, h1, h2, h3, h4, h5, h6, h7, h8, h9, h10, h11]
end
/-- a type's code -/
def xo_tc (t : FieldType) : Option Nat := match t with
  | .int => some 0
  | .long => some 1
  | .object _ => some 2
  | .array _ => some 2
  | .boolean => some 3
  | _ => none
def xo_tcs (ci n : Nat) : Option (List Nat) := (List.range n).foldr (fun k r => match xo_tc (xj_ty ci k), r with | some t, some l => some (t :: l) | _, _ => none) (some [])
def xo_tg (pc : Nat) (off : Int) (k : Nat → Option xo) : Option xo := match xj_tg pc off with
  | some t => k t
  | none => none
def xo_tgs (pc : Nat) (offs : List Int) : Option (List Nat) := offs.foldr (fun off r => match xj_tg pc off, r with | some t, some l => some (t :: l) | _, _ => none) (some [])
def xo_call (s j n3 : Nat) : Option xo := match xj_row j with
  | some r => if (s = 1 → r.2.2.2.2.1 = none) ∧ (s = 0 → r.1 < 16) then some (12, s, j, r.2.2.2.2.2.1, n3, [r.1]) else none
  | none => none
def xo_if (c : Bool) (q : xo) : Option xo := if c = true then some q else none
/-- an instruction as a step of the abstract machine -/
def xo_ins (row : xj_mR) (pc len : Nat) (ins : Instr) : Option xo := match ins with
  | .aconst_null => some (0, 3, 0, 0, pc + len, [])
  | .iconst n => some (0, 0, xa_e (Int32.ofInt n), 0, pc + len, [])
  | .bipush n => some (0, 0, xa_e (Int8.ofInt n).toInt32, 0, pc + len, [])
  | .sipush n => some (0, 0, xa_e (Int16.ofInt n).toInt32, 0, pc + len, [])
  | .lconst n => some (0, 1, xa_E (Int64.ofNat (n : Nat)), 0, pc + len, [])
  | .ldc i => (match xj_int row.1 i with | some v => some (0, 0, xa_e v, 0, pc + len, []) | none => match xj_str row.1 i with | some k => some (0, 2, k + 1, 0, pc + len, []) | none => none)
  | .ldc_w i => (match xj_int row.1 i with | some v => some (0, 0, xa_e v, 0, pc + len, []) | none => match xj_str row.1 i with | some k => some (0, 2, k + 1, 0, pc + len, []) | none => none)
  | .ldc2_w i => (match xj_lng row.1 i with | some v => some (0, 1, xa_E v, 0, pc + len, []) | none => none)
  | .getstatic i => if row.1 = 18 ∧ i = 38 then some (0, 0, xa_e 1, 0, pc + len, []) else
      if row.1 = 18 ∧ i = 1053 then (match decode row.2.2.1 (pc + 3), decode row.2.2.1 (pc + 6) with | .ok (.invokestatic j, 3), .ok (.pop, 1) => xo_if (decide (j = 1059)) (15, 1, 0, 0, pc + 7, []) | _, _ => none) else none
  | .iload i => some (1, 0, i, 0, pc + len, [])
  | .iload_n i => some (1, 0, (i : Nat), 0, pc + len, [])
  | .lload i => some (1, 1, i, 0, pc + len, [])
  | .lload_n i => some (1, 1, (i : Nat), 0, pc + len, [])
  | .aload i => some (1, 2, i, 0, pc + len, [])
  | .aload_n i => some (1, 2, (i : Nat), 0, pc + len, [])
  | .istore i => xo_if (decide (i < row.2.2.2.1)) (1, 3, i, 0, pc + len, [])
  | .istore_n i => xo_if (decide ((i : Nat) < row.2.2.2.1)) (1, 3, (i : Nat), 0, pc + len, [])
  | .lstore i => xo_if (decide (i + 1 < row.2.2.2.1)) (1, 4, i, 0, pc + len, [])
  | .lstore_n i => xo_if (decide ((i : Nat) + 1 < row.2.2.2.1)) (1, 4, (i : Nat), 0, pc + len, [])
  | .astore i => xo_if (decide (i < row.2.2.2.1)) (1, 5, i, 0, pc + len, [])
  | .astore_n i => xo_if (decide ((i : Nat) < row.2.2.2.1)) (1, 5, (i : Nat), 0, pc + len, [])
  | .iinc i n => xo_if (decide (i < row.2.2.2.1)) (1, 6, i, xa_e (Int32.ofInt n), pc + len, [])
  | .ifCond .eq off => xo_tg pc off (fun t => some (2, 1, t, 0, pc + len, []))
  | .ifCond .ne off => xo_tg pc off (fun t => some (2, 2, t, 0, pc + len, []))
  | .ifCond .lt off => xo_tg pc off (fun t => some (2, 3, t, 0, pc + len, []))
  | .ifCond .ge off => xo_tg pc off (fun t => some (2, 4, t, 0, pc + len, []))
  | .ifCond .gt off => xo_tg pc off (fun t => some (2, 5, t, 0, pc + len, []))
  | .ifCond .le off => xo_tg pc off (fun t => some (2, 6, t, 0, pc + len, []))
  | .if_icmp .eq off => xo_tg pc off (fun t => some (2, 7, t, 0, pc + len, []))
  | .if_icmp .ne off => xo_tg pc off (fun t => some (2, 8, t, 0, pc + len, []))
  | .if_icmp .lt off => xo_tg pc off (fun t => some (2, 9, t, 0, pc + len, []))
  | .if_icmp .ge off => xo_tg pc off (fun t => some (2, 10, t, 0, pc + len, []))
  | .if_icmp .gt off => xo_tg pc off (fun t => some (2, 11, t, 0, pc + len, []))
  | .if_icmp .le off => xo_tg pc off (fun t => some (2, 12, t, 0, pc + len, []))
  | .getfield i => if row.1 = 18 then (if i = 9 then some (15, 3, 0, 0, pc + len, []) else if i = 15 then some (15, 4, 0, 0, pc + len, []) else none) else (match xj_fld row.1 i with | some q => some (3, 0, q.1, q.2, pc + len, []) | none => none)
  | .putfield i => (match xj_fld row.1 i with
    | some q => (match xo_tc (xj_ty q.1 q.2) with | some t => if xj_fin q.1 q.2 = false ∨ row.2.2.2.2.2.2.1 = true ∧ xj_nm q.1 = xj_nm row.1 then some (4, t, q.1, q.2, pc + len, []) else none | none => none)
    | none => none)
  | .iaload => some (5, 3, 0, 0, pc + len, [])
  | .laload => some (5, 4, 0, 0, pc + len, [])
  | .baload => some (5, 1, 0, 0, pc + len, [])
  | .aaload => some (5, 5, 0, 0, pc + len, [])
  | .iastore => some (6, 3, 0, 0, pc + len, [])
  | .lastore => some (6, 4, 0, 0, pc + len, [])
  | .castore => some (6, 2, 0, 0, pc + len, [])
  | .bastore => some (6, 1, 0, 0, pc + len, [])
  | .aastore => some (6, 5, 0, 0, pc + len, [])
  | .goto off => xo_tg pc off (fun t => some (7, 0, t, 0, pc + len, []))
  | .ifnull off => xo_tg pc off (fun t => some (7, 1, t, 0, pc + len, []))
  | .ifnonnull off => xo_tg pc off (fun t => some (7, 2, t, 0, pc + len, []))
  | .iadd => some (8, 0, 0, 0, pc + len, [])
  | .isub => some (8, 1, 0, 0, pc + len, [])
  | .imul => some (8, 2, 0, 0, pc + len, [])
  | .iand => some (8, 3, 0, 0, pc + len, [])
  | .ior => some (8, 4, 0, 0, pc + len, [])
  | .ishl => some (8, 5, 0, 0, pc + len, [])
  | .ishr => some (8, 6, 0, 0, pc + len, [])
  | .iushr => some (8, 7, 0, 0, pc + len, [])
  | .irem => some (8, 8, 0, 0, pc + len, [])
  | .i2b => some (9, 0, 0, 0, pc + len, [])
  | .i2c => some (9, 1, 0, 0, pc + len, [])
  | .i2l => some (9, 2, 0, 0, pc + len, [])
  | .ladd => some (9, 3, 0, 0, pc + len, [])
  | .lmul => some (9, 4, 0, 0, pc + len, [])
  | .land => some (9, 5, 0, 0, pc + len, [])
  | .lcmp => some (9, 6, 0, 0, pc + len, [])
  | .lshr => some (9, 7, 0, 0, pc + len, [])
  | .dup => some (10, 0, 0, 0, pc + len, [])
  | .dup2 => some (10, 1, 0, 0, pc + len, [])
  | .return_ => (match row.2.2.2.2.1 with | none => some (11, 0, 0, 0, pc + len, []) | some _ => none)
  | .ireturn => (match row.2.2.2.2.1 with
    | some .int => some (11, 1, 0, 4294967295, pc + len, [])
    | some .boolean => some (11, 1, 2147483648, 2147483649, pc + len, [])
    | some .char => some (11, 1, 2147483648, 2147549183, pc + len, [])
    | some .byte => some (11, 1, 2147483648, 2147483648, pc + len, [])
    | _ => none)
  | .lreturn => (match row.2.2.2.2.1 with | some .long => some (11, 2, 0, 0, pc + len, []) | _ => none)
  | .areturn => (match row.2.2.2.2.1 with | some t => xo_if (xj_isref t) (11, 3, 0, 0, pc + len, []) | none => none)
  | .invokevirtual i => (match xj_y row.1 i with
    | some (8, k) => some (13, 2, k, 0, pc + len, [])
    | some _ => none
    | none => match xj_cal row.1 i with | some (0, j) => xo_call 0 j (pc + 3) | some (10, j) => xo_call 0 (1000 + j) (pc + 3) | some (12, j) => xo_call 3 j (pc + 3) | _ => none)
  | .invokespecial i => (match xj_cal row.1 i with | some (3, _) => some (15, 0, 0, 0, pc + len, []) | some (1, j) => xo_call 1 j (pc + 3) | some (4, j) => xo_call 1 j (pc + 3) | _ => none)
  | .invokestatic i => (match xj_y row.1 i with
    | some _ => none
    | none => match xj_cal row.1 i with | some (2, j) => xo_call 2 j (pc + 3) | some (11, j) => xo_call 2 (1000 + j) (pc + 3) | _ => none)
  | .new i => (match xj_cls row.1 i with
    | some ci => (match vwCl[ci]? with | some r => (match xo_tcs ci r.2.2 with | some l => some (13, 0, ci, r.2.2, pc + len, l) | none => none) | none => none)
    | none => (match xj_th row.1 row.2.2.1 pc i with | some k => some (15, 2, k, 0, pc + len, []) | none => none))
  | .newarray t => (match xj_tk t with | some k => some (13, 1, k, (if k = 4 then 1 else 0), pc + len, []) | none => none)
  | .anewarray i => (match xj_acl row.1 i with | some ci => some (13, 1, ci + 5, 2, pc + len, []) | none => none)
  | .checkcast i => (match xj_y row.1 i with | some (9, k) => some (13, 3, k, 0, pc + len, []) | _ => none)
  | .arraylength => some (13, 4, 0, 0, pc + len, [])
  | .tableswitch d lo hi offs => xo_tg pc d (fun b => match xo_tgs pc offs.toList with
    | some l => if 0 ≤ lo + 2147483648 ∧ hi + 1 = lo + offs.size then some (14, 0, (lo + 2147483648).toNat, b, pc + len, l) else none
    | none => none)
  | _ => none
def xo_of (row : xj_mR) (pc : Nat) : Option xo := match decode row.2.2.1 pc with
  | .ok (ins, len) => if xj_lenok ins len = true then xo_ins row pc len ins else none
  | .error _ => none
/-- what the relation says of results, calls, scripts and handlers -/
def xrr (r : xRa) (r' : xj_R) : Prop := match r with
  | .inl none => r' = .inl none
  | .inl (some a) => ∃ v, r' = .inl (some v) ∧ xv a v
  | .inr k => r' = .inr k
def xNr (N : xNa) (N' : xj_N) : Prop := match N with
  | .inl K => ∃ lv st M, N' = .inl (K.1, lv, st, M) ∧ xlr K.2.1 lv ∧ xvs K.2.2.1 st ∧ xmr K.2.2.2 M
  | .inr r => ∃ r' M, N' = .inr (r', M) ∧ xrr r.1 r' ∧ xmr r.2 M
def xcok (call : xj_F) (ac : yxFa) : Prop := ∀ j as A r B vs M, ac j as A = some (r, B) → xvs as vs → xmr A M → ∃ r' M', call j vs M = some (r', M') ∧ xrr r r' ∧ xmr B M'
def xsr (S : Option (List xa)) (S' : Option (List Int32)) : Prop := ∀ bx, S = some bx → ∃ ys : List Int32, S' = some ys ∧ ys.length < 131072 ∧ xvs bx (ys.map Value.int)
def xhr (row : xj_mR) (T : xj_H) (h : xha) : Prop := match h with
  | none => T = none
  | some t => ∃ u, T = some u ∧ t.1 = u.1 ∧ t.2.1 = u.2.1 ∧ t.2.2.2.2 = u.2.2.2.2 ∧ t.2.2.2.1 < row.2.2.2.1 ∧ ((∃ i : Fin 4, (i : Nat) = t.2.2.2.1 ∧ decode row.2.2.1 u.2.2.1 = .ok (.astore_n i, 1) ∧ t.2.2.1 = u.2.2.1 + 1) ∨ (decode row.2.2.1 u.2.2.1 = .ok (.astore t.2.2.2.1, 2) ∧ t.2.2.1 = u.2.2.1 + 2))
theorem xgo_inv {pc : Nat} {lv st : List xa} {A : xme} {N : xNa} (h : xgo pc lv st A = some N) : N = .inl (pc, lv, st, A) := by cases h; rfl
theorem xNr_go {pc : Nat} {l s : List xa} {A : xme} {N : xNa} (h : xgo pc l s A = some N) {lv : xj_L} {st : List Value} {M : xj_M} (h1 : xlr l lv) (h2 : xvs s st) (h3 : xmr A M) : xNr N (.inl (pc, lv, st, M)) := by
  cases h; exact ⟨lv, st, M, rfl, h1, h2, h3⟩
section
variable {lv' st' : List xa} {A : xme} {lv : xj_L} {st : List Value} {M : xj_M} {N : xNa} {s a b nx : Nat}
theorem xG1_0 (h : xG1 0 a b nx lv' st' A = some N) (hl : xlr lv' lv) (hs : xvs st' st) (hA : xmr A M) : ∃ x, xj_ld lv a = some (.int x) ∧ xNr N (.inl (nx, lv, .int x :: st, M)) := by
  simp only [xG1] at h
  split at h
  · rename_i v hv
    obtain ⟨c, h⟩ := xif_some h
    have c := xbeq c
    obtain ⟨w, h1, h2⟩ := hl a v hv (by rw [c]; decide)
    obtain ⟨x, rfl, h3⟩ := xv_i h2 c
    exact ⟨x, h1, xNr_go h hl ⟨h2, hs⟩ hA⟩
  · cases h
theorem xG1_1 (h : xG1 1 a b nx lv' st' A = some N) (hl : xlr lv' lv) (hs : xvs st' st) (hA : xmr A M) : ∃ x, xj_ld lv a = some (.long x) ∧ xNr N (.inl (nx, lv, .long x :: st, M)) := by
  simp only [xG1] at h
  split at h
  · rename_i v hv
    obtain ⟨c, h⟩ := xif_some h
    have c := xbeq c
    obtain ⟨w, h1, h2⟩ := hl a v hv (by rw [c]; decide)
    obtain ⟨x, rfl, h3⟩ := xv_l h2 c
    exact ⟨x, h1, xNr_go h hl ⟨h2, hs⟩ hA⟩
  · cases h
theorem xfit2 {v : xa} (h : xfit 2 v = true) : v.1 = 2 ∨ v.1 = 3 := by
  simp only [xfit] at h
  cases c : Nat.beq v.1 2 with
  | true => exact Or.inl (xbeq c)
  | false => rw [c] at h; exact Or.inr (xbeq h)
theorem xG1_2 (h : xG1 2 a b nx lv' st' A = some N) (hl : xlr lv' lv) (hs : xvs st' st) (hA : xmr A M) : ∃ x, xj_ld lv a = some x ∧ (x = .null ∨ ∃ r, x = .ref r) ∧ xNr N (.inl (nx, lv, x :: st, M)) := by
  simp only [xG1] at h
  split at h
  · rename_i v hv
    obtain ⟨c, h⟩ := xif_some h
    rcases xfit2 c with c | c
    · obtain ⟨w, h1, h2⟩ := hl a v hv (by rw [c]; decide)
      exact ⟨w, h1, Or.inr ⟨_, xv_r h2 c⟩, xNr_go h hl ⟨h2, hs⟩ hA⟩
    · obtain ⟨w, h1, h2⟩ := hl a v hv (by rw [c]; decide)
      exact ⟨w, h1, Or.inl (xv_n h2 c), xNr_go h hl ⟨h2, hs⟩ hA⟩
  · cases h
theorem xG1_3 (h : xG1 3 a b nx lv' st' A = some N) (hl : xlr lv' lv) (hs : xvs st' st) (hA : xmr A M) : ∃ x r, st = .int x :: r ∧ xNr N (.inl (nx, xj_s1 lv a (.int x), r, M)) := by
  simp only [xG1] at h
  split at h
  · rename_i v r
    obtain ⟨c, h⟩ := xif_some h
    obtain ⟨w, ws, rfl, hw, hws⟩ := xvs_c hs
    obtain ⟨x, rfl, h3⟩ := xv_i hw (xbeq c)
    exact ⟨x, ws, rfl, xNr_go h (xlr_s1 hl hw) hws hA⟩
  · cases h
theorem xG1_4 (h : xG1 4 a b nx lv' st' A = some N) (hl : xlr lv' lv) (hs : xvs st' st) (hA : xmr A M) : ∃ x r, st = .long x :: r ∧ xNr N (.inl (nx, xj_s2 lv a (.long x), r, M)) := by
  simp only [xG1] at h
  split at h
  · rename_i v r
    obtain ⟨c, h⟩ := xif_some h
    obtain ⟨w, ws, rfl, hw, hws⟩ := xvs_c hs
    obtain ⟨x, rfl, h3⟩ := xv_l hw (xbeq c)
    exact ⟨x, ws, rfl, xNr_go h (xlr_s2 hl hw) hws hA⟩
  · cases h
theorem xG1_5 (h : xG1 5 a b nx lv' st' A = some N) (hl : xlr lv' lv) (hs : xvs st' st) (hA : xmr A M) : ∃ x r, st = x :: r ∧ (x = .null ∨ ∃ q, x = .ref q) ∧ xNr N (.inl (nx, xj_s1 lv a x, r, M)) := by
  simp only [xG1] at h
  split at h
  · rename_i v r
    obtain ⟨c, h⟩ := xif_some h
    obtain ⟨w, ws, rfl, hw, hws⟩ := xvs_c hs
    rcases xfit2 c with c | c
    · exact ⟨w, ws, rfl, Or.inr ⟨_, xv_r hw c⟩, xNr_go h (xlr_s1 hl hw) hws hA⟩
    · exact ⟨w, ws, rfl, Or.inl (xv_n hw c), xNr_go h (xlr_s1 hl hw) hws hA⟩
  · cases h
theorem xG1_6 {n : Int} (h : xG1 6 a (xa_e (Int32.ofInt n)) nx lv' st' A = some N) (hl : xlr lv' lv) (hs : xvs st' st) (hA : xmr A M) : ∃ x, xj_ld lv a = some (.int x) ∧ xNr N (.inl (nx, xj_s1 lv a (.int (x + Int32.ofInt n)), st, M)) := by
  simp only [xG1, xw_eq] at h
  split at h
  · rename_i v hv
    obtain ⟨c, h⟩ := xif_some h
    have c := xbeq c
    obtain ⟨w, h1, h2⟩ := hl a v hv (by rw [c]; decide)
    obtain ⟨x, rfl, h3, h4⟩ := xv_i h2 c
    have hv2 : xv (xr2 0 v (0, xa_e (Int32.ofInt n), xa_e (Int32.ofInt n))) (.int (x + Int32.ofInt n)) := xr2_ok 0 h3 h4 (Nat.le_refl _) (Nat.le_refl _)
    exact ⟨x, h1, xNr_go h (xlr_s1 hl hv2) hs hA⟩
  · cases h
/-- comparisons -/
def xcf (k : Nat) (u w : Int32) : Bool := match k with
  | 1 => decide (u = w)
  | 2 => decide (¬ u = w)
  | 3 => decide (u < w)
  | 4 => decide (w ≤ u)
  | 5 => decide (w < u)
  | _ => decide (u ≤ w)
theorem xnd {p q : Prop} [Decidable p] [Decidable q] (h : ¬ p ↔ q) : (!decide p) = decide q := by
  by_cases hp : p
  · rw [decide_eq_true hp, decide_eq_false (fun hq => h.mpr hq hp)]; rfl
  · rw [decide_eq_false hp, decide_eq_true (h.mp hp)]; rfl
theorem xcmp_ok {k : Nat} {x y : xa} {u w : Int32} {c : Bool} (hx1 : x.2.1 ≤ xa_e u) (hx2 : xa_e u ≤ x.2.2) (hy1 : y.2.1 ≤ xa_e w) (hy2 : xa_e w ≤ y.2.2) (h : xcmp k x y = some c) : c = xcf k u w := by
  unfold xcmp at h
  split at h
  · exact xeq_ok hx1 hx2 hy1 hy2 h
  · obtain ⟨d, h1, rfl⟩ := xnot_ok h
    rw [xeq_ok hx1 hx2 hy1 hy2 h1]
    exact xnd Iff.rfl
  · exact xlt_ok hx1 hx2 hy1 hy2 h
  · obtain ⟨d, h1, rfl⟩ := xnot_ok h
    rw [xlt_ok hx1 hx2 hy1 hy2 h1]
    exact xnd Int32.not_lt
  · exact xlt_ok hy1 hy2 hx1 hx2 h
  · obtain ⟨d, h1, rfl⟩ := xnot_ok h
    rw [xlt_ok hy1 hy2 hx1 hx2 h1]
    exact xnd Int32.not_lt
  · cases h
theorem xa_0 : xa_e 0 = 2147483648 := by decide
theorem xif_ite {c : Bool} {x y : Nat} : xif c x y = if c = true then x else y := by cases c <;> rfl
theorem xG2_1 (hs6 : Nat.ble s 6 = true) (h : xG2 s a nx lv' st' A = some N) (hl : xlr lv' lv) (hs : xvs st' st) (hA : xmr A M) : ∃ x r, st = .int x :: r ∧ xNr N (.inl (if xcf s x 0 = true then a else nx, lv, r, M)) := by
  unfold xG2 at h
  rw [hs6, xif_t] at h
  split at h
  · rename_i x r
    obtain ⟨c, h⟩ := xif_some h
    obtain ⟨w, ws, rfl, hw, hws⟩ := xvs_c hs
    obtain ⟨x, rfl, h3, h4⟩ := xv_i hw (xbeq c)
    split at h
    · rename_i b hb
      have := xcmp_ok (w := 0) h3 h4 (Nat.le_of_eq xa_0.symm) (Nat.le_of_eq xa_0) hb
      subst this
      rw [xif_ite] at h
      exact ⟨x, ws, rfl, xNr_go h hl hws hA⟩
    · cases h
  · cases h
theorem xG2_2 (hs6 : Nat.ble s 6 = false) (h : xG2 s a nx lv' st' A = some N) (hl : xlr lv' lv) (hs : xvs st' st) (hA : xmr A M) : ∃ x y r, st = .int y :: .int x :: r ∧ xNr N (.inl (if xcf (s - 6) x y = true then a else nx, lv, r, M)) := by
  unfold xG2 at h
  rw [hs6, xif_f] at h
  split at h
  · rename_i y x r
    obtain ⟨c, h⟩ := xif_some h
    obtain ⟨c1, c2⟩ := xif_and c
    obtain ⟨w, ws, rfl, hw, hws⟩ := xvs_c hs
    obtain ⟨z, zs, rfl, hz, hzs⟩ := xvs_c hws
    obtain ⟨y', rfl, h3, h4⟩ := xv_i hw (xbeq c2)
    obtain ⟨x', rfl, h5, h6⟩ := xv_i hz (xbeq c1)
    split at h
    · rename_i b hb
      have := xcmp_ok h5 h6 h3 h4 hb
      subst this
      rw [xif_ite] at h
      exact ⟨x', y', zs, rfl, xNr_go h hl hzs hA⟩
    · cases h
  · cases h
theorem xG3_ok (h : yxG3 a b nx lv' st' A = some N) (hl : xlr lv' lv) (hs : xvs st' st) (hA : xmr A M) : ∃ r o v st1, st = .ref r :: st1 ∧ xj_obj M r = some o ∧ o.1 = a ∧ o.2[b]? = some v ∧ xNr N (.inl (nx, lv, v :: st1, M)) := by
  simp only [yxG3, xw_eq] at h
  split at h
  · rename_i x r
    obtain ⟨c, h⟩ := xif_some h
    obtain ⟨w, ws, rfl, hw, hws⟩ := xvs_c hs
    have e := xv_r hw (xbeq c)
    subst e
    split at h
    · rename_i cc hcc
      obtain ⟨c1, h⟩ := xif_some h
      obtain ⟨c1, c2⟩ := xif_and c1
      obtain ⟨h1, h2, o, h3, h4, h5, h6⟩ := xm_obj_ok hA hcc (xbeq c1)
      split at h
      · rename_i v hv
        obtain ⟨v', h7, h8⟩ := xvs_get _ _ h6 _ _ hv
        exact ⟨_, o, v', ws, rfl, h3, by rw [← h5]; exact xbeq c2, h7, xNr_go h hl ⟨h8, hws⟩ hA⟩
      · cases h
    · cases h
  · cases h
theorem xnar1 {x : Int32} (h1 : 2147483648 ≤ xa_e x) (h2 : xa_e x ≤ 2147483649) : x = 0 ∨ x = 1 := by
  have e1 : xa_e (1 : Int32) = 2147483649 := by decide
  rcases Nat.lt_or_ge 2147483648 (xa_e x) with h | h
  · exact Or.inr (xa_inj.mp (by rw [e1]; omega))
  · exact Or.inl (xa_inj.mp (by rw [xa_0]; omega))
theorem xfit_ok {t : Nat} {ty : FieldType} {v : xa} {w : Value} (ht : xo_tc ty = some t) (h : xfit t v = true) (hv : xv v w) : xj_okv ty w = true := by
  unfold xo_tc at ht
  split at ht
  · cases ht
    obtain ⟨x, rfl, -⟩ := xv_i hv (xbeq h)
    simp [xj_okv, narrow, fits]
  · cases ht
    obtain ⟨x, rfl, -⟩ := xv_l hv (xbeq h)
    simp [xj_okv, narrow, fits]
  · cases ht
    rcases xfit2 h with c | c
    · rw [xv_r hv c]; simp [xj_okv, narrow, fits]
    · rw [xv_n hv c]; simp [xj_okv, narrow, fits]
  · cases ht
    rcases xfit2 h with c | c
    · rw [xv_r hv c]; simp [xj_okv, narrow, fits]
    · rw [xv_n hv c]; simp [xj_okv, narrow, fits]
  · cases ht
    simp only [xfit] at h
    obtain ⟨c1, c2⟩ := xif_and h
    obtain ⟨c2, c3⟩ := xif_and c2
    obtain ⟨x, rfl, h3, h4⟩ := xv_i hv (xbeq c1)
    rcases xnar1 (Nat.le_trans (xble c2) h3) (Nat.le_trans h4 (xble c3)) with rfl | rfl
    · decide
    · decide
  · cases ht
theorem xG4_ok {t : Nat} (h : xG4 t a b nx lv' st' A = some N) (hl : xlr lv' lv) (hs : xvs st' st) (hA : xmr A M) : ∃ w v r o st1, st = w :: .ref r :: st1 ∧ xv v w ∧ xfit t v = true ∧ xj_obj M r = some o ∧ o.1 = a ∧ xNr N (.inl (nx, lv, st1, xj_put M r (.inr (.inr (o.1, o.2.set b w))))) := by
  simp only [xG4] at h
  split at h
  · rename_i v x r
    obtain ⟨c, h⟩ := xif_some h
    obtain ⟨c1, c2⟩ := xif_and c
    obtain ⟨w, ws, rfl, hw, hws⟩ := xvs_c hs
    obtain ⟨z, zs, rfl, hz, hzs⟩ := xvs_c hws
    have e := xv_r hz (xbeq c1)
    subst e
    split at h
    · rename_i cc hcc
      obtain ⟨c3, h⟩ := xif_some h
      obtain ⟨c3, c4⟩ := xif_and c3
      obtain ⟨h1, h2, o, h3, h4, h5, h6⟩ := xm_obj_ok hA hcc (xbeq c3)
      split at h
      · rename_i u hu
        obtain ⟨u', h7, -⟩ := xvs_get _ _ h6 _ _ hu
        refine ⟨w, v, _, o, zs, rfl, hw, c2, h3, by rw [← h5]; exact xbeq c4, ?_⟩
        refine xNr_go h hl hzs (xmr_put hA h2 h4 ?_)
        exact ⟨xbeq c3, h5, xvs_set _ _ _ _ _ h6 (List.getElem?_eq_some_iff.mp h7).1 hw⟩
      · cases h
    · cases h
  · cases h
end
