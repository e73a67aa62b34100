/-! A PURE INTERPRETER of the instructions that the system uses, over a memory of its own: cells in a list, references by their place in it
(64 and on; below 64 stand the script and the String constants). It answers none where it does not know. -/
abbrev xj_C : Type := Unit ⊕ ((Nat × Nat × (Nat → Value)) ⊕ (Nat × List Value))
abbrev xj_M : Type := List xj_C × Nat
abbrev xj_L : Type := List (Nat × Value)
abbrev xj_R : Type := Option Value ⊕ Nat
abbrev xj_K : Type := Nat × xj_L × List Value × xj_M
abbrev xj_N : Type := xj_K ⊕ (xj_R × xj_M)
def xj_i2 (f : Int32 → Int32 → Int32) (st : List Value) : Option (List Value) := match st with | .int y :: .int x :: r => some (.int (f x y) :: r) | _ => none
def xj_d2 (f : Int32 → Int32 → Int32) (st : List Value) : Option (List Value) := match st with | .int y :: .int x :: r => if y = 0 then none else some (.int (f x y) :: r) | _ => none
def xj_i1 (f : Int32 → Value) (st : List Value) : Option (List Value) := match st with | .int x :: r => some (f x :: r) | _ => none
def xj_l2 (f : Int64 → Int64 → Value) (st : List Value) : Option (List Value) := match st with | .long y :: .long x :: r => some (f x y :: r) | _ => none
def xj_e2 (f : Int64 → Int64 → Int64) (st : List Value) : Option (List Value) := match st with | .long y :: .long x :: r => if y = 0 then none else some (.long (f x y) :: r) | _ => none
def xj_l1 (f : Int64 → Value) (st : List Value) : Option (List Value) := match st with | .long x :: r => some (f x :: r) | _ => none
def xj_li (f : Int64 → Int32 → Int64) (st : List Value) : Option (List Value) := match st with | .int y :: .long x :: r => some (.long (f x y) :: r) | _ => none
def xj_du (st : List Value) : Option (List Value) := match st with | a :: r => if a.category = 1 then some (a :: a :: r) else none | _ => none
def xj_po (st : List Value) : Option (List Value) := match st with | a :: r => if a.category = 1 then some r else none | _ => none
def xj_dx (st : List Value) : Option (List Value) := match st with | a :: b :: r => if a.category = 1 ∧ b.category = 1 then some (a :: b :: a :: r) else none | _ => none
def xj_dz (st : List Value) : Option (List Value) := match st with | a :: b :: d :: r => if a.category = 1 ∧ b.category = 1 ∧ d.category = 1 then some (a :: b :: d :: a :: r) else none | _ => none
def xj_dd (st : List Value) : Option (List Value) := match st with | a :: b :: r => if a.category = 1 ∧ b.category = 1 then some (a :: b :: a :: b :: r) else none | _ => none
def xj_dy (st : List Value) : Option (List Value) := match st with | a :: b :: r => if a.category = 2 ∧ b.category = 1 then some (a :: b :: a :: r) else none | _ => none
def xj_pp (st : List Value) : Option (List Value) := match st with | a :: r => if a.category = 2 then some r else none | _ => none
/-- what depends on the operand stack alone -/
def xj_pure (ins : Instr) (st : List Value) : Option (List Value) :=
  match ins with
  | .aconst_null => some (.null :: st)
  | .iconst n => some (.int (Int32.ofInt n) :: st)
  | .bipush n => some (.int (Int8.ofInt n).toInt32 :: st)
  | .sipush n => some (.int (Int16.ofInt n).toInt32 :: st)
  | .lconst n => some (.long (Int64.ofNat (n : Nat)) :: st)
  | .iadd => xj_i2 (fun x y => x + y) st
  | .isub => xj_i2 (fun x y => x - y) st
  | .imul => xj_i2 (fun x y => x * y) st
  | .iand => xj_i2 (fun x y => x &&& y) st
  | .ior => xj_i2 (fun x y => x ||| y) st
  | .ixor => xj_i2 (fun x y => x ^^^ y) st
  | .ishl => xj_i2 (fun x y => x <<< (y &&& 31)) st
  | .ishr => xj_i2 (fun x y => x >>> (y &&& 31)) st
  | .iushr => xj_i2 (fun x y => (x.toUInt32 >>> (y.toUInt32 &&& Int32.toUInt32 31)).toInt32) st
  | .idiv => xj_d2 (fun x y => x / y) st
  | .irem => xj_d2 (fun x y => x - x / y * y) st
  | .ineg => xj_i1 (fun x => .int (-x)) st
  | .ladd => xj_l2 (fun x y => .long (x + y)) st
  | .lsub => xj_l2 (fun x y => .long (x - y)) st
  | .lmul => xj_l2 (fun x y => .long (x * y)) st
  | .land => xj_l2 (fun x y => .long (x &&& y)) st
  | .lor => xj_l2 (fun x y => .long (x ||| y)) st
  | .lxor => xj_l2 (fun x y => .long (x ^^^ y)) st
  | .lcmp => xj_l2 (fun x y => .int (lg_cmp x y)) st
  | .ldiv => xj_e2 (fun x y => x / y) st
  | .lrem => xj_e2 (fun x y => x - x / y * y) st
  | .lneg => xj_l1 (fun x => .long (-x)) st
  | .lshl => xj_li (fun x y => x <<< (y.toInt64 &&& 63)) st
  | .lshr => xj_li (fun x y => x >>> (y.toInt64 &&& 63)) st
  | .lushr => xj_li (fun x y => (x.toUInt64 >>> (y.toInt64.toUInt64 &&& Int64.toUInt64 63)).toInt64) st
  | .i2l => xj_i1 (fun x => .long x.toInt64) st
  | .l2i => xj_l1 (fun x => .int x.toInt32) st
  | .i2b => xj_i1 (fun x => .int x.toInt8.toInt32) st
  | .i2c => xj_i1 (fun x => .int (x.toUInt32 % 65536).toInt32) st
  | .dup => xj_du st
  | .pop => xj_po st
  | .dup_x1 => xj_dx st
  | .dup_x2 => xj_dz st
  | .dup2 => xj_dd st
  | .dup2_x1 => xj_dy st
  | .pop2 => xj_pp st
  | _ => none
/-- how long the instructions are that are followed -/
def xj_len (ins : Instr) : Nat :=
  match ins with
  | .bipush _ => 2
  | .sipush _ => 3
  | .iload _ => 2
  | .lload _ => 2
  | .aload _ => 2
  | .istore _ => 2
  | .lstore _ => 2
  | .astore _ => 2
  | .iinc _ _ => 3
  | .goto _ => 3
  | .ifCond _ _ => 3
  | .if_icmp _ _ => 3
  | .if_acmp _ _ => 3
  | .ifnull _ => 3
  | .ifnonnull _ => 3
  | .ldc _ => 2
  | .ldc_w _ => 3
  | .ldc2_w _ => 3
  | .getstatic _ => 3
  | .getfield _ => 3
  | .putfield _ => 3
  | .new _ => 3
  | .newarray _ => 2
  | .anewarray _ => 3
  | .checkcast _ => 3
  | .invokevirtual _ => 3
  | .invokespecial _ => 3
  | .invokestatic _ => 3
  | _ => 1
/-- the locals: those that are known, by their numbers -/
def xj_ld (lv : xj_L) (i : Nat) : Option Value := (lv.find? (fun q => q.1 == i)).map (fun q => q.2)
def xj_s1 (lv : xj_L) (i : Nat) (v : Value) : xj_L := (i, v) :: lv.filter (fun q => !(q.1 == i) && !(q.1 + 1 == i && q.2.category == 2))
def xj_s2 (lv : xj_L) (i : Nat) (v : Value) : xj_L := (i, v) :: lv.filter (fun q => !(q.1 == i) && (!(q.1 == i + 1) && !(q.1 + 1 == i && q.2.category == 2)))
def xj_ldi (lv : xj_L) (i : Nat) (st : List Value) : Option (xj_L × List Value) := match xj_ld lv i with | some (.int x) => some (lv, .int x :: st) | _ => none
def xj_ldl (lv : xj_L) (i : Nat) (st : List Value) : Option (xj_L × List Value) := match xj_ld lv i with | some (.long x) => some (lv, .long x :: st) | _ => none
def xj_lda (lv : xj_L) (i : Nat) (st : List Value) : Option (xj_L × List Value) := match xj_ld lv i with | some (.ref x) => some (lv, .ref x :: st) | some .null => some (lv, .null :: st) | _ => none
def xj_sti (nL : Nat) (lv : xj_L) (i : Nat) (st : List Value) : Option (xj_L × List Value) := match st with | .int x :: r => if i < nL then some (xj_s1 lv i (.int x), r) else none | _ => none
def xj_stl (nL : Nat) (lv : xj_L) (i : Nat) (st : List Value) : Option (xj_L × List Value) := match st with | .long x :: r => if i + 1 < nL then some (xj_s2 lv i (.long x), r) else none | _ => none
def xj_sta (nL : Nat) (lv : xj_L) (i : Nat) (st : List Value) : Option (xj_L × List Value) := match st with | .ref x :: r => if i < nL then some (xj_s1 lv i (.ref x), r) else none | .null :: r => if i < nL then some (xj_s1 lv i .null, r) else none | _ => none
def xj_inc (nL : Nat) (lv : xj_L) (i : Nat) (n : Int) (st : List Value) : Option (xj_L × List Value) := match xj_ld lv i with | some (.int x) => if i < nL then some (xj_s1 lv i (.int (x + Int32.ofInt n)), st) else none | _ => none
def xj_loc (nL : Nat) (ins : Instr) (lv : xj_L) (st : List Value) : Option (xj_L × List Value) :=
  match ins with
  | .iload_n k => xj_ldi lv (k : Nat) st
  | .iload i => xj_ldi lv i st
  | .lload_n k => xj_ldl lv (k : Nat) st
  | .lload i => xj_ldl lv i st
  | .aload_n k => xj_lda lv (k : Nat) st
  | .aload i => xj_lda lv i st
  | .istore_n k => xj_sti nL lv (k : Nat) st
  | .istore i => xj_sti nL lv i st
  | .lstore_n k => xj_stl nL lv (k : Nat) st
  | .lstore i => xj_stl nL lv i st
  | .astore_n k => xj_sta nL lv (k : Nat) st
  | .astore i => xj_sta nL lv i st
  | .iinc i n => xj_inc nL lv i n st
  | _ => none
/-- jumps: the offset, whether it is taken, and what is left on the stack -/
abbrev xj_O : Type := Option ((Int × Bool) × List Value)
def xj_z1 (f : Int32 → Bool) (off : Int) (st : List Value) : xj_O := match st with | .int x :: r => some ((off, f x), r) | _ => none
def xj_z2 (f : Int32 → Int32 → Bool) (off : Int) (st : List Value) : xj_O := match st with | .int y :: .int x :: r => some ((off, f x y), r) | _ => none
def xj_nu (off : Int) (st : List Value) : xj_O := match st with | .null :: r => some ((off, true), r) | .ref _ :: r => some ((off, false), r) | _ => none
def xj_nn (off : Int) (st : List Value) : xj_O := match st with | .null :: r => some ((off, false), r) | .ref _ :: r => some ((off, true), r) | _ => none
def xj_ac (off : Int) (st : List Value) : xj_O := match st with | .ref y :: .ref x :: r => if 64 ≤ x ∧ 64 ≤ y then some ((off, decide (¬ x = y)), r) else none | _ => none
def xj_ts (d lo hi : Int) (offs : Array Int) (st : List Value) : xj_O := match st with | .int x :: r => if x.toInt < lo ∨ hi < x.toInt then some ((d, true), r) else (match offs[(x.toInt - lo).toNat]? with | some off => some ((off, true), r) | none => none) | _ => none
def xj_lk (d : Int) (ps : Array (Int × Int)) (st : List Value) : xj_O := match st with | .int x :: r => if (ps.toList.zip (ps.toList.drop 1)).all (fun (a, next) => a.1 < next.1) = true then some ((Op.lookupswitch.offset ps.toList d x.toInt, true), r) else none | _ => none
def xj_jmp (ins : Instr) (st : List Value) : xj_O :=
  match ins with
  | .goto off => some ((off, true), st)
  | .ifCond .eq off => xj_z1 (fun x => decide (x = 0)) off st
  | .ifCond .ne off => xj_z1 (fun x => decide (¬ x = 0)) off st
  | .ifCond .lt off => xj_z1 (fun x => decide (x < 0)) off st
  | .ifCond .ge off => xj_z1 (fun x => decide (0 ≤ x)) off st
  | .ifCond .gt off => xj_z1 (fun x => decide (0 < x)) off st
  | .ifCond .le off => xj_z1 (fun x => decide (x ≤ 0)) off st
  | .if_icmp .eq off => xj_z2 (fun x y => decide (x = y)) off st
  | .if_icmp .ne off => xj_z2 (fun x y => decide (¬ x = y)) off st
  | .if_icmp .lt off => xj_z2 (fun x y => decide (x < y)) off st
  | .if_icmp .ge off => xj_z2 (fun x y => decide (y ≤ x)) off st
  | .if_icmp .gt off => xj_z2 (fun x y => decide (y < x)) off st
  | .if_icmp .le off => xj_z2 (fun x y => decide (x ≤ y)) off st
  | .ifnull off => xj_nu off st
  | .ifnonnull off => xj_nn off st
  | .if_acmp .ne off => xj_ac off st
  | .tableswitch d lo hi offs => xj_ts d lo hi offs st
  | .lookupswitch d ps => xj_lk d ps st
  | _ => none
def xj_tg (pc : Nat) (off : Int) : Option Nat := if 0 ≤ (pc : Int) + off then some ((pc : Int) + off).toNat else none
/-- where a jump goes -/
def xj_J (pc len : Nat) (jo : Int × Bool) : Option Nat := match xj_tg pc jo.1 with | some t => some (if jo.2 then t else pc + len) | none => none
/-- the memory -/
def xj_get (M : xj_M) (a : Nat) : Option xj_C := if a < 64 then none else M.1[a - 64]?
def xj_arr (M : xj_M) (a : Nat) : Option (Nat × Nat × (Nat → Value)) := match xj_get M a with | some (.inr (.inl x)) => some x | _ => none
def xj_obj (M : xj_M) (a : Nat) : Option (Nat × List Value) := match xj_get M a with | some (.inr (.inr x)) => some x | _ => none
def xj_put (M : xj_M) (a : Nat) (x : xj_C) : xj_M := (M.1.set (a - 64) x, M.2)
def xj_new (M : xj_M) (x : xj_C) (n : Nat) : xj_M := (M.1 ++ [x], M.2 + n)
def xj_nx (M : xj_M) : Nat := 64 + M.1.length
/-- an array's element by its index, if it is inside -/
def xj_ix (n : Nat) (i : Int32) : Option Nat := if i < 0 ∨ n ≤ i.toNatClampNeg then none else some i.toNatClampNeg
