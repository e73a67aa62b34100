/-! Constants, locals, bits, longs -/
def xneg (a : Int) : Int := (-(Int32.ofInt a)).toInt
def xcmp8 (a b : Int) : Int := if b < a then 1 else if a = b then 0 else -1
section
variable {d : Nat} {X : xj_X} {row : xj_mR} {pc nx len : Nat} {lv lv' : xj_L} {st : List Value} {M : xj_M} {Q : xj_R → xj_M → Prop} {a b : Int}
theorem xe_bipush {n : Int} (hd : decode row.2.2.1 pc = .ok (.bipush n, 2)) (hv : (Int8.ofInt n).toInt32 = Int32.ofInt n) (hn : pc + 2 = nx) (k : xW d X row (nx, lv, xI n :: st, M) Q) : xW d X row (pc, lv, st, M) Q :=
  xe_pure (st' := xI n :: st) hd rfl (by show some (Value.int (Int8.ofInt n).toInt32 :: st) = _; rw [hv]) hn k
theorem xe_sipush {n : Int} (hd : decode row.2.2.1 pc = .ok (.sipush n, 3)) (hv : (Int16.ofInt n).toInt32 = Int32.ofInt n) (hn : pc + 3 = nx) (k : xW d X row (nx, lv, xI n :: st, M) Q) : xW d X row (pc, lv, st, M) Q :=
  xe_pure (st' := xI n :: st) hd rfl (by show some (Value.int (Int16.ofInt n).toInt32 :: st) = _; rw [hv]) hn k
theorem xe_iconst {n : Int} (hd : decode row.2.2.1 pc = .ok (.iconst n, 1)) (hn : pc + 1 = nx) (k : xW d X row (nx, lv, xI n :: st, M) Q) : xW d X row (pc, lv, st, M) Q :=
  xe_pure (st' := xI n :: st) hd rfl rfl hn k
theorem xe_lconst {n : Fin 2} {z : Int} (hd : decode row.2.2.1 pc = .ok (.lconst n, 1)) (hv : Int64.ofNat (n : Nat) = Int64.ofInt z) (hn : pc + 1 = nx) (k : xW d X row (nx, lv, xZ z :: st, M) Q) : xW d X row (pc, lv, st, M) Q :=
  xe_pure (st' := xZ z :: st) hd rfl (by show some (Value.long (Int64.ofNat (n : Nat)) :: st) = _; rw [hv]) hn k
theorem xe_ldci {ins : Instr} {n : Int} (hd : decode row.2.2.1 pc = .ok (ins, len)) (hl : xj_lenok ins len = true) (h0 : xj_pure ins st = none) (h1 : xj_loc row.2.2.2.1 ins lv st = none) (h2 : xj_jmp ins st = none) (h : xj_ct row.1 ins st = some (xI n :: st)) (hn : pc + len = nx) (k : xW d X row (nx, lv, xI n :: st, M) Q) : xW d X row (pc, lv, st, M) Q :=
  xe_ct hd hl h0 h1 h2 h hn k
theorem xe_ldc2 {i : Nat} {n : Int} (hd : decode row.2.2.1 pc = .ok (.ldc2_w i, 3)) (hv : xj_lng row.1 i = some (Int64.ofInt n)) (hn : pc + 3 = nx) (k : xW d X row (nx, lv, xZ n :: st, M) Q) : xW d X row (pc, lv, st, M) Q :=
  xe_ct (st' := xZ n :: st) hd rfl rfl rfl rfl (by show (match xj_lng row.1 i with | some v => some (Value.long v :: st) | none => none) = _; rw [hv]) hn k
/-- locals -/
theorem xe_ldn {ins : Instr} {v : Value} (hd : decode row.2.2.1 pc = .ok (ins, len)) (hl : xj_lenok ins len = true) (h0 : xj_pure ins st = none) (h : xj_loc row.2.2.2.1 ins lv st = some (lv, v :: st)) (hn : pc + len = nx) (k : xW d X row (nx, lv, v :: st, M) Q) : xW d X row (pc, lv, st, M) Q :=
  xe_loc hd hl h0 h rfl rfl hn k
theorem xe_stn {ins : Instr} {v : Value} (hd : decode row.2.2.1 pc = .ok (ins, len)) (hl : xj_lenok ins len = true) (h0 : xj_pure ins (v :: st) = none) (h : xj_loc row.2.2.2.1 ins lv (v :: st) = some (lv', st)) (hn : pc + len = nx) (k : xW d X row (nx, lv', st, M) Q) : xW d X row (pc, lv, v :: st, M) Q :=
  xe_loc hd hl h0 h rfl rfl hn k
theorem xe_iinc {i : Nat} {n z : Int} (hd : decode row.2.2.1 pc = .ok (.iinc i n, 3)) (hi : i < row.2.2.2.1) (h : xj_ld lv i = some (xI z)) (hs : xj_s1 lv i (xI (xwr (z + n))) = lv') (hn : pc + 3 = nx) (k : xW d X row (nx, lv', st, M) Q) : xW d X row (pc, lv, st, M) Q := by
  refine xe_loc (q := (xj_s1 lv i (xI (xwr (z + n))), st)) hd rfl rfl ?_ hs rfl hn k
  show (match xj_ld lv i with | some (.int x) => if i < row.2.2.2.1 then some (xj_s1 lv i (.int (x + Int32.ofInt n)), st) else none | _ => none) = _
  rw [h]
  simp only [if_pos hi, xI, xwr, Int32.ofInt_toInt, Int32.ofInt_add]
/-- bits of ints -/
theorem xe_op2 {ins : Instr} {f : Int32 → Int32 → Int32} (hd : decode row.2.2.1 pc = .ok (ins, 1)) (hl : xj_lenok ins 1 = true) (hf : ∀ st, xj_pure ins st = xj_i2 f st) (hn : pc + 1 = nx) (k : xW d X row (nx, lv, xI (f (Int32.ofInt a) (Int32.ofInt b)).toInt :: st, M) Q) : xW d X row (pc, lv, xI b :: xI a :: st, M) Q :=
  xe_pure (st' := xI (f (Int32.ofInt a) (Int32.ofInt b)).toInt :: st) hd hl (by rw [hf]; simp only [xj_i2, xI, Int32.ofInt_toInt]) hn k
theorem xe_iand (hd : decode row.2.2.1 pc = .ok (.iand, 1)) (hn : pc + 1 = nx) (k : xW d X row (nx, lv, xI (xand a b) :: st, M) Q) : xW d X row (pc, lv, xI b :: xI a :: st, M) Q :=
  xe_op2 (f := fun x y => x &&& y) hd rfl (fun _ => rfl) hn k
theorem xe_ior (hd : decode row.2.2.1 pc = .ok (.ior, 1)) (hn : pc + 1 = nx) (k : xW d X row (nx, lv, xI (xor_ a b) :: st, M) Q) : xW d X row (pc, lv, xI b :: xI a :: st, M) Q :=
  xe_op2 (f := fun x y => x ||| y) hd rfl (fun _ => rfl) hn k
theorem xe_ixor (hd : decode row.2.2.1 pc = .ok (.ixor, 1)) (hn : pc + 1 = nx) (k : xW d X row (nx, lv, xI (xxor a b) :: st, M) Q) : xW d X row (pc, lv, xI b :: xI a :: st, M) Q :=
  xe_op2 (f := fun x y => x ^^^ y) hd rfl (fun _ => rfl) hn k
theorem xe_ishl (hd : decode row.2.2.1 pc = .ok (.ishl, 1)) (hn : pc + 1 = nx) (k : xW d X row (nx, lv, xI (xshl a b) :: st, M) Q) : xW d X row (pc, lv, xI b :: xI a :: st, M) Q :=
  xe_op2 (f := fun x y => x <<< (y &&& 31)) hd rfl (fun _ => rfl) hn k
theorem xe_ishr (hd : decode row.2.2.1 pc = .ok (.ishr, 1)) (hn : pc + 1 = nx) (k : xW d X row (nx, lv, xI (xshr a b) :: st, M) Q) : xW d X row (pc, lv, xI b :: xI a :: st, M) Q :=
  xe_op2 (f := fun x y => x >>> (y &&& 31)) hd rfl (fun _ => rfl) hn k
theorem xe_iushr (hd : decode row.2.2.1 pc = .ok (.iushr, 1)) (hn : pc + 1 = nx) (k : xW d X row (nx, lv, xI (xush a b) :: st, M) Q) : xW d X row (pc, lv, xI b :: xI a :: st, M) Q :=
  xe_op2 (f := fun x y => (x.toUInt32 >>> (y.toUInt32 &&& Int32.toUInt32 31)).toInt32) hd rfl (fun _ => rfl) hn k
theorem xe_opd {ins : Instr} {f : Int32 → Int32 → Int32} (hd : decode row.2.2.1 pc = .ok (ins, 1)) (hl : xj_lenok ins 1 = true) (hf : ∀ st, xj_pure ins st = xj_d2 f st) (hn : pc + 1 = nx) (hb : xin b) (hb0 : b ≠ 0) (k : xW d X row (nx, lv, xI (f (Int32.ofInt a) (Int32.ofInt b)).toInt :: st, M) Q) : xW d X row (pc, lv, xI b :: xI a :: st, M) Q :=
  xe_pure (st' := xI (f (Int32.ofInt a) (Int32.ofInt b)).toInt :: st) hd hl (by
    rw [hf]
    show (if Int32.ofInt b = 0 then none else some (Value.int (f (Int32.ofInt a) (Int32.ofInt b)) :: st)) = _
    rw [if_neg (fun q : Int32.ofInt b = 0 => hb0 ((xin_eq hb xin_0).mp (q.trans (show (0 : Int32) = Int32.ofInt 0 from rfl))))]
    simp only [xI, Int32.ofInt_toInt]) hn k
theorem xe_idiv (hd : decode row.2.2.1 pc = .ok (.idiv, 1)) (hn : pc + 1 = nx) (hb : xin b) (hb0 : b ≠ 0) (k : xW d X row (nx, lv, xI (xdiv a b) :: st, M) Q) : xW d X row (pc, lv, xI b :: xI a :: st, M) Q :=
  xe_opd (f := fun x y => x / y) hd rfl (fun _ => rfl) hn hb hb0 k
theorem xe_irem (hd : decode row.2.2.1 pc = .ok (.irem, 1)) (hn : pc + 1 = nx) (hb : xin b) (hb0 : b ≠ 0) (k : xW d X row (nx, lv, xI (xrem a b) :: st, M) Q) : xW d X row (pc, lv, xI b :: xI a :: st, M) Q :=
  xe_opd (f := fun x y => x - x / y * y) hd rfl (fun _ => rfl) hn hb hb0 k
/-- longs -/
theorem xe_lop {ins : Instr} {f : Int64 → Int64 → Int64} (hd : decode row.2.2.1 pc = .ok (ins, 1)) (hl : xj_lenok ins 1 = true) (hf : ∀ st, xj_pure ins st = xj_l2 (fun x y => .long (f x y)) st) (hn : pc + 1 = nx) (k : xW d X row (nx, lv, xZ (f (Int64.ofInt a) (Int64.ofInt b)).toInt :: st, M) Q) : xW d X row (pc, lv, xZ b :: xZ a :: st, M) Q :=
  xe_pure (st' := xZ (f (Int64.ofInt a) (Int64.ofInt b)).toInt :: st) hd hl (by rw [hf]; simp only [xj_l2, xZ, Int64.ofInt_toInt]) hn k
theorem xe_land (hd : decode row.2.2.1 pc = .ok (.land, 1)) (hn : pc + 1 = nx) (k : xW d X row (nx, lv, xZ (xand8 a b) :: st, M) Q) : xW d X row (pc, lv, xZ b :: xZ a :: st, M) Q :=
  xe_lop (f := fun x y => x &&& y) hd rfl (fun _ => rfl) hn k
theorem xe_lor (hd : decode row.2.2.1 pc = .ok (.lor, 1)) (hn : pc + 1 = nx) (k : xW d X row (nx, lv, xZ (xor8 a b) :: st, M) Q) : xW d X row (pc, lv, xZ b :: xZ a :: st, M) Q :=
  xe_lop (f := fun x y => x ||| y) hd rfl (fun _ => rfl) hn k
theorem xe_lxor (hd : decode row.2.2.1 pc = .ok (.lxor, 1)) (hn : pc + 1 = nx) (k : xW d X row (nx, lv, xZ (xxor8 a b) :: st, M) Q) : xW d X row (pc, lv, xZ b :: xZ a :: st, M) Q :=
  xe_lop (f := fun x y => x ^^^ y) hd rfl (fun _ => rfl) hn k
theorem xe_lcmp (hd : decode row.2.2.1 pc = .ok (.lcmp, 1)) (hn : pc + 1 = nx) (ha : xiN a) (hb : xiN b) (k : xW d X row (nx, lv, xI (xcmp8 a b) :: st, M) Q) : xW d X row (pc, lv, xZ b :: xZ a :: st, M) Q := by
  refine xe_pure (st' := xI (xcmp8 a b) :: st) hd rfl ?_ hn k
  show some (Value.int (lg_cmp (Int64.ofInt a) (Int64.ofInt b)) :: st) = _
  unfold lg_cmp xcmp8
  by_cases h : b < a
  · rw [if_pos (by show Int64.ofInt b < Int64.ofInt a; rw [xiN_lt hb ha]; exact h), if_pos h]; rfl
  · rw [if_neg (by show ¬ Int64.ofInt b < Int64.ofInt a; rw [xiN_lt hb ha]; exact h), if_neg h]
    by_cases e : a = b
    · rw [if_pos (by rw [e]), if_pos e]; rfl
    · rw [if_neg (by rw [xiN_eq ha hb]; exact e), if_neg e]; rfl
theorem xe_i2l (hd : decode row.2.2.1 pc = .ok (.i2l, 1)) (hn : pc + 1 = nx) (ha : xin a) (k : xW d X row (nx, lv, xZ a :: st, M) Q) : xW d X row (pc, lv, xI a :: st, M) Q :=
  xe_pure (st' := xZ a :: st) hd rfl (by
    show some (Value.long (Int32.ofInt a).toInt64 :: st) = _
    have h : (Int32.ofInt a).toInt64 = Int64.ofInt a := by
      rw [← Int64.toInt_inj, Int32.toInt_toInt64, xin_to ha, xiN_to]
      unfold xin at ha
      exact ⟨by omega, by omega⟩
    rw [h]) hn k
theorem xe_l2i (hd : decode row.2.2.1 pc = .ok (.l2i, 1)) (hn : pc + 1 = nx) (k : xW d X row (nx, lv, xI (xwr a) :: st, M) Q) : xW d X row (pc, lv, xZ a :: st, M) Q :=
  xe_pure (st' := xI (xwr a) :: st) hd rfl (by
    show some (Value.int (Int64.ofInt a).toInt32 :: st) = _
    simp only [xI, xwr, Int32.ofInt_toInt, Int64.toInt32_ofInt]) hn k
theorem xe_l1 {ins : Instr} {f : Int64 → Int64} (hd : decode row.2.2.1 pc = .ok (ins, 1)) (hl : xj_lenok ins 1 = true) (hf : ∀ st, xj_pure ins st = xj_l1 (fun x => .long (f x)) st) (hn : pc + 1 = nx) (k : xW d X row (nx, lv, xZ (f (Int64.ofInt a)).toInt :: st, M) Q) : xW d X row (pc, lv, xZ a :: st, M) Q :=
  xe_pure (st' := xZ (f (Int64.ofInt a)).toInt :: st) hd hl (by rw [hf]; simp only [xj_l1, xZ, Int64.ofInt_toInt]) hn k
theorem xe_lneg (hd : decode row.2.2.1 pc = .ok (.lneg, 1)) (hn : pc + 1 = nx) (k : xW d X row (nx, lv, xZ (xneg8 a) :: st, M) Q) : xW d X row (pc, lv, xZ a :: st, M) Q :=
  xe_l1 (f := fun x => -x) hd rfl (fun _ => rfl) hn k
theorem xe_li {ins : Instr} {f : Int64 → Int32 → Int64} (hd : decode row.2.2.1 pc = .ok (ins, 1)) (hl : xj_lenok ins 1 = true) (hf : ∀ st, xj_pure ins st = xj_li f st) (hn : pc + 1 = nx) (k : xW d X row (nx, lv, xZ (f (Int64.ofInt a) (Int32.ofInt b)).toInt :: st, M) Q) : xW d X row (pc, lv, xI b :: xZ a :: st, M) Q :=
  xe_pure (st' := xZ (f (Int64.ofInt a) (Int32.ofInt b)).toInt :: st) hd hl (by rw [hf]; simp only [xj_li, xZ, Int64.ofInt_toInt]) hn k
theorem xe_lshl (hd : decode row.2.2.1 pc = .ok (.lshl, 1)) (hn : pc + 1 = nx) (k : xW d X row (nx, lv, xZ (xshl8 a b) :: st, M) Q) : xW d X row (pc, lv, xI b :: xZ a :: st, M) Q :=
  xe_li (f := fun x y => x <<< (y.toInt64 &&& 63)) hd rfl (fun _ => rfl) hn k
theorem xe_lshr (hd : decode row.2.2.1 pc = .ok (.lshr, 1)) (hn : pc + 1 = nx) (k : xW d X row (nx, lv, xZ (xshr8 a b) :: st, M) Q) : xW d X row (pc, lv, xI b :: xZ a :: st, M) Q :=
  xe_li (f := fun x y => x >>> (y.toInt64 &&& 63)) hd rfl (fun _ => rfl) hn k
theorem xe_lopd {ins : Instr} {f : Int64 → Int64 → Int64} (hd : decode row.2.2.1 pc = .ok (ins, 1)) (hl : xj_lenok ins 1 = true) (hf : ∀ st, xj_pure ins st = xj_e2 f st) (hn : pc + 1 = nx) (hb : xiN b) (hb0 : b ≠ 0) (k : xW d X row (nx, lv, xZ (f (Int64.ofInt a) (Int64.ofInt b)).toInt :: st, M) Q) : xW d X row (pc, lv, xZ b :: xZ a :: st, M) Q :=
  xe_pure (st' := xZ (f (Int64.ofInt a) (Int64.ofInt b)).toInt :: st) hd hl (by
    rw [hf]
    show (if Int64.ofInt b = 0 then none else some (Value.long (f (Int64.ofInt a) (Int64.ofInt b)) :: st)) = _
    rw [if_neg (fun q : Int64.ofInt b = 0 => hb0 ((xiN_eq hb (by decide)).mp (q.trans (show (0 : Int64) = Int64.ofInt 0 from rfl))))]
    simp only [xZ, Int64.ofInt_toInt]) hn k
theorem xe_ldiv (hd : decode row.2.2.1 pc = .ok (.ldiv, 1)) (hn : pc + 1 = nx) (hb : xiN b) (hb0 : b ≠ 0) (k : xW d X row (nx, lv, xZ (xdiv8 a b) :: st, M) Q) : xW d X row (pc, lv, xZ b :: xZ a :: st, M) Q :=
  xe_lopd (f := fun x y => x / y) hd rfl (fun _ => rfl) hn hb hb0 k
theorem xe_lrem (hd : decode row.2.2.1 pc = .ok (.lrem, 1)) (hn : pc + 1 = nx) (hb : xiN b) (hb0 : b ≠ 0) (k : xW d X row (nx, lv, xZ (xrem8 a b) :: st, M) Q) : xW d X row (pc, lv, xZ b :: xZ a :: st, M) Q :=
  xe_lopd (f := fun x y => x - x / y * y) hd rfl (fun _ => rfl) hn hb hb0 k
theorem xe_i1 {ins : Instr} {f : Int32 → Int32} (hd : decode row.2.2.1 pc = .ok (ins, 1)) (hl : xj_lenok ins 1 = true) (hf : ∀ st, xj_pure ins st = xj_i1 (fun x => .int (f x)) st) (hn : pc + 1 = nx) (k : xW d X row (nx, lv, xI (f (Int32.ofInt a)).toInt :: st, M) Q) : xW d X row (pc, lv, xI a :: st, M) Q :=
  xe_pure (st' := xI (f (Int32.ofInt a)).toInt :: st) hd hl (by rw [hf]; simp only [xj_i1, xI, Int32.ofInt_toInt]) hn k
theorem xe_ineg (hd : decode row.2.2.1 pc = .ok (.ineg, 1)) (hn : pc + 1 = nx) (k : xW d X row (nx, lv, xI (xneg a) :: st, M) Q) : xW d X row (pc, lv, xI a :: st, M) Q :=
  xe_i1 (f := fun x => -x) hd rfl (fun _ => rfl) hn k
theorem xe_i2b (hd : decode row.2.2.1 pc = .ok (.i2b, 1)) (hn : pc + 1 = nx) (k : xW d X row (nx, lv, xI (xi2b a) :: st, M) Q) : xW d X row (pc, lv, xI a :: st, M) Q :=
  xe_i1 (f := fun x => x.toInt8.toInt32) hd rfl (fun _ => rfl) hn k
theorem xe_i2c (hd : decode row.2.2.1 pc = .ok (.i2c, 1)) (hn : pc + 1 = nx) (k : xW d X row (nx, lv, xI (xi2ch a) :: st, M) Q) : xW d X row (pc, lv, xI a :: st, M) Q :=
  xe_i1 (f := fun x => (x.toUInt32 % 65536).toInt32) hd rfl (fun _ => rfl) hn k
end
theorem xin_cmp8 (a b : Int) : xin (xcmp8 a b) := by
  unfold xcmp8
  split
  · decide
  · split <;> decide
/-- fewer locals -/
def xsb (l l' : xj_L) : Prop := (∀ q, q ∈ l → q ∈ l') ∧ (l'.map (fun q => q.1)).Nodup
theorem xld_mem {l : xj_L} {k : Nat} {v : Value} (h : xj_ld l k = some v) : (k, v) ∈ l := by
  unfold xj_ld at h
  obtain ⟨q, h1, h2⟩ := Option.map_eq_some_iff.mp h
  have h3 := List.find?_some h1
  have h4 := List.mem_of_find?_eq_some h1
  simp only [beq_iff_eq] at h3
  rw [← h3, ← h2]
  exact h4
theorem xmem_ld : ∀ {l : xj_L} {k : Nat} {v : Value}, (l.map (fun q => q.1)).Nodup → (k, v) ∈ l → xj_ld l k = some v := by
  intro l
  induction l with
  | nil => intro k v _ h; cases h
  | cons q t ih =>
    intro k v hn hm
    rw [List.map_cons, List.nodup_cons] at hn
    unfold xj_ld
    rw [List.find?_cons]
    by_cases e : q.1 = k
    · simp only [e, beq_self_eq_true, Option.map_some, Option.some.injEq]
      rcases List.mem_cons.mp hm with h | h
      · rw [← h]
      · exact absurd (List.mem_map.mpr ⟨(k, v), h, e.symm⟩) hn.1
    · have e2 : (q.1 == k) = false := by simp [e]
      rw [e2]
      rcases List.mem_cons.mp hm with h | h
      · exact absurd (by rw [← h]) e
      · exact ih hn.2 h
theorem xsb.ld {l l' : xj_L} (h : xsb l l') {k : Nat} {v : Value} (hv : xj_ld l k = some v) : xj_ld l' k = some v := xmem_ld h.2 (h.1 _ (xld_mem hv))
theorem xsb.put {l l' : xj_L} (h : xsb l l') (i : Nat) (v : Value) (p : Nat × Value → Bool) (hp : ∀ q : Nat × Value, q.1 = i → p q = false) : xsb ((i, v) :: l.filter p) ((i, v) :: l'.filter p) := by
  refine ⟨fun q hq => ?_, ?_⟩
  · rcases List.mem_cons.mp hq with e | e
    · exact List.mem_cons.mpr (Or.inl e)
    · rw [List.mem_filter] at e
      exact List.mem_cons.mpr (Or.inr (List.mem_filter.mpr ⟨h.1 _ e.1, e.2⟩))
  · rw [List.map_cons, List.nodup_cons]
    refine ⟨fun hm => ?_, (List.Sublist.map _ List.filter_sublist).nodup h.2⟩
    obtain ⟨q, h1, h2⟩ := List.mem_map.mp hm
    have h3 := (List.mem_filter.mp h1).2
    rw [hp q h2] at h3
    cases h3
theorem xsb.s1 {l l' : xj_L} (h : xsb l l') (i : Nat) (v : Value) : xsb (xj_s1 l i v) (xj_s1 l' i v) := h.put i v _ (fun q e => by simp [e])
theorem xsb.s2 {l l' : xj_L} (h : xsb l l') (i : Nat) (v : Value) : xsb (xj_s2 l i v) (xj_s2 l' i v) := h.put i v _ (fun q e => by simp [e])
def xisl (ins : Instr) : Bool := match ins with
  | .iload_n _ => true
  | .iload _ => true
  | .lload_n _ => true
  | .lload _ => true
  | .aload_n _ => true
  | .aload _ => true
  | .istore_n _ => true
  | .istore _ => true
  | .lstore_n _ => true
  | .lstore _ => true
  | .astore_n _ => true
  | .astore _ => true
  | .iinc _ _ => true
  | _ => false
theorem xisl_no {ins : Instr} (h : xisl ins = false) (nL : Nat) (l : xj_L) (st : List Value) : xj_loc nL ins l st = none := by
  cases ins <;> first | rfl | (cases h)
theorem xsb.loc {l l' : xj_L} (h : xsb l l') {nL : Nat} {ins : Instr} {st : List Value} {q : xj_L × List Value} (hq : xj_loc nL ins l st = some q) : ∃ l2, xj_loc nL ins l' st = some (l2, q.2) ∧ xsb q.1 l2 := by
  have li : ∀ i, xj_ldi l i st = some q → ∃ l2, xj_ldi l' i st = some (l2, q.2) ∧ xsb q.1 l2 := by
    intro i hq
    unfold xj_ldi at hq ⊢
    split at hq
    · rename_i x hx; cases hq; rw [h.ld hx]; exact ⟨l', rfl, h⟩
    · cases hq
  have ll : ∀ i, xj_ldl l i st = some q → ∃ l2, xj_ldl l' i st = some (l2, q.2) ∧ xsb q.1 l2 := by
    intro i hq
    unfold xj_ldl at hq ⊢
    split at hq
    · rename_i x hx; cases hq; rw [h.ld hx]; exact ⟨l', rfl, h⟩
    · cases hq
  have la : ∀ i, xj_lda l i st = some q → ∃ l2, xj_lda l' i st = some (l2, q.2) ∧ xsb q.1 l2 := by
    intro i hq
    unfold xj_lda at hq ⊢
    split at hq
    · rename_i x hx; cases hq; rw [h.ld hx]; exact ⟨l', rfl, h⟩
    · rename_i hx; cases hq; rw [h.ld hx]; exact ⟨l', rfl, h⟩
    · cases hq
  have si : ∀ i, xj_sti nL l i st = some q → ∃ l2, xj_sti nL l' i st = some (l2, q.2) ∧ xsb q.1 l2 := by
    intro i hq
    unfold xj_sti at hq ⊢
    split at hq
    · split at hq
      · rename_i hi; cases hq; exact ⟨_, if_pos hi, h.s1 _ _⟩
      · cases hq
    · cases hq
  have sl : ∀ i, xj_stl nL l i st = some q → ∃ l2, xj_stl nL l' i st = some (l2, q.2) ∧ xsb q.1 l2 := by
    intro i hq
    unfold xj_stl at hq ⊢
    split at hq
    · split at hq
      · rename_i hi; cases hq; exact ⟨_, if_pos hi, h.s2 _ _⟩
      · cases hq
    · cases hq
  have sa : ∀ i, xj_sta nL l i st = some q → ∃ l2, xj_sta nL l' i st = some (l2, q.2) ∧ xsb q.1 l2 := by
    intro i hq
    unfold xj_sta at hq ⊢
    split at hq
    · split at hq
      · rename_i hi; cases hq; exact ⟨_, if_pos hi, h.s1 _ _⟩
      · cases hq
    · split at hq
      · rename_i hi; cases hq; exact ⟨_, if_pos hi, h.s1 _ _⟩
      · cases hq
    · cases hq
  have ic : ∀ i n, xj_inc nL l i n st = some q → ∃ l2, xj_inc nL l' i n st = some (l2, q.2) ∧ xsb q.1 l2 := by
    intro i n hq
    unfold xj_inc at hq ⊢
    split at hq
    · rename_i x hx
      rw [h.ld hx]
      split at hq
      · rename_i hi; cases hq; simp only [if_pos hi]; exact ⟨_, rfl, h.s1 _ _⟩
      · cases hq
    · cases hq
  cases ins <;> first | exact li _ hq | exact ll _ hq | exact la _ hq | exact si _ hq | exact sl _ hq | exact sa _ hq | exact ic _ _ hq | (cases hq)
def xNsb (N N' : xj_N) : Prop := match N, N' with
  | .inl K, .inl K' => K.1 = K'.1 ∧ xsb K.2.1 K'.2.1 ∧ K.2.2 = K'.2.2
  | .inr r, .inr r' => r = r'
  | _, _ => False
theorem xsb.step {l l' : xj_L} (h : xsb l l') {call : xj_F} {X : xj_X} {row : xj_mR} {pc : Nat} {st : List Value} {M : xj_M} {N : xj_N} (hX : X.1 = none) (hN : xj_step call X row (pc, l, st, M) = some N) : ∃ N', xj_step call X row (pc, l', st, M) = some N' ∧ xNsb N N' := by
  unfold xj_step at hN ⊢
  split at hN
  · cases hN
  · rename_i ins len hd
    simp only [hd] at hN ⊢
    split at hN
    · cases hN
    · rename_i hl
      rw [if_neg hl]
      cases hp : xj_pure ins st with
      | some s2 => rw [hp] at hN; cases hN; exact ⟨_, rfl, rfl, h, rfl⟩
      | none =>
        rw [hp] at hN
        simp only at hN ⊢
        cases hq : xj_loc row.2.2.2.1 ins l st with
        | some q =>
          rw [hq] at hN
          cases hN
          obtain ⟨l2, h1, h2⟩ := h.loc hq
          rw [h1]
          exact ⟨_, rfl, rfl, h2, rfl⟩
        | none =>
          rw [hq] at hN
          simp only at hN
          cases hi : xisl ins with
          | true =>
            exfalso
            have hsc : xj_sc X.2.2 ins st = none := by
              cases X.2.2 with
              | none => rfl
              | some xs => cases ins <;> first | rfl | (cases hi)
            cases ins <;> first | (cases hi; done) | (simp [xj_jmp, xj_ct, xj_fx, hsc, xj_mem, xj_mk, xj_ret, xj_mac, xj_tgt, xj_chk, xj_thr] at hN; done)
          | false =>
            rw [xisl_no hi]
            simp only
            cases hj : xj_jmp ins st with
            | some q =>
              rw [hj] at hN
              simp only at hN ⊢
              split at hN
              · rename_i t ht
                cases hN
                exact ⟨.inl (t, l', q.2, M), rfl, rfl, h, rfl⟩
              · cases hN
            | none =>
              rw [hj] at hN
              simp only at hN ⊢
              cases hc : xj_ct row.1 ins st with
              | some s2 => rw [hc] at hN; cases hN; exact ⟨_, rfl, rfl, h, rfl⟩
              | none =>
                rw [hc] at hN
                simp only at hN ⊢
                cases hf : xj_fx row.1 ins st with
                | some s2 => rw [hf] at hN; cases hN; exact ⟨_, rfl, rfl, h, rfl⟩
                | none =>
                  rw [hf] at hN
                  simp only at hN ⊢
                  cases hs : xj_sc X.2.2 ins st with
                  | some s2 => rw [hs] at hN; cases hN; exact ⟨_, rfl, rfl, h, rfl⟩
                  | none =>
                    rw [hs] at hN
                    simp only at hN ⊢
                    cases hm : xj_mem row.1 row.2.2.2.2.2.2.1 ins st M with
                    | some q => rw [hm] at hN; cases hN; exact ⟨_, rfl, rfl, h, rfl⟩
                    | none =>
                      rw [hm] at hN
                      simp only at hN ⊢
                      cases hk : xj_mk row.1 ins st M with
                      | some q => rw [hk] at hN; cases hN; exact ⟨_, rfl, rfl, h, rfl⟩
                      | none =>
                        rw [hk] at hN
                        simp only at hN ⊢
                        cases hr : xj_ret row.2.2.2.2.1 ins st with
                        | some v => rw [hr] at hN; cases hN; exact ⟨_, rfl, rfl⟩
                        | none =>
                          rw [hr] at hN
                          simp only at hN ⊢
                          cases ha : xj_mac row.1 ins st with
                          | some s2 => rw [ha] at hN; cases hN; exact ⟨_, rfl, rfl, h, rfl⟩
                          | none =>
                            rw [ha] at hN
                            simp only at hN ⊢
                            cases ht : xj_tgt row.1 ins st M with
                            | some q =>
                              rw [ht] at hN
                              simp only at hN ⊢
                              cases hcl : call q.1 q.2.1 M with
                              | none => rw [hcl] at hN; cases hN
                              | some w =>
                                rw [hcl] at hN
                                obtain ⟨r, M2⟩ := w
                                cases r with
                                | inl v => cases hN; exact ⟨_, rfl, rfl, h, rfl⟩
                                | inr E =>
                                  simp only [xj_out] at hN ⊢
                                  split at hN
                                  · cases hN
                                  · rename_i hnt
                                    rw [if_neg hnt]
                                    unfold xj_hand at hN ⊢
                                    rw [hX] at hN ⊢
                                    cases hN
                                    exact ⟨_, rfl, rfl⟩
                            | none =>
                              rw [ht] at hN
                              simp only at hN ⊢
                              cases hch : xj_chk X row ins pc st with
                              | some s2 => rw [hch] at hN; cases hN; exact ⟨_, rfl, rfl, h, rfl⟩
                              | none =>
                                rw [hch] at hN
                                simp only at hN ⊢
                                rw [hN]
                                refine ⟨_, rfl, ?_⟩
                                obtain ⟨i, k, -, -, -, -, -, rfl⟩ := xj_thr_inv hN
                                exact rfl
theorem xsb.loop {call : xj_F} {X : xj_X} {row : xj_mR} (hX : X.1 = none) : ∀ (n : Nat) {l l' : xj_L} (_ : xsb l l') {pc : Nat} {st : List Value} {M : xj_M} {r : xj_R × xj_M}, xj_loop call X row n (pc, l, st, M) = some r → xj_loop call X row n (pc, l', st, M) = some r := by
  intro n
  induction n with
  | zero => intro l l' h pc st M r hr; cases hr
  | succ n ih =>
    intro l l' h pc st M r hr
    unfold xj_loop at hr ⊢
    cases hs : xj_step call X row (pc, l, st, M) with
    | none => rw [hs] at hr; cases hr
    | some N =>
      rw [hs] at hr
      obtain ⟨N', h1, h2⟩ := h.step hX hs
      rw [h1]
      cases N with
      | inl K =>
        cases N' with
        | inl K' =>
          obtain ⟨p, lk, sk, mk⟩ := K
          obtain ⟨p', lk', sk', mk'⟩ := K'
          obtain ⟨e1, e2, e3⟩ := h2
          simp only at e1 e2 e3
          cases e3
          subst e1
          exact ih e2 hr
        | inr r' => exact absurd h2 (by simp [xNsb])
      | inr q =>
        cases N' with
        | inl K' => exact absurd h2 (by simp [xNsb])
        | inr r' =>
          have e : q = r' := h2
          subst e
          exact hr
/-- a run with more locals -/
theorem xW_lv {d : Nat} {X : xj_X} {row : xj_mR} {pc : Nat} {l l' : xj_L} {st : List Value} {M : xj_M} {Q : xj_R → xj_M → Prop} (hX : X.1 = none) (h : xsb l l') (k : xW d X row (pc, l, st, M) Q) : xW d X row (pc, l', st, M) Q := by
  obtain ⟨r, M', hq, n0, hn⟩ := k
  exact ⟨r, M', hq, n0, fun n k h1 h2 => xsb.loop hX k h (hn n k h1 h2)⟩
