/-! The machine follows the interpreter: operand stack, locals, jumps. xj_v: a value of the interpreter as the machine's. -/
def xj_a (E : Nat → Nat) (b0 i : Nat) : Nat := if i < 64 then E i else b0 + (i - 64)
def xj_v (E : Nat → Nat) (b0 : Nat) : Value → Value
  | .ref i => .ref (xj_a E b0 i)
  | .int x => .int x
  | .long x => .long x
  | .float x => .float x
  | .double x => .double x
  | .null => .null
  | .retAddr x => .retAddr x
theorem xj_cat (E : Nat → Nat) (b0 : Nat) (v : Value) : (xj_v E b0 v).category = v.category := by cases v <;> rfl
abbrev xj_s (E : Nat → Nat) (b0 : Nat) (st : List Value) : List Value := st.map (xj_v E b0)
abbrev xj_lm (E : Nat → Nat) (b0 : Nat) (lv : xj_L) : List (Nat × Value) := lv.map (fun q => (q.1, xj_v E b0 q.2))
theorem xj_i2_inv {f : Int32 → Int32 → Int32} {st st' : List Value} (h : xj_i2 f st = some st') : ∃ (x y : Int32) (r : List Value), st = .int y :: .int x :: r ∧ st' = .int (f x y) :: r := by
  unfold xj_i2 at h
  split at h
  · cases h; exact ⟨_, _, _, rfl, rfl⟩
  · cases h
theorem xj_d2_inv {f : Int32 → Int32 → Int32} {st st' : List Value} (h : xj_d2 f st = some st') : ∃ (x y : Int32) (r : List Value), ¬ y = 0 ∧ st = .int y :: .int x :: r ∧ st' = .int (f x y) :: r := by
  unfold xj_d2 at h
  split at h
  · split at h
    · first | (cases h; done) | (cases h; exact ⟨_, _, _, by assumption, rfl, rfl⟩)
    · first | (cases h; done) | (cases h; exact ⟨_, _, _, by assumption, rfl, rfl⟩)
  · cases h
theorem xj_i1_inv {f : Int32 → Value} {st st' : List Value} (h : xj_i1 f st = some st') : ∃ (x : Int32) (r : List Value), st = .int x :: r ∧ st' = f x :: r := by
  unfold xj_i1 at h
  split at h
  · cases h; exact ⟨_, _, rfl, rfl⟩
  · cases h
theorem xj_l2_inv {f : Int64 → Int64 → Value} {st st' : List Value} (h : xj_l2 f st = some st') : ∃ (x y : Int64) (r : List Value), st = .long y :: .long x :: r ∧ st' = f x y :: r := by
  unfold xj_l2 at h
  split at h
  · cases h; exact ⟨_, _, _, rfl, rfl⟩
  · cases h
theorem xj_e2_inv {f : Int64 → Int64 → Int64} {st st' : List Value} (h : xj_e2 f st = some st') : ∃ (x y : Int64) (r : List Value), ¬ y = 0 ∧ st = .long y :: .long x :: r ∧ st' = .long (f x y) :: r := by
  unfold xj_e2 at h
  split at h
  · split at h
    · first | (cases h; done) | (cases h; exact ⟨_, _, _, by assumption, rfl, rfl⟩)
    · first | (cases h; done) | (cases h; exact ⟨_, _, _, by assumption, rfl, rfl⟩)
  · cases h
theorem xj_l1_inv {f : Int64 → Value} {st st' : List Value} (h : xj_l1 f st = some st') : ∃ (x : Int64) (r : List Value), st = .long x :: r ∧ st' = f x :: r := by
  unfold xj_l1 at h
  split at h
  · cases h; exact ⟨_, _, rfl, rfl⟩
  · cases h
theorem xj_li_inv {f : Int64 → Int32 → Int64} {st st' : List Value} (h : xj_li f st = some st') : ∃ (x : Int64) (y : Int32) (r : List Value), st = .int y :: .long x :: r ∧ st' = .long (f x y) :: r := by
  unfold xj_li at h
  split at h
  · cases h; exact ⟨_, _, _, rfl, rfl⟩
  · cases h
theorem xj_du_inv {st st' : List Value} (h : xj_du st = some st') : ∃ (a : Value) (r : List Value), a.category = 1 ∧ st = a :: r ∧ st' = a :: a :: r := by
  unfold xj_du at h
  split at h
  · split at h
    · first | (cases h; done) | (cases h; exact ⟨_, _, by assumption, rfl, rfl⟩)
    · first | (cases h; done) | (cases h; exact ⟨_, _, by assumption, rfl, rfl⟩)
  · cases h
theorem xj_po_inv {st st' : List Value} (h : xj_po st = some st') : ∃ (a : Value) (r : List Value), a.category = 1 ∧ st = a :: r ∧ st' = r := by
  unfold xj_po at h
  split at h
  · split at h
    · first | (cases h; done) | (cases h; exact ⟨_, _, by assumption, rfl, rfl⟩)
    · first | (cases h; done) | (cases h; exact ⟨_, _, by assumption, rfl, rfl⟩)
  · cases h
theorem xj_pp_inv {st st' : List Value} (h : xj_pp st = some st') : ∃ (a : Value) (r : List Value), a.category = 2 ∧ st = a :: r ∧ st' = r := by
  unfold xj_pp at h
  split at h
  · split at h
    · first | (cases h; done) | (cases h; exact ⟨_, _, by assumption, rfl, rfl⟩)
    · first | (cases h; done) | (cases h; exact ⟨_, _, by assumption, rfl, rfl⟩)
  · cases h
theorem xj_dx_inv {st st' : List Value} (h : xj_dx st = some st') : ∃ (a b : Value) (r : List Value), (a.category = 1 ∧ b.category = 1) ∧ st = a :: b :: r ∧ st' = a :: b :: a :: r := by
  unfold xj_dx at h
  split at h
  · split at h
    · first | (cases h; done) | (cases h; exact ⟨_, _, _, by assumption, rfl, rfl⟩)
    · first | (cases h; done) | (cases h; exact ⟨_, _, _, by assumption, rfl, rfl⟩)
  · cases h
theorem xj_dz_inv {st st' : List Value} (h : xj_dz st = some st') : ∃ (a b d : Value) (r : List Value), (a.category = 1 ∧ b.category = 1 ∧ d.category = 1) ∧ st = a :: b :: d :: r ∧ st' = a :: b :: d :: a :: r := by
  unfold xj_dz at h
  split at h
  · split at h
    · first | (cases h; done) | (cases h; exact ⟨_, _, _, _, by assumption, rfl, rfl⟩)
    · first | (cases h; done) | (cases h; exact ⟨_, _, _, _, by assumption, rfl, rfl⟩)
  · cases h
theorem xj_dd_inv {st st' : List Value} (h : xj_dd st = some st') : ∃ (a b : Value) (r : List Value), (a.category = 1 ∧ b.category = 1) ∧ st = a :: b :: r ∧ st' = a :: b :: a :: b :: r := by
  unfold xj_dd at h
  split at h
  · split at h
    · first | (cases h; done) | (cases h; exact ⟨_, _, _, by assumption, rfl, rfl⟩)
    · first | (cases h; done) | (cases h; exact ⟨_, _, _, by assumption, rfl, rfl⟩)
  · cases h
theorem xj_dy_inv {st st' : List Value} (h : xj_dy st = some st') : ∃ (a b : Value) (r : List Value), (a.category = 2 ∧ b.category = 1) ∧ st = a :: b :: r ∧ st' = a :: b :: a :: r := by
  unfold xj_dy at h
  split at h
  · split at h
    · first | (cases h; done) | (cases h; exact ⟨_, _, _, by assumption, rfl, rfl⟩)
    · first | (cases h; done) | (cases h; exact ⟨_, _, _, by assumption, rfl, rfl⟩)
  · cases h
section
variable {p : Program} {l : Launch} {e : Env} {R : Room} {s : State} {m : MethodId} {args : Array Value} {below : List Frame} {meth : Method} {c : Code} {H : Heap} {locs : List Loc} {cells slots : Nat} {Q : State → Prop} {cc : ByteArray} {pc : Nat} {ls : Array Slot} {E : Nat → Nat} {b0 : Nat}
set_option maxHeartbeats 1000000 in
theorem xj_pure_ok (hx : p.tables.exec = Jvm.exec) (hb : c.code = cc) {ins : Instr} {st st' : List Value} (h : xj_pure ins st = some st') (hd : decode cc pc = .ok (ins, xj_len ins))
    (k : W p l e R s m args below meth c H locs cells slots Q (F0 m (pc + xj_len ins) ls (xj_s E b0 st'))) : W p l e R s m args below meth c H locs cells slots Q (F0 m pc ls (xj_s E b0 st)) := by
  unfold xj_pure at h
  cases ins
  case aconst_null => cases h; exact lv_null hx hb hd k
  case iconst n => cases h; exact lv_iconst hx hb hd rfl k
  case bipush n => cases h; exact lv_bipush hx hb hd rfl k
  case sipush n => cases h; exact lv_sipush hx hb hd rfl k
  case lconst n => cases h; exact lv_lconst hx hb hd rfl k
  case iadd => obtain ⟨x, y, r, rfl, rfl⟩ := xj_i2_inv h; exact lv_iadd hx hb hd k
  case isub => obtain ⟨x, y, r, rfl, rfl⟩ := xj_i2_inv h; exact lv_isub hx hb hd k
  case imul => obtain ⟨x, y, r, rfl, rfl⟩ := xj_i2_inv h; exact lv_imul hx hb hd k
  case iand => obtain ⟨x, y, r, rfl, rfl⟩ := xj_i2_inv h; exact lv_iand hx hb hd k
  case ior => obtain ⟨x, y, r, rfl, rfl⟩ := xj_i2_inv h; exact lv_ior hx hb hd k
  case ixor => obtain ⟨x, y, r, rfl, rfl⟩ := xj_i2_inv h; exact lv_ixor hx hb hd k
  case ishl => obtain ⟨x, y, r, rfl, rfl⟩ := xj_i2_inv h; exact lv_ishl hx hb hd k
  case ishr => obtain ⟨x, y, r, rfl, rfl⟩ := xj_i2_inv h; exact lv_ishr hx hb hd k
  case iushr => obtain ⟨x, y, r, rfl, rfl⟩ := xj_i2_inv h; exact lv_iushr hx hb hd rfl k
  case idiv => obtain ⟨x, y, r, h0, rfl, rfl⟩ := xj_d2_inv h; exact lv_idiv hx hb hd h0 k
  case irem => obtain ⟨x, y, r, h0, rfl, rfl⟩ := xj_d2_inv h; exact lv_irem hx hb hd h0 k
  case ineg => obtain ⟨x, r, rfl, rfl⟩ := xj_i1_inv h; exact lv_ineg hx hb hd k
  case ladd => obtain ⟨x, y, r, rfl, rfl⟩ := xj_l2_inv h; exact lv_ladd hx hb hd k
  case lsub => obtain ⟨x, y, r, rfl, rfl⟩ := xj_l2_inv h; exact lv_lsub hx hb hd k
  case lmul => obtain ⟨x, y, r, rfl, rfl⟩ := xj_l2_inv h; exact lv_lmul hx hb hd k
  case land => obtain ⟨x, y, r, rfl, rfl⟩ := xj_l2_inv h; exact lv_land hx hb hd k
  case lor => obtain ⟨x, y, r, rfl, rfl⟩ := xj_l2_inv h; exact lv_lor hx hb hd k
  case lxor => obtain ⟨x, y, r, rfl, rfl⟩ := xj_l2_inv h; exact lv_lxor hx hb hd k
  case lcmp => obtain ⟨x, y, r, rfl, rfl⟩ := xj_l2_inv h; exact W.lcmp hx hb hd k
  case ldiv => obtain ⟨x, y, r, h0, rfl, rfl⟩ := xj_e2_inv h; exact lv_ldiv hx hb hd h0 k
  case lrem => obtain ⟨x, y, r, h0, rfl, rfl⟩ := xj_e2_inv h; exact lv_lrem hx hb hd h0 k
  case lneg => obtain ⟨x, r, rfl, rfl⟩ := xj_l1_inv h; exact lv_lneg hx hb hd k
  case lshl => obtain ⟨x, y, r, rfl, rfl⟩ := xj_li_inv h; exact lv_lshl hx hb hd rfl k
  case lshr => obtain ⟨x, y, r, rfl, rfl⟩ := xj_li_inv h; exact lv_lshr hx hb hd rfl k
  case lushr => obtain ⟨x, y, r, rfl, rfl⟩ := xj_li_inv h; exact lv_lushr hx hb hd rfl k
  case i2l => obtain ⟨x, r, rfl, rfl⟩ := xj_i1_inv h; exact lv_i2l hx hb hd rfl k
  case i2b => obtain ⟨x, r, rfl, rfl⟩ := xj_i1_inv h; exact lv_i2b hx hb hd rfl k
  case i2c => obtain ⟨x, r, rfl, rfl⟩ := xj_i1_inv h; exact lv_i2c hx hb hd rfl k
  case l2i => obtain ⟨x, r, rfl, rfl⟩ := xj_l1_inv h; exact lv_l2i hx hb hd rfl k
  case dup => obtain ⟨a, r, h0, rfl, rfl⟩ := xj_du_inv h; exact lv_dup hx hb hd (by rw [xj_cat]; exact h0) k
  case pop => obtain ⟨a, r, h0, rfl, rfl⟩ := xj_po_inv h; exact lv_pop hx hb hd (by rw [xj_cat]; exact h0) k
  case pop2 => obtain ⟨a, r, h0, rfl, rfl⟩ := xj_pp_inv h; exact lv_pop2_2 hx hb hd (by rw [xj_cat]; exact h0) k
  case dup_x1 => obtain ⟨a, b, r, h0, rfl, rfl⟩ := xj_dx_inv h; exact lv_dup_x1 hx hb hd (by rw [xj_cat]; exact h0.1) (by rw [xj_cat]; exact h0.2) k
  case dup_x2 => obtain ⟨a, b, d, r, h0, rfl, rfl⟩ := xj_dz_inv h; exact lv_dup_x2 hx hb hd (by rw [xj_cat]; exact h0.1) (by rw [xj_cat]; exact h0.2.1) (by rw [xj_cat]; exact h0.2.2) k
  case dup2 => obtain ⟨a, b, r, h0, rfl, rfl⟩ := xj_dd_inv h; exact lv_dup2_11 hx hb hd (by rw [xj_cat]; exact h0.1) (by rw [xj_cat]; exact h0.2) k
  case dup2_x1 => obtain ⟨a, b, r, h0, rfl, rfl⟩ := xj_dy_inv h; exact lv_dup2_x1_2 hx hb hd (by rw [xj_cat]; exact h0.1) (by rw [xj_cat]; exact h0.2) k
  all_goals cases h
end
