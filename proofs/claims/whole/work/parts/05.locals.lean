/-! The machine follows the interpreter: locals and jumps -/
theorem xj_ld_in {lv : xj_L} {i : Nat} {v : Value} (h : xj_ld lv i = some v) : (i, v) ∈ lv := by
  unfold xj_ld at h
  rw [Option.map_eq_some_iff] at h
  obtain ⟨q, h1, h2⟩ := h
  have h3 := List.mem_of_find?_eq_some h1
  have h4 := List.find?_some h1
  simp only [beq_iff_eq] at h4
  obtain ⟨a, b⟩ := q
  simp only at h2 h4
  subst h2; subst h4
  exact h3
theorem xj_ld_at {E : Nat → Nat} {b0 nL i : Nat} {ls : Array Slot} {lv : xj_L} {v : Value} (hl : lv_has ls nL (xj_lm E b0 lv)) (h : xj_ld lv i = some v) : ls[i]? = some (.val (xj_v E b0 v)) :=
  hl.2.2 (i, xj_v E b0 v) (List.mem_map.mpr ⟨(i, v), xj_ld_in h, rfl⟩)
theorem xj_s1_lm (E : Nat → Nat) (b0 : Nat) (lv : xj_L) (i : Nat) (v : Value) : (i, xj_v E b0 v) :: (xj_lm E b0 lv).filter (fun q => !(q.1 == i) && !(q.1 + 1 == i && q.2.category == 2)) = xj_lm E b0 (xj_s1 lv i v) := by
  simp only [xj_s1, xj_lm, List.map_cons, List.filter_map]
  congr 2
  apply List.filter_congr
  intro q _
  simp [Function.comp, xj_cat]
theorem xj_s2_lm (E : Nat → Nat) (b0 : Nat) (lv : xj_L) (i : Nat) (v : Value) : (i, xj_v E b0 v) :: (xj_lm E b0 lv).filter (fun q => !(q.1 == i) && (!(q.1 == i + 1) && !(q.1 + 1 == i && q.2.category == 2))) = xj_lm E b0 (xj_s2 lv i v) := by
  simp only [xj_s2, xj_lm, List.map_cons, List.filter_map]
  congr 2
  apply List.filter_congr
  intro q _
  simp [Function.comp, xj_cat]
theorem xj_tg_eq {pc tgt : Nat} {off : Int} (h : xj_tg pc off = some tgt) : (pc : Int) + off = (tgt : Int) := by
  unfold xj_tg at h
  split at h
  · rename_i h0
    cases h
    exact (Int.toNat_of_nonneg h0).symm
  · cases h
theorem xj_ldi_inv {lv lv' : xj_L} {i : Nat} {st st' : List Value} (h : xj_ldi lv i st = some (lv', st')) : ∃ x : Int32, xj_ld lv i = some (.int x) ∧ lv' = lv ∧ st' = .int x :: st := by
  unfold xj_ldi at h
  split at h
  · rename_i x hx; cases h; exact ⟨x, hx, rfl, rfl⟩
  · cases h
theorem xj_ldl_inv {lv lv' : xj_L} {i : Nat} {st st' : List Value} (h : xj_ldl lv i st = some (lv', st')) : ∃ x : Int64, xj_ld lv i = some (.long x) ∧ lv' = lv ∧ st' = .long x :: st := by
  unfold xj_ldl at h
  split at h
  · rename_i x hx; cases h; exact ⟨x, hx, rfl, rfl⟩
  · cases h
theorem xj_lda_inv {lv lv' : xj_L} {i : Nat} {st st' : List Value} (h : xj_lda lv i st = some (lv', st')) : (∃ x : Nat, xj_ld lv i = some (.ref x) ∧ lv' = lv ∧ st' = .ref x :: st) ∨ (xj_ld lv i = some .null ∧ lv' = lv ∧ st' = .null :: st) := by
  unfold xj_lda at h
  split at h
  · rename_i x hx; cases h; exact Or.inl ⟨x, hx, rfl, rfl⟩
  · rename_i hx; cases h; exact Or.inr ⟨hx, rfl, rfl⟩
  · cases h
theorem xj_sti_inv {nL : Nat} {lv lv' : xj_L} {i : Nat} {st st' : List Value} (h : xj_sti nL lv i st = some (lv', st')) : ∃ x : Int32, i < nL ∧ st = .int x :: st' ∧ lv' = xj_s1 lv i (.int x) := by
  unfold xj_sti at h
  split at h
  · split at h
    · rename_i hi; cases h; exact ⟨_, hi, rfl, rfl⟩
    · cases h
  · cases h
theorem xj_stl_inv {nL : Nat} {lv lv' : xj_L} {i : Nat} {st st' : List Value} (h : xj_stl nL lv i st = some (lv', st')) : ∃ x : Int64, i + 1 < nL ∧ st = .long x :: st' ∧ lv' = xj_s2 lv i (.long x) := by
  unfold xj_stl at h
  split at h
  · split at h
    · rename_i hi; cases h; exact ⟨_, hi, rfl, rfl⟩
    · cases h
  · cases h
theorem xj_sta_inv {nL : Nat} {lv lv' : xj_L} {i : Nat} {st st' : List Value} (h : xj_sta nL lv i st = some (lv', st')) : (∃ x : Nat, i < nL ∧ st = .ref x :: st' ∧ lv' = xj_s1 lv i (.ref x)) ∨ (i < nL ∧ st = .null :: st' ∧ lv' = xj_s1 lv i .null) := by
  unfold xj_sta at h
  split at h
  · split at h
    · rename_i hi; cases h; exact Or.inl ⟨_, hi, rfl, rfl⟩
    · cases h
  · split at h
    · rename_i hi; cases h; exact Or.inr ⟨hi, rfl, rfl⟩
    · cases h
  · cases h
theorem xj_inc_inv {nL : Nat} {lv lv' : xj_L} {i : Nat} {n : Int} {st st' : List Value} (h : xj_inc nL lv i n st = some (lv', st')) : ∃ x : Int32, xj_ld lv i = some (.int x) ∧ i < nL ∧ st' = st ∧ lv' = xj_s1 lv i (.int (x + Int32.ofInt n)) := by
  unfold xj_inc at h
  split at h
  · rename_i x hx
    split at h
    · rename_i hi; cases h; exact ⟨x, hx, hi, rfl, rfl⟩
    · cases h
  · cases h
theorem xj_z1_inv {f : Int32 → Bool} {off : Int} {st : List Value} {jo : Int × Bool} {r : List Value} (h : xj_z1 f off st = some (jo, r)) : ∃ x : Int32, st = .int x :: r ∧ jo = (off, f x) := by
  unfold xj_z1 at h
  split at h
  · cases h; exact ⟨_, rfl, rfl⟩
  · cases h
theorem xj_z2_inv {f : Int32 → Int32 → Bool} {off : Int} {st : List Value} {jo : Int × Bool} {r : List Value} (h : xj_z2 f off st = some (jo, r)) : ∃ x y : Int32, st = .int y :: .int x :: r ∧ jo = (off, f x y) := by
  unfold xj_z2 at h
  split at h
  · cases h; exact ⟨_, _, rfl, rfl⟩
  · cases h
theorem xj_nu_inv {off : Int} {st : List Value} {jo : Int × Bool} {r : List Value} (h : xj_nu off st = some (jo, r)) : (st = .null :: r ∧ jo = (off, true)) ∨ ∃ x : Nat, st = .ref x :: r ∧ jo = (off, false) := by
  unfold xj_nu at h
  split at h
  · cases h; exact Or.inl ⟨rfl, rfl⟩
  · cases h; exact Or.inr ⟨_, rfl, rfl⟩
  · cases h
theorem xj_nn_inv {off : Int} {st : List Value} {jo : Int × Bool} {r : List Value} (h : xj_nn off st = some (jo, r)) : (st = .null :: r ∧ jo = (off, false)) ∨ ∃ x : Nat, st = .ref x :: r ∧ jo = (off, true) := by
  unfold xj_nn at h
  split at h
  · cases h; exact Or.inl ⟨rfl, rfl⟩
  · cases h; exact Or.inr ⟨_, rfl, rfl⟩
  · cases h
theorem xj_ac_inv {off : Int} {st : List Value} {jo : Int × Bool} {r : List Value} (h : xj_ac off st = some (jo, r)) : ∃ x y : Nat, 64 ≤ x ∧ 64 ≤ y ∧ st = .ref y :: .ref x :: r ∧ jo = (off, decide (¬ x = y)) := by
  unfold xj_ac at h
  split at h
  · split at h
    · rename_i h0; cases h; exact ⟨_, _, h0.1, h0.2, rfl, rfl⟩
    · cases h
  · cases h
theorem xj_ts_inv {d lo hi : Int} {offs : Array Int} {st : List Value} {jo : Int × Bool} {r : List Value} (h : xj_ts d lo hi offs st = some (jo, r)) : ∃ x : Int32, st = .int x :: r ∧ ((x.toInt < lo ∨ hi < x.toInt) ∧ jo = (d, true) ∨ (¬ x.toInt < lo ∧ ¬ hi < x.toInt) ∧ ∃ off, offs[(x.toInt - lo).toNat]? = some off ∧ jo = (off, true)) := by
  unfold xj_ts at h
  split at h
  · split at h
    · rename_i h0; cases h; exact ⟨_, rfl, Or.inl ⟨h0, rfl⟩⟩
    · rename_i h0
      split at h
      · rename_i off ho; cases h
        exact ⟨_, rfl, Or.inr ⟨⟨fun q => h0 (Or.inl q), fun q => h0 (Or.inr q)⟩, off, ho, rfl⟩⟩
      · cases h
  · cases h
theorem xj_lk_inv {d : Int} {ps : Array (Int × Int)} {st : List Value} {jo : Int × Bool} {r : List Value} (h : xj_lk d ps st = some (jo, r)) : ∃ x : Int32, st = .int x :: r ∧ (ps.toList.zip (ps.toList.drop 1)).all (fun (a, next) => a.1 < next.1) = true ∧ jo = (Op.lookupswitch.offset ps.toList d x.toInt, true) := by
  unfold xj_lk at h
  split at h
  · split at h
    · rename_i h0; cases h; exact ⟨_, rfl, h0, rfl⟩
    · cases h
  · cases h
theorem xj_J_inv {pc len tgt : Nat} {off : Int} {b : Bool} (h : xj_J pc len (off, b) = some tgt) : ∃ t : Nat, (pc : Int) + off = (t : Int) ∧ tgt = if b then t else pc + len := by
  unfold xj_J at h
  split at h
  · rename_i t ht; cases h; exact ⟨t, xj_tg_eq ht, rfl⟩
  · cases h
theorem xj_a_inj {E : Nat → Nat} {b0 x y : Nat} (hx : 64 ≤ x) (hy : 64 ≤ y) (h : xj_a E b0 x = xj_a E b0 y) : x = y := by
  unfold xj_a at h
  rw [if_neg (by omega), if_neg (by omega)] at h
  omega
def xj_lenok (ins : Instr) (len : Nat) : Bool := match ins with
  | .tableswitch _ _ _ _ => true
  | .lookupswitch _ _ => true
  | i => len == xj_len i
section
variable {p : Program} {l : Launch} {e : Env} {R : Room} {s : State} {m : MethodId} {args : Array Value} {below : List Frame} {meth : Method} {c : Code} {H : Heap} {locs : List Loc} {cells slots : Nat} {Q : State → Prop} {cc : ByteArray} {pc : Nat} {ls : Array Slot} {E : Nat → Nat} {b0 : Nat}
set_option maxHeartbeats 1000000 in
theorem xj_loc_ok (hx : p.tables.exec = Jvm.exec) (hb : c.code = cc) {nL : Nat} {ins : Instr} {lv lv' : xj_L} {st st' : List Value} (h : xj_loc nL ins lv st = some (lv', st')) (hd : decode cc pc = .ok (ins, xj_len ins)) (hl : lv_has ls nL (xj_lm E b0 lv))
    (k : ∀ ls' : Array Slot, lv_has ls' nL (xj_lm E b0 lv') → W p l e R s m args below meth c H locs cells slots Q (F0 m (pc + xj_len ins) ls' (xj_s E b0 st'))) : W p l e R s m args below meth c H locs cells slots Q (F0 m pc ls (xj_s E b0 st)) := by
  unfold xj_loc at h
  cases ins
  case iload_n n => obtain ⟨x, h1, rfl, rfl⟩ := xj_ldi_inv h; exact lv_iload_n hx hb hd rfl (xj_ld_at hl h1) (k ls hl)
  case iload n => obtain ⟨x, h1, rfl, rfl⟩ := xj_ldi_inv h; exact lv_iload hx hb hd (xj_ld_at hl h1) (k ls hl)
  case lload_n n => obtain ⟨x, h1, rfl, rfl⟩ := xj_ldl_inv h; exact lv_lload_n hx hb hd rfl (xj_ld_at hl h1) (k ls hl)
  case lload n => obtain ⟨x, h1, rfl, rfl⟩ := xj_ldl_inv h; exact lv_lload hx hb hd (xj_ld_at hl h1) (k ls hl)
  case aload_n n =>
    rcases xj_lda_inv h with ⟨x, h1, rfl, rfl⟩ | ⟨h1, rfl, rfl⟩
    · exact lv_aload_n hx hb hd rfl (xj_ld_at hl h1) (k ls hl)
    · exact lv_aload_nN hx hb hd rfl (xj_ld_at hl h1) (k ls hl)
  case aload n =>
    rcases xj_lda_inv h with ⟨x, h1, rfl, rfl⟩ | ⟨h1, rfl, rfl⟩
    · exact lv_aload hx hb hd (xj_ld_at hl h1) (k ls hl)
    · exact lv_aloadN hx hb hd (xj_ld_at hl h1) (k ls hl)
  case istore_n n => obtain ⟨x, h1, rfl, rfl⟩ := xj_sti_inv h; exact lv_istore_n hx hb hd rfl hl h1 (xj_s1_lm E b0 lv _ (.int x)) k
  case istore n => obtain ⟨x, h1, rfl, rfl⟩ := xj_sti_inv h; exact lv_istore hx hb hd hl h1 (xj_s1_lm E b0 lv _ (.int x)) k
  case lstore_n n => obtain ⟨x, h1, rfl, rfl⟩ := xj_stl_inv h; exact lv_lstore_n hx hb hd rfl hl h1 (xj_s2_lm E b0 lv _ (.long x)) k
  case lstore n => obtain ⟨x, h1, rfl, rfl⟩ := xj_stl_inv h; exact lv_lstore hx hb hd hl h1 (xj_s2_lm E b0 lv _ (.long x)) k
  case astore_n n =>
    rcases xj_sta_inv h with ⟨x, h1, rfl, rfl⟩ | ⟨h1, rfl, rfl⟩
    · exact lv_astore_n hx hb hd rfl hl h1 (xj_s1_lm E b0 lv _ (.ref x)) k
    · exact lv_astore_nN hx hb hd rfl hl h1 (xj_s1_lm E b0 lv _ .null) k
  case astore n =>
    rcases xj_sta_inv h with ⟨x, h1, rfl, rfl⟩ | ⟨h1, rfl, rfl⟩
    · exact lv_astore hx hb hd hl h1 (xj_s1_lm E b0 lv _ (.ref x)) k
    · exact lv_astoreN hx hb hd hl h1 (xj_s1_lm E b0 lv _ .null) k
  case iinc i n =>
    obtain ⟨x, h1, h2, rfl, rfl⟩ := xj_inc_inv h
    obtain ⟨j, hj⟩ := List.getElem?_of_mem (List.mem_map.mpr ⟨(i, .int x), xj_ld_in h1, rfl⟩ : (i, Value.int x) ∈ xj_lm E b0 lv)
    exact lv_iinc hx hb hd hl hj rfl h2 (xj_s1_lm E b0 lv i (.int (x + Int32.ofInt n))) k
  all_goals cases h
set_option maxHeartbeats 1000000 in
theorem xj_jmp_ok (hx : p.tables.exec = Jvm.exec) (hb : c.code = cc) {ins : Instr} {len : Nat} {st st' : List Value} {jo : Int × Bool} {tgt : Nat} (h : xj_jmp ins st = some (jo, st')) (hd : decode cc pc = .ok (ins, len))
    (hlen : xj_lenok ins len = true) (hj : xj_J pc len jo = some tgt)
    (k : W p l e R s m args below meth c H locs cells slots Q (F0 m tgt ls (xj_s E b0 st'))) : W p l e R s m args below meth c H locs cells slots Q (F0 m pc ls (xj_s E b0 st)) := by
  unfold xj_jmp at h
  cases ins
  case goto off =>
    have e3 : len = 3 := beq_iff_eq.mp hlen
    subst e3
    cases h
    obtain ⟨t, ht, rfl⟩ := xj_J_inv hj
    exact lv_goto hx hb hd ht k
  case ifnull off =>
    have e3 : len = 3 := beq_iff_eq.mp hlen
    subst e3
    rcases xj_nu_inv h with ⟨rfl, rfl⟩ | ⟨x, rfl, rfl⟩
    · obtain ⟨t, ht, rfl⟩ := xj_J_inv hj
      exact lv_ifnullN hx hb hd ht k
    · obtain ⟨t, ht, rfl⟩ := xj_J_inv hj
      exact lv_ifnull hx hb hd k
  case ifnonnull off =>
    have e3 : len = 3 := beq_iff_eq.mp hlen
    subst e3
    rcases xj_nn_inv h with ⟨rfl, rfl⟩ | ⟨x, rfl, rfl⟩
    · obtain ⟨t, ht, rfl⟩ := xj_J_inv hj
      exact lv_ifnonnullN hx hb hd k
    · obtain ⟨t, ht, rfl⟩ := xj_J_inv hj
      exact lv_ifnonnull hx hb hd ht k
  case tableswitch d lo hi offs =>
    obtain ⟨x, rfl, ⟨h1, rfl⟩ | ⟨⟨h1, h2⟩, off, h3, rfl⟩⟩ := xj_ts_inv h
    · obtain ⟨t, ht, rfl⟩ := xj_J_inv hj
      exact lv_tableOut hx hb hd h1 ht k
    · obtain ⟨t, ht, rfl⟩ := xj_J_inv hj
      exact lv_tableIn hx hb hd h1 h2 h3 ht k
  case lookupswitch d ps =>
    obtain ⟨x, rfl, h1, rfl⟩ := xj_lk_inv h
    obtain ⟨t, ht, rfl⟩ := xj_J_inv hj
    exact lv_lookup hx hb hd h1 rfl ht k
  case if_acmp cnd off =>
    have e3 : len = 3 := beq_iff_eq.mp hlen
    subst e3
    cases cnd
    case ne =>
      obtain ⟨x, y, h1, h2, rfl, rfl⟩ := xj_ac_inv h
      obtain ⟨t, ht, rfl⟩ := xj_J_inv hj
      refine lv_acmp_ne (rx := some (xj_a E b0 x)) (ry := some (xj_a E b0 y)) hx hb hd ht (fun q => ?_) (fun q => ?_)
      · have hxy : ¬ x = y := fun z => q (by rw [z])
        rw [if_pos (by simp [hxy])] at k; exact k
      · have hxy := xj_a_inj h1 h2 (Option.some.inj q)
        rw [if_neg (by simp [hxy])] at k; exact k
    all_goals cases h
  case ifCond cnd off =>
    have e3 : len = 3 := beq_iff_eq.mp hlen
    subst e3
    cases cnd
    case eq =>
      obtain ⟨x, rfl, rfl⟩ := xj_z1_inv h
      obtain ⟨t, ht, rfl⟩ := xj_J_inv hj
      exact lv_if_eq hx hb hd ht (fun q => by rw [if_pos (decide_eq_true q)] at k; exact k) (fun q => by rw [if_neg (by simpa using q)] at k; exact k)
    case ne =>
      obtain ⟨x, rfl, rfl⟩ := xj_z1_inv h
      obtain ⟨t, ht, rfl⟩ := xj_J_inv hj
      exact lv_if_ne hx hb hd ht (fun q => by rw [if_pos (decide_eq_true q)] at k; exact k) (fun q => by rw [if_neg (by simpa using q)] at k; exact k)
    case lt =>
      obtain ⟨x, rfl, rfl⟩ := xj_z1_inv h
      obtain ⟨t, ht, rfl⟩ := xj_J_inv hj
      exact lv_if_lt hx hb hd ht (fun q => by rw [if_pos (decide_eq_true q)] at k; exact k) (fun q => by rw [if_neg (by simpa using q)] at k; exact k)
    case ge =>
      obtain ⟨x, rfl, rfl⟩ := xj_z1_inv h
      obtain ⟨t, ht, rfl⟩ := xj_J_inv hj
      exact lv_if_ge hx hb hd ht (fun q => by rw [if_pos (decide_eq_true q)] at k; exact k) (fun q => by rw [if_neg (by simpa using q)] at k; exact k)
    case gt =>
      obtain ⟨x, rfl, rfl⟩ := xj_z1_inv h
      obtain ⟨t, ht, rfl⟩ := xj_J_inv hj
      exact lv_if_gt hx hb hd ht (fun q => by rw [if_pos (decide_eq_true q)] at k; exact k) (fun q => by rw [if_neg (by simpa using q)] at k; exact k)
    case le =>
      obtain ⟨x, rfl, rfl⟩ := xj_z1_inv h
      obtain ⟨t, ht, rfl⟩ := xj_J_inv hj
      exact lv_if_le hx hb hd ht (fun q => by rw [if_pos (decide_eq_true q)] at k; exact k) (fun q => by rw [if_neg (by simpa using q)] at k; exact k)
  case if_icmp cnd off =>
    have e3 : len = 3 := beq_iff_eq.mp hlen
    subst e3
    cases cnd
    case eq =>
      obtain ⟨x, y, rfl, rfl⟩ := xj_z2_inv h
      obtain ⟨t, ht, rfl⟩ := xj_J_inv hj
      exact lv_icmp_eq hx hb hd ht (fun q => by rw [if_pos (decide_eq_true q)] at k; exact k) (fun q => by rw [if_neg (by simpa using q)] at k; exact k)
    case ne =>
      obtain ⟨x, y, rfl, rfl⟩ := xj_z2_inv h
      obtain ⟨t, ht, rfl⟩ := xj_J_inv hj
      exact lv_icmp_ne hx hb hd ht (fun q => by rw [if_pos (decide_eq_true q)] at k; exact k) (fun q => by rw [if_neg (by simpa using q)] at k; exact k)
    case lt =>
      obtain ⟨x, y, rfl, rfl⟩ := xj_z2_inv h
      obtain ⟨t, ht, rfl⟩ := xj_J_inv hj
      exact lv_icmp_lt hx hb hd ht (fun q => by rw [if_pos (decide_eq_true q)] at k; exact k) (fun q => by rw [if_neg (by simpa using q)] at k; exact k)
    case ge =>
      obtain ⟨x, y, rfl, rfl⟩ := xj_z2_inv h
      obtain ⟨t, ht, rfl⟩ := xj_J_inv hj
      exact lv_icmp_ge hx hb hd ht (fun q => by rw [if_pos (decide_eq_true q)] at k; exact k) (fun q => by rw [if_neg (by simpa using q)] at k; exact k)
    case gt =>
      obtain ⟨x, y, rfl, rfl⟩ := xj_z2_inv h
      obtain ⟨t, ht, rfl⟩ := xj_J_inv hj
      exact lv_icmp_gt hx hb hd ht (fun q => by rw [if_pos (decide_eq_true q)] at k; exact k) (fun q => by rw [if_neg (by simpa using q)] at k; exact k)
    case le =>
      obtain ⟨x, y, rfl, rfl⟩ := xj_z2_inv h
      obtain ⟨t, ht, rfl⟩ := xj_J_inv hj
      exact lv_icmp_le hx hb hd ht (fun q => by rw [if_pos (decide_eq_true q)] at k; exact k) (fun q => by rw [if_neg (by simpa using q)] at k; exact k)
  all_goals cases h
end
