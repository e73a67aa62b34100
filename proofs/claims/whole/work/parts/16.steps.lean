/-! Each kind of step: the machine follows -/
set_option maxRecDepth 100000 in
theorem xj_oic : Cond.code objectInit ⟨#[0xb1]⟩ 1 none ∈ xj_tb := List.mem_filter.mpr ⟨xj_seg_in (j := 1) (List.mem_of_getElem? (i := 37) rfl), rfl⟩
theorem xj_mini : Cond.initialized "java/lang/Math" ∈ xj_tb := xj_w_in (p := (1, 20)) (by decide +kernel) rfl
set_option maxRecDepth 100000 in
theorem xj_mc0 : Cond.code Lib.Math.max.name Lib.Math.max.code 2 (some .int) ∈ xj_tb := List.mem_filter.mpr ⟨xj_seg_in (j := 4) (List.mem_of_getElem? (i := 18) rfl), rfl⟩
set_option maxRecDepth 100000 in
theorem xj_mc1 : Cond.code Lib.Math.min.name Lib.Math.min.code 2 (some .int) ∈ xj_tb := List.mem_filter.mpr ⟨xj_seg_in (j := 4) (List.mem_of_getElem? (i := 21) rfl), rfl⟩
set_option maxRecDepth 100000 in
theorem xj_mc2 : Cond.code Lib.MathLoose.max_long.x Lib.MathLoose.max_long.code 4 (some .long) ∈ xj_tb := List.mem_filter.mpr ⟨xj_seg_in (j := 7) (List.mem_of_getElem? (i := 17) rfl), rfl⟩
set_option maxRecDepth 100000 in
theorem xj_mc3 : Cond.code Lib.MathLoose.min_long.x Lib.MathLoose.min_long.code 4 (some .long) ∈ xj_tb := List.mem_filter.mpr ⟨xj_seg_in (j := 3) (List.mem_of_getElem? (i := 235) rfl), rfl⟩
set_option maxRecDepth 100000 in
theorem xj_mc4 : Cond.code Lib.MathLoose.abs_long.x Lib.MathLoose.abs_long.code 2 (some .long) ∈ xj_tb := List.mem_filter.mpr ⟨xj_seg_in (j := 6) (List.mem_of_getElem? (i := 227) rfl), rfl⟩
theorem xj_cal_m {o i k : Nat} (h : xj_cal o i = some (6, k)) : ∃ z, xj_mth k = some z ∧ Cond.methodLink (xj_nm o) i z.1 ∈ xj_tb ∧ Cond.static z.1 ∈ xj_tb := by
  obtain ⟨⟨i', k', j', p1, p2, p3⟩, -, rfl, e1, rfl, hc⟩ := xj_cal_inv h
  simp only at e1 hc
  subst e1
  simp only [xj_cC] at hc
  rw [if_neg (by decide), if_pos trivial] at hc
  split at hc
  · cases hc
  · rename_i z hz
    simp only [Bool.and_eq_true] at hc
    exact ⟨z, hz, xj_w_in hc.1 rfl, xj_w_in hc.2 rfl⟩
theorem xj_cal_o {o i k : Nat} (h : xj_cal o i = some (3, k)) : Cond.methodLink (xj_nm o) i objectInit ∈ xj_tb ∧ Cond.instanceMethod objectInit ∈ xj_tb := by
  obtain ⟨⟨i', k', j', p1, p2, p3⟩, -, rfl, e1, rfl, hc⟩ := xj_cal_inv h
  simp only at e1 hc
  subst e1
  simp only [xj_cC] at hc
  rw [if_pos trivial] at hc
  simp only [Bool.and_eq_true] at hc
  exact ⟨xj_w_in hc.1 rfl, xj_w_in hc.2 rfl⟩
theorem xj_small_s {E : Nat → Nat} {b0 : Nat} {st : List Value} (h : xj_small st = true) : ((xj_s E b0 st).map fun v => v.category).sum ≤ 8 := by
  have h1 := of_decide_eq_true h
  simp only [xj_s, List.map_map]
  have : (fun v => Value.category v) ∘ xj_v E b0 = fun v => v.category := by funext v; exact xj_cat E b0 v
  rw [this]
  exact h1
section
variable {p : Program} {l : Launch} {e : Env} {R : Room} {s : State} {m : MethodId} {args : Array Value} {below : List Frame} {meth : Method} {c : Code} {H : Heap} {locs : List Loc} {cells slots : Nat} {Q : State → Prop} {cc : ByteArray} {pc : Nat} {ls : Array Slot} {E : Nat → Nat} {b0 : Nat} {D : va_G} {o : Nat}
theorem xj_mem_ok (hx : p.tables.exec = Jvm.exec) (hb : c.code = cc) (hml : c.maxLocals = ls.size) (hfr : 1 ≤ R.frames) (hlo : 100 ≤ R.locals) (hts : ∀ w ∈ xj_tb, w.before args s = true) (hown : s.vm.findClass (xj_nm o) = some m.cls) (hK : xj_kn D s) {ini : Bool} (hini : ini = true → meth.name = "<init>") {M M' : xj_M} (hG : xj_G D E b0 s M H locs) {ins : Instr} {st st' : List Value} (h : xj_mem o ini ins st M = some (st', M')) (hd : decode cc pc = .ok (ins, xj_len ins))
    (k : ∀ (H1 : Heap) (locs1 : List Loc), xj_G D E b0 s M' H1 locs1 → W p l e R s m args below meth c H1 locs1 cells slots Q (F0 m (pc + xj_len ins) ls (xj_s E b0 st'))) : W p l e R s m args below meth c H locs cells slots Q (F0 m pc ls (xj_s E b0 st)) := by
  unfold xj_mem at h
  have hsame : M' = M → W p l e R s m args below meth c H locs cells slots Q (F0 m (pc + xj_len ins) ls (xj_s E b0 st')) := fun q => k H locs (by rw [q]; exact hG)
  cases ins
  case getfield i => exact xj_gf_ok hx hb hts hown hK hG.1 h hd (hsame (by obtain ⟨_, _, _, _, _, _, _, _, _, _, _, q⟩ := xj_gf_inv h; exact q))
  case putfield i => exact xj_pf_ok hx hb hts hown hK hini hG h hd k
  case iaload => exact xj_iald_ok hx hb hG.1 h hd (hsame (by obtain ⟨_, _, _, _, _, _, _, _, _, q⟩ := xj_al_inv h; exact q))
  case laload => exact xj_lald_ok hx hb hG.1 h hd (hsame (by obtain ⟨_, _, _, _, _, _, _, _, _, q⟩ := xj_al_inv h; exact q))
  case caload => exact xj_cald_ok hx hb hG.1 h hd (hsame (by obtain ⟨_, _, _, _, _, _, _, _, _, q⟩ := xj_al_inv h; exact q))
  case baload =>
    rcases xj_or_inv h with h | h
    · exact xj_bald_ok hx hb hG.1 h hd (hsame (by obtain ⟨_, _, _, _, _, _, _, _, _, q⟩ := xj_al_inv h; exact q))
    · exact xj_zald_ok hx hb hG.1 h hd (hsame (by obtain ⟨_, _, _, _, _, _, _, _, _, q⟩ := xj_al_inv h; exact q))
  case aaload => exact xj_aald_ok hx hb hG.1 h hd (hsame (by obtain ⟨_, _, _, _, _, _, _, _, _, _, q⟩ := xj_aq_inv h; exact q))
  case iastore => exact xj_iast_ok hx hb hG h hd k
  case lastore => exact xj_last_ok hx hb hG h hd k
  case castore => exact xj_cast_ok hx hb hG h hd k
  case bastore =>
    rcases xj_or_inv h with h | h
    · exact xj_bast_ok hx hb hG h hd k
    · exact xj_zast_ok hx hb hG h hd k
  case aastore => exact xj_aast_ok hx hb hK hG h hd k
  case arraylength =>
    refine xj_ln_ok hx hb hG.1 h hd (hsame ?_)
    simp only [xj_ln] at h
    split at h
    · split at h
      · cases h; rfl
      · cases h
    · cases h
  case checkcast i =>
    simp only at h
    split at h
    · rename_i kq hq
      exact xj_cc_ok hx hb hts hown hG.1 hq h hd (hsame (xj_cc_inv h))
    · cases h
  case invokestatic i =>
    simp only at h
    split at h
    · rename_i kq hq
      exact xj_cp_ok hx hb hml hts hown hG hq h hd hfr hlo k
    · cases h
  all_goals cases h
theorem xj_mk_ok (hx : p.tables.exec = Jvm.exec) (hb : c.code = cc) (hml : c.maxLocals = ls.size) (hfr : 1 ≤ R.frames) (hlo : 100 ≤ R.locals) (hts : ∀ w ∈ xj_tb, w.before args s = true) (hown : s.vm.findClass (xj_nm o) = some m.cls) (hK : xj_kn D s) (hkx : xj_kx s) {M M' : xj_M} (hG : xj_G D E b0 s M H locs) {ins : Instr} {st st' : List Value} (h : xj_mk o ins st M = some (st', M')) (hd : decode cc pc = .ok (ins, xj_len ins))
    (hcells : cells + 1 ≤ R.cells) (hslots : slots + (M'.2 - M.2) ≤ R.slots)
    (k : ∀ H1 : Heap, xj_G D E b0 s M' H1 locs → M'.1.length = M.1.length + 1 → M.2 ≤ M'.2 → W p l e R s m args below meth c H1 locs (cells + 1) (slots + (M'.2 - M.2)) Q (F0 m (pc + xj_len ins) ls (xj_s E b0 st'))) : W p l e R s m args below meth c H locs cells slots Q (F0 m pc ls (xj_s E b0 st)) := by
  unfold xj_mk at h
  cases ins
  case new i => exact xj_nw_ok hx hb hts hown hK hG h hd hcells hslots k
  case newarray t => exact xj_na_ok hx hb hts hG h hd hcells hslots k
  case anewarray i => exact xj_an_ok hx hb hts hown hkx hG h hd hcells hslots k
  case invokevirtual i =>
    simp only at h
    split at h
    · rename_i kq hq
      exact xj_cl_ok hx hb hml hts hown hkx hG hq h hd hfr hlo hcells hslots k
    · cases h
  all_goals cases h
theorem xj_mac_ok (hx : p.tables.exec = Jvm.exec) (hb : c.code = cc) (hml : c.maxLocals = ls.size) (hts : ∀ w ∈ xj_tb, w.before args s = true) (hown : s.vm.findClass (xj_nm o) = some m.cls) {ins : Instr} {st st' : List Value} (h : xj_mac o ins st = some st') (hd : decode cc pc = .ok (ins, xj_len ins))
    (hfr : 1 ≤ R.frames) (hlo : 100 ≤ R.locals) (hc : cells ≤ R.cells) (hs : slots ≤ R.slots)
    (k : W p l e R s m args below meth c H locs cells slots Q (F0 m (pc + xj_len ins) ls (xj_s E b0 st'))) : W p l e R s m args below meth c H locs cells slots Q (F0 m pc ls (xj_s E b0 st)) := by
  unfold xj_mac at h
  cases ins
  case invokespecial i =>
    simp only at h
    split at h
    · rename_i q hq
      split at h
      · rename_i hsm
        obtain ⟨h1, h2⟩ := xj_cal_o hq
        unfold xj_oi at h
        split at h
        · cases h
          have h8 := xj_small_s (E := E) (b0 := b0) hsm
          exact W.objInit hx hb hown (hts _ h1) (hts _ h2) (hts _ xj_oic) rfl (by rw [hml]) rfl hd hfr (by have := lv_room (m := m) (pc := pc) (ls := ls) (rest := []) h8; exact Nat.le_trans (Nat.add_le_add_right this 12) (Nat.le_trans (by decide) hlo)) k
        · cases h
      · cases h
    · cases h
  case invokestatic i =>
    simp only at h
    split at h
    · rename_i q hq
      split at h
      · rename_i hsm
        obtain ⟨z, hz, h1, h2⟩ := xj_cal_m hq
        have h8 := xj_small_s (E := E) (b0 := b0) hsm
        unfold xj_ma at h
        split at h
        · obtain ⟨x, y, r, rfl, rfl⟩ := xj_i2_inv h
          cases hz
          simp only [List.drop_succ_cons, List.drop_zero, xj_s, List.map_cons, List.sum_cons] at h8
          exact va_mmax hx hb hml hown (hts _ h1) (hts _ h2) (hts _ xj_mini) (hts _ xj_mc0) hfr (by simp only [xj_s, List.map_map]; simp only [List.map_map] at h8; omega) hc hs hd k
        · obtain ⟨x, y, r, rfl, rfl⟩ := xj_i2_inv h
          cases hz
          simp only [List.drop_succ_cons, List.drop_zero, xj_s, List.map_cons, List.sum_cons] at h8
          exact va_mmin hx hb hml hown (hts _ h1) (hts _ h2) (hts _ xj_mini) (hts _ xj_mc1) hfr (by simp only [xj_s, List.map_map]; simp only [List.map_map] at h8; omega) hc hs hd k
        · obtain ⟨x, y, r, rfl, rfl⟩ := xj_l2_inv h
          cases hz
          simp only [List.drop_succ_cons, List.drop_zero, xj_s, List.map_cons, List.sum_cons] at h8
          exact va_mmax_long hx hb hml hown (hts _ h1) (hts _ h2) (hts _ xj_mini) (hts _ xj_mc2) hfr (by simp only [xj_s, List.map_map]; simp only [List.map_map] at h8; omega) hc hs hd k
        · obtain ⟨x, y, r, rfl, rfl⟩ := xj_l2_inv h
          cases hz
          simp only [List.drop_succ_cons, List.drop_zero, xj_s, List.map_cons, List.sum_cons] at h8
          exact va_mmin_long hx hb hml hown (hts _ h1) (hts _ h2) (hts _ xj_mini) (hts _ xj_mc3) hfr (by simp only [xj_s, List.map_map]; simp only [List.map_map] at h8; omega) hc hs hd k
        · obtain ⟨x, r, rfl, rfl⟩ := xj_l1_inv h
          cases hz
          simp only [List.drop_succ_cons, List.drop_zero, xj_s] at h8
          exact va_mabs_long hx hb hml hown (hts _ h1) (hts _ h2) (hts _ xj_mini) (hts _ xj_mc4) hfr (Nat.le_trans (Nat.add_le_add_right h8 13) (Nat.le_trans (by decide) hlo)) hc hs hd k
        · cases h
      · cases h
    · cases h
  all_goals cases h
theorem xj_ret_ok (hx : p.tables.exec = Jvm.exec) (hb : c.code = cc) {rt : Option FieldType} (hr : meth.sig.returnType = rt) (hlocks : meth.locks = false) {M : xj_M} (hG : xj_G D E b0 s M H locs) {ins : Instr} {st : List Value} {v : Option Value} (h : xj_ret rt ins st = some v) (hd : decode cc pc = .ok (ins, xj_len ins)) :
    W p l e R s m args below meth c H locs cells slots (MQ below (xj_Qc D E b0 (.inl v) M) args s cells slots (fun q => b0 ≤ q)) (F0 m pc ls (xj_s E b0 st)) := by
  have post : ∀ t : State, t.heap = H → s.WarmedH t.vm → xj_Qc D E b0 (.inl v) M args s (.returned (v.map (xj_v E b0))) t := fun t ht hW => ⟨v, rfl, rfl, by rw [ht]; exact hG.1.moved hW.alike, hG.2.F ht⟩
  unfold xj_ret at h
  cases ins
  case return_ =>
    simp only at h
    split at h
    · split at h
      · cases h
        exact W.vret hx hb hr post hG.2.2.2 hd hlocks
      · cases h
    · cases h
  case ireturn =>
    simp only at h
    split at h
    · unfold xj_ireturn at h
      split at h
      · split at h
        · rename_i hn
          cases h
          exact W.zret hx hb hr hn post hG.2.2.2 hd hlocks
        · cases h
      · cases h
    · cases h
  case lreturn =>
    simp only at h
    split at h
    · unfold xj_lreturn at h
      split at h
      · split at h
        · rename_i hn
          cases h
          rw [hn] at hr
          exact W.lret hx hb hr post hG.2.2.2 hd hlocks
        · cases h
      · cases h
    · cases h
  case areturn =>
    simp only at h
    split at h
    · rename_i ty
      have hrt : xj_isref ty = true → ((∃ n, ty = .object n) ∨ ∃ t, ty = .array t) := by
        intro q
        unfold xj_isref at q
        split at q
        · exact Or.inl ⟨_, rfl⟩
        · exact Or.inr ⟨_, rfl⟩
        · cases q
      unfold xj_areturn at h
      split at h
      · split at h
        · rename_i hn
          cases h
          exact W.aret hx hb hr (hrt hn) (Or.inr ⟨_, rfl⟩) post hG.2.2.2 hd hlocks
        · cases h
      · split at h
        · rename_i hn
          cases h
          exact W.aret hx hb hr (hrt hn) (Or.inl rfl) post hG.2.2.2 hd hlocks
        · cases h
      · cases h
    · cases h
  all_goals cases h
end
