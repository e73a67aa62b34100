/-! A whole run of a method: the machine follows the interpreter; so each run of the interpreter is a contract -/
theorem xj_len_eq {ins : Instr} {len : Nat} (h : xj_lenok ins len = true) (h1 : ∀ d lo hi offs, ins ≠ .tableswitch d lo hi offs) (h2 : ∀ d ps, ins ≠ .lookupswitch d ps) : len = xj_len ins := by
  cases ins
  case tableswitch d lo hi offs => exact absurd rfl (h1 d lo hi offs)
  case lookupswitch d ps => exact absurd rfl (h2 d ps)
  all_goals exact beq_iff_eq.mp h
theorem xj_lm_args (E : Nat → Nat) (b0 : Nat) (as : List Value) : ∀ i : Nat, lv_args i (xj_s E b0 as) = xj_lm E b0 (lv_args i as) := by
  induction as with
  | nil => intro i; rfl
  | cons v vs ih =>
    intro i
    simp only [xj_s, List.map_cons, lv_args, xj_lm, xj_cat]
    rw [show vs.map (xj_v E b0) = xj_s E b0 vs from rfl, ih]
theorem xj_sl_len (E : Nat → Nat) (b0 : Nat) (as : List Value) : (lg_sl (xj_s E b0 as)).length = (lg_sl as).length := by
  induction as with
  | nil => rfl
  | cons v vs ih =>
    simp only [lg_sl, xj_s, List.map_cons, List.flatMap_cons, List.length_append, xj_cat] at ih ⊢
    rw [ih]
    split <;> rfl
theorem xj_mem_eq {o : Nat} {ini : Bool} {ins : Instr} {st st' : List Value} {M M' : xj_M} (h : xj_mem o ini ins st M = some (st', M')) : M'.1.length = M.1.length ∧ M'.2 = M.2 := by
  have put : ∀ {a : Nat} {c : xj_C}, (xj_put M a c).1.length = M.1.length ∧ (xj_put M a c).2 = M.2 := fun {a c} => ⟨by simp [xj_put], rfl⟩
  unfold xj_mem at h
  cases ins
  case getfield i => obtain ⟨_, _, _, _, _, _, _, _, _, _, _, rfl⟩ := xj_gf_inv h; exact ⟨rfl, rfl⟩
  case putfield i => obtain ⟨_, _, _, _, _, _, _, _, _, _, rfl⟩ := xj_pf_inv h; exact put
  case iaload => obtain ⟨_, _, _, _, _, _, _, _, _, rfl⟩ := xj_al_inv h; exact ⟨rfl, rfl⟩
  case laload => obtain ⟨_, _, _, _, _, _, _, _, _, rfl⟩ := xj_al_inv h; exact ⟨rfl, rfl⟩
  case caload => obtain ⟨_, _, _, _, _, _, _, _, _, rfl⟩ := xj_al_inv h; exact ⟨rfl, rfl⟩
  case baload => rcases xj_or_inv h with h | h <;> (obtain ⟨_, _, _, _, _, _, _, _, _, rfl⟩ := xj_al_inv h; exact ⟨rfl, rfl⟩)
  case aaload => obtain ⟨_, _, _, _, _, _, _, _, _, _, rfl⟩ := xj_aq_inv h; exact ⟨rfl, rfl⟩
  case iastore => obtain ⟨_, _, _, _, _, _, _, _, _, _, rfl⟩ := xj_as_inv h; exact put
  case lastore => obtain ⟨_, _, _, _, _, _, _, _, _, _, rfl⟩ := xj_as_inv h; exact put
  case castore => obtain ⟨_, _, _, _, _, _, _, _, _, _, rfl⟩ := xj_as_inv h; exact put
  case bastore => rcases xj_or_inv h with h | h <;> (obtain ⟨_, _, _, _, _, _, _, _, _, _, rfl⟩ := xj_as_inv h; exact put)
  case aastore =>
    rcases xj_aa_inv h with ⟨_, _, _, _, _, _, _, _, _, _, _, rfl⟩ | ⟨_, _, _, _, _, _, _, _, rfl⟩
    · exact put
    · exact put
  case arraylength =>
    simp only [xj_ln] at h
    split at h
    · split at h
      · cases h; exact ⟨rfl, rfl⟩
      · cases h
    · cases h
  case checkcast i =>
    simp only at h
    split at h
    · rw [xj_cc_inv h]; exact ⟨rfl, rfl⟩
    · cases h
  case invokestatic i =>
    simp only at h
    split at h
    · obtain ⟨a, c, rfl⟩ := xj_cp_inv h; exact put
    · cases h
  all_goals cases h
theorem xj_mk_eq {o : Nat} {ins : Instr} {st st' : List Value} {M M' : xj_M} (h : xj_mk o ins st M = some (st', M')) : M'.1.length = M.1.length + 1 := by
  have new : ∀ {c : xj_C} {n : Nat}, (xj_new M c n).1.length = M.1.length + 1 := fun {c n} => by simp [xj_new]
  unfold xj_mk at h
  cases ins
  case new i =>
    simp only [xj_nw] at h
    split at h
    · split at h
      · cases h; exact new
      · cases h
    · cases h
  case newarray t =>
    simp only [xj_na] at h
    split at h
    · split at h
      · split at h
        · cases h
        · cases h; exact new
      · cases h
    · cases h
  case anewarray i =>
    simp only [xj_an] at h
    split at h
    · split at h
      · split at h
        · cases h
        · cases h; exact new
      · cases h
    · cases h
  case invokevirtual i =>
    simp only at h
    split at h
    · obtain ⟨c, n, rfl⟩ := xj_cl_inv h; exact new
    · cases h
  all_goals cases h
theorem xj_en_ca (k : Nat) : Cond.castable (xj_en k) (xj_en k) ∈ lw_tbl := by
  cases k with
  | zero => exact xj_t0_ca
  | succ k => exact xj_t1_ca
section
variable {p : Program} {l : Launch} {e : Env} {R : Room} {s : State} {m : MethodId} {args : Array Value} {below : List Frame} {meth : Method} {c : Code} {E : Nat → Nat} {b0 : Nat} {D : va_G}
set_option maxHeartbeats 2000000 in
theorem xj_loop_ok {d : Nat} {call : xj_F} {X : xj_X} (hl0 : l.stackTraces = false) (hXd : X.2.1 ≤ d) (hle : ∀ j as M r M', call j as M = some (r, M') → xj_le M M') (hcall : ∀ j as M r M', call j as M = some (r, M') → xj_met l D E b0 d j as M r M') {row : xj_mR}
    (hx : p.tables.exec = Jvm.exec) (hb : c.code = row.2.2.1) (hr : meth.sig.returnType = row.2.2.2.2.1) (hml : c.maxLocals = row.2.2.2.1) (hlocks : meth.locks = false) (hown : s.vm.findClass (xj_nm row.1) = some m.cls) (hini : row.2.2.2.2.2.2.1 = true → meth.name = "<init>") (hts : ∀ w ∈ xj_tb, w.before args s = true) (hK : xj_kn D s) (hkx : xj_kx s) (hba : xj_ba E b0 s) (hex : match X.1 with | none => ∀ x ∈ c.exceptionTable.toList, False | some t => c.exceptionTable.toList = [⟨t.1, t.2.1, t.2.2.1, t.2.2.2.1⟩] ∧ (Cond.classLink (xj_nm row.1) t.2.2.2.1 (xj_en t.2.2.2.2)).before args s = true ∧ t.2.2.2.1 ≠ 0) (hSc : ∀ xs, X.2.2 = some xs → va_X (E 0) xs.length (fun j => xs.getD j 0) s s.heap ∧ E 0 < s.heap.size ∧ E 0 < b0)
    {n0 z0 : Nat} {rf : xj_R} {Mf : xj_M} (hRf : d + 1 ≤ R.frames) (hRl : 100 * (d + 1) ≤ R.locals) (hRc : Mf.1.length - n0 ≤ R.cells) (hRs : Mf.2 - z0 ≤ R.slots) :
    ∀ (n : Nat) (K : xj_K) (H : Heap) (locs : List Loc) (ls : Array Slot), xj_loop call X row n K = some (rf, Mf) → n0 ≤ K.2.2.2.1.length → z0 ≤ K.2.2.2.2 → lv_has ls row.2.2.2.1 (xj_lm E b0 K.2.1) → xj_G D E b0 s K.2.2.2 H locs →
      W p l e R s m args below meth c H locs (K.2.2.2.1.length - n0) (K.2.2.2.2 - z0) (vx_MQ below (xj_Qc D E b0 rf Mf) (xj_XC D E b0 rf Mf) args s (Mf.1.length - n0) (Mf.2 - z0) (fun q => b0 ≤ q)) (F0 m K.1 ls (xj_s E b0 K.2.2.1)) := by
  intro n
  induction n with
  | zero => intro K H locs ls h; cases h
  | succ n ih =>
    intro K H locs ls h hn0 hz0 hl hG
    obtain ⟨pc, lv, st, M⟩ := K
    simp only at hn0 hz0 hl hG ⊢
    have hmls : c.maxLocals = ls.size := by rw [hml]; exact hl.1.symm
    unfold xj_loop at h
    cases hst : xj_step call X row (pc, lv, st, M) with
    | none => rw [hst] at h; cases h
    | some N =>
      rw [hst] at h
      unfold xj_step at hst
      split at hst
      · cases hst
      · rename_i ins len hd
        simp only at hd hst
        split at hst
        · cases hst
        · rename_i hlen
          have hlen : xj_lenok ins len = true := by cases hq : xj_lenok ins len with | true => rfl | false => exact absurd hq hlen
          split at hst
          · rename_i st1 h1
            cases hst
            simp only at h
            have e1 := xj_len_eq hlen (fun _ _ _ _ q => by subst q; cases h1) (fun _ _ q => by subst q; cases h1)
            subst e1
            exact xj_pure_ok hx hb h1 hd (ih _ H locs ls h hn0 hz0 hl hG)
          · split at hst
            · rename_i q h1
              cases hst
              simp only at h
              have e1 := xj_len_eq hlen (fun _ _ _ _ q => by subst q; cases h1) (fun _ _ q => by subst q; cases h1)
              subst e1
              exact xj_loc_ok hx hb h1 hd hl (fun ls1 hl1 => ih _ H locs ls1 h hn0 hz0 hl1 hG)
            · split at hst
              · rename_i q h1
                split at hst
                · rename_i t ht
                  cases hst
                  simp only at h
                  exact xj_jmp_ok hx hb h1 hd hlen ht (ih _ H locs ls h hn0 hz0 hl hG)
                · cases hst
              · split at hst
                · rename_i st1 h1
                  cases hst
                  simp only at h
                  have e1 := xj_len_eq hlen (fun _ _ _ _ q => by subst q; cases h1) (fun _ _ q => by subst q; cases h1)
                  subst e1
                  exact xj_ct_ok hx hb hts hown h1 hd (ih _ H locs ls h hn0 hz0 hl hG)
                · split at hst
                  · rename_i st1 h1
                    cases hst
                    simp only at h
                    have e1 := xj_len_eq hlen (fun _ _ _ _ q => by subst q; cases h1) (fun _ _ q => by subst q; cases h1)
                    subst e1
                    exact xj_fx_ok hx hb hts hown hba hG.2 h1 hd (ih _ H locs ls h hn0 hz0 hl hG)
                  · split at hst
                    · rename_i st1 h1
                      cases hst
                      simp only at h
                      have e1 := xj_len_eq hlen (fun _ _ _ _ q => by subst q; unfold xj_sc at h1; split at h1 <;> cases h1) (fun _ _ q => by subst q; unfold xj_sc at h1; split at h1 <;> cases h1)
                      subst e1
                      exact xj_sc_ok hx hb hSc hG.2 h1 hd (ih _ H locs ls h hn0 hz0 hl hG)
                    · split at hst
                      · rename_i q h1
                        obtain ⟨st1, M1⟩ := q
                        cases hst
                        simp only at h
                        have e1 := xj_len_eq hlen (fun _ _ _ _ q => by subst q; cases h1) (fun _ _ q => by subst q; cases h1)
                        subst e1
                        have hM := xj_mem_le h1
                        have hz := xj_mem_eq h1
                        refine xj_mem_ok hx hb hmls (by omega) (by omega) hts hown hK hini hG h1 hd (fun H1 locs1 hG1 => ?_)
                        have hres := ih _ H1 locs1 ls h (Nat.le_trans hn0 hM.1) (Nat.le_trans hz0 hM.2) hl hG1
                        simp only [hz.1, hz.2] at hres
                        exact hres
                      · split at hst
                        · rename_i q h1
                          obtain ⟨st1, M1⟩ := q
                          cases hst
                          simp only at h
                          have e1 := xj_len_eq hlen (fun _ _ _ _ q => by subst q; cases h1) (fun _ _ q => by subst q; cases h1)
                          subst e1
                          have hM := xj_mk_le h1
                          have hL := xj_loop_le hle n _ rf Mf h
                          simp only at hL
                          have hs1 := xj_mk_eq h1
                          refine xj_mk_ok hx hb hmls (by omega) (by omega) hts hown hK hkx hG h1 hd (by have := hL.1; omega) (by have := hL.2; have := hM.2; omega) (fun H1 hG1 e2 e3 => ?_)
                          have hres := ih _ H1 locs ls h (Nat.le_trans hn0 hM.1) (Nat.le_trans hz0 hM.2) hl hG1
                          simp only at hres
                          rw [show M1.1.length - n0 = M.1.length - n0 + 1 by omega, show M1.2 - z0 = M.2 - z0 + (M1.2 - M.2) by omega] at hres
                          exact hres
                        · split at hst
                          · rename_i v h1
                            cases hst
                            simp only at h
                            cases h
                            have e1 := xj_len_eq hlen (fun _ _ _ _ q => by subst q; cases h1) (fun _ _ q => by subst q; cases h1)
                            subst e1
                            exact vx_ret (xj_ret_ok hx hb hr hlocks hG h1 hd)
                          · split at hst
                            · rename_i st1 h1
                              cases hst
                              simp only at h
                              have e1 := xj_len_eq hlen (fun _ _ _ _ q => by subst q; cases h1) (fun _ _ q => by subst q; cases h1)
                              subst e1
                              have hL := xj_loop_le hle n _ rf Mf h
                              simp only at hL
                              exact xj_mac_ok hx hb hmls hts hown h1 hd (by omega) (by omega) (by have := hL.1; omega) (by have := hL.2; omega) (ih _ H locs ls h hn0 hz0 hl hG)
                            · split at hst
                              · rename_i q h1
                                obtain ⟨j, as, rest⟩ := q
                                simp only at hst
                                have e3 : xj_len ins = 3 := by
                                  cases ins <;> first | rfl | (cases h1; done)
                                have e1 := xj_len_eq hlen (fun _ _ _ _ q => by subst q; cases h1) (fun _ _ q => by subst q; cases h1)
                                subst e1
                                rw [e3] at hd
                                unfold xj_out at hst
                                split at hst
                                · rename_i v M1 hc1
                                  cases hst
                                  simp only at h
                                  have hM := hle _ _ _ _ _ hc1
                                  have hL := xj_loop_le hle n _ rf Mf h
                                  simp only at hL
                                  refine xj_tgt_ok hx hb hmls hts hown hK hkx hba hG h1 hd (hcall _ _ _ _ _ hc1) (fun _ => ⟨_, rfl⟩) hRf hRl ⟨by have := hL.1; have := hM.1; omega, by have := hL.2; have := hM.2; omega⟩ (fun v2 H1 locs1 hv hG1 => ?_) (fun k q ce H1 locs1 hv => by cases hv)
                                  cases hv
                                  have hres := ih _ H1 locs1 ls h (Nat.le_trans hn0 hM.1) (Nat.le_trans hz0 hM.2) hl hG1
                                  simp only at hres
                                  rw [show M1.1.length - n0 = M.1.length - n0 + (M1.1.length - M.1.length) by have := hM.1; omega, show M1.2 - z0 = M.2 - z0 + (M1.2 - M.2) by have := hM.2; omega] at hres
                                  exact hres
                                · rename_i k0 M1 hc1
                                  split at hst
                                  · cases hst
                                  · rename_i hnt
                                    have hM := hle _ _ _ _ _ hc1
                                    rcases xj_hand_inv hst with ⟨hX, rfl⟩ | ⟨t, i, n1, hX, c1, c2, c3, hi, hdec, rfl⟩
                                    · simp only at h
                                      cases h
                                      rw [hX] at hex
                                      refine xj_tgt_ok hx hb hmls hts hown hK hkx hba hG h1 hd (hcall _ _ _ _ _ hc1) (fun q => absurd q hnt) hRf hRl ⟨by have := hM.1; omega, by have := hM.2; omega⟩ (fun v2 H1 locs1 hv => by cases hv) (fun k q ce H1 locs1 hv hG1 hce hcv hcl => ?_)
                                      cases hv
                                      exact vx_out (fun x hx => (hex x hx).elim) hlocks hce hcv hcl (fun t ht hal => ⟨_, rfl, rfl, by rw [ht]; exact hG1.1.moved hal, hG1.2.F ht⟩) hG1.2.2.2 (by have := hM.1; omega) (by have := hM.2; omega)
                                    · simp only at h
                                      have hL := xj_loop_le hle n _ rf Mf h
                                      simp only at hL
                                      rw [hX] at hex
                                      obtain ⟨x1, x2, x3⟩ := hex
                                      refine xj_tgt_ok hx hb hmls hts hown hK hkx hba hG h1 hd (hcall _ _ _ _ _ hc1) (fun q => absurd q hnt) hRf hRl ⟨by have := hL.1; have := hM.1; omega, by have := hL.2; have := hM.2; omega⟩ (fun v2 H1 locs1 hv => by cases hv) (fun k q ce H1 locs1 hv hG1 hce hcv hcl => ?_)
                                      cases hv
                                      have hgo : ∀ ls1 : Array Slot, lv_has ls1 row.2.2.2.1 ((i, Value.ref q) :: (xj_lm E b0 lv).filter (fun z => !(z.1 == i) && !(z.1 + 1 == i && z.2.category == 2))) → W p l e R s m args below meth c H1 locs1 (M.1.length - n0 + (M1.1.length - M.1.length)) (M.2 - z0 + (M1.2 - M.2)) (vx_MQ below (xj_Qc D E b0 rf Mf) (xj_XC D E b0 rf Mf) args s (Mf.1.length - n0) (Mf.2 - z0) (fun q => b0 ≤ q)) (F0 m (t.2.2.1 + n1) ls1 []) := by
                                        intro ls1 hl1
                                        have hl2 : lv_has ls1 row.2.2.2.1 (xj_lm E b0 (xj_s1 lv i .null).tail) := by
                                          have e0 := congrArg List.tail (xj_s1_lm E b0 lv i .null)
                                          refine ⟨hl1.1, hl1.2.1, fun z hz => hl1.2.2 z (List.mem_cons_of_mem _ ?_)⟩
                                          have e9 : xj_lm E b0 (xj_s1 lv i .null).tail = (xj_lm E b0 (xj_s1 lv i .null)).tail := by simp only [xj_lm, List.map_tail]
                                          rw [e9, ← e0] at hz
                                          exact hz
                                        have hres := ih _ H1 locs1 ls1 h (Nat.le_trans hn0 hM.1) (Nat.le_trans hz0 hM.2) hl2 hG1
                                        simp only at hres
                                        rw [show M1.1.length - n0 = M.1.length - n0 + (M1.1.length - M.1.length) by have := hM.1; omega, show M1.2 - z0 = M.2 - z0 + (M1.2 - M.2) by have := hM.2; omega] at hres
                                        exact hres
                                      have hca : (Cond.castable (xj_en k0) (xj_en k0)).before args s = true := hba.2.2.use (xj_en_ca k0) rfl
                                      rw [← c3] at x2
                                      refine vx_catch hown [] ⟨t.1, t.2.1, t.2.2.1, t.2.2.2.1⟩ [] x1 (fun z hz => nomatch hz) (by simp only [covers, Bool.and_eq_true, decide_eq_true_eq]; exact ⟨c1, c2⟩) x3 x2 hca hce hcv hcl ?_
                                      rcases hdec with ⟨i4, hi4, hdec, rfl⟩ | ⟨hdec, rfl⟩
                                      · exact lv_astore_n hx hb hdec hi4 hl hi rfl hgo
                                      · exact lv_astore hx hb hdec hl hi rfl hgo
                                · cases hst
                              · split at hst
                                · rename_i st1 h1
                                  cases hst
                                  simp only at h
                                  obtain ⟨n1, x1, rfl, h18, hX1, d3, d6, rfl, g0, g1, g2⟩ := xj_chk_inv h1
                                  have e1 := xj_len_eq hlen (fun _ _ _ _ q => by cases q) (fun _ _ q => by cases q)
                                  subst e1
                                  rw [h18] at hown
                                  have hL := xj_loop_le hle n _ rf Mf h
                                  simp only at hL
                                  exact xj_chk_ok hx hb hmls hts hown hba hG hd d3 d6 g0 g1 g2 (by omega) (by omega) (by have := hL.1; omega) (by have := hL.2; omega) (fun H1 locs1 hG1 => ih _ H1 locs1 ls h hn0 hz0 hl hG1)
                                · obtain ⟨i, k, rfl, hX, hX5, rfl, hth, rfl⟩ := xj_thr_inv hst
                                  simp only at h
                                  cases h
                                  rw [hX] at hex
                                  have e1 := xj_len_eq hlen (fun _ _ _ _ q => by cases q) (fun _ _ q => by cases q)
                                  subst e1
                                  have eL : (xj_new M (.inl ()) 6).1.length = M.1.length + 1 := by simp [xj_new]
                                  have eS : (xj_new M (.inl ()) 6).2 = M.2 + 6 := by simp [xj_new]
                                  exact xj_th_ok hx hb hl0 hts hown hba hG.2 hmls.symm hth hd hex (by omega) (by omega) (by rw [eL] at hRc; omega) (by rw [eS] at hRs; omega) hlocks
                                    (fun t hal hz ho => ⟨k, rfl, rfl, (hG.new (n := 6) (c := .inl ()) hz ho trivial).1.moved hal, (hG.new (n := 6) (c := .inl ()) hz ho trivial).2.F rfl⟩) (by rw [eL]; omega) (by rw [eS]; omega)
end
/-- EACH RUN OF THE INTERPRETER IS A CONTRACT OF THE MACHINE -/
theorem xj_call_ok (l : Launch) (hl0 : l.stackTraces = false) (D : va_G) (E : Nat → Nat) (b0 n : Nat) : ∀ (d j : Nat) (as : List Value) (M : xj_M) (r : xj_R) (M' : xj_M), xj_call n d j as M = some (r, M') → xj_met l D E b0 d j as M r M' := by
  intro d
  induction d with
  | zero => intro j as M r M' h; cases h
  | succ d ih =>
    intro j as M r M' h row hrow
    unfold xj_call at h
    rw [hrow] at h
    simp only at h
    split at h
    · rename_i hlen
      obtain ⟨r1, r2, r3, r4, r5, r6, r7, r8⟩ := xj_row_ok hrow
      have key : ∀ (p : Program) (e : Env) (s : State) (m : MethodId) (args : Array Value) (below : List Frame) (meth : Method) (c : Code) (s₁ : State), BodyLoose p l row.2.1 (headSpec (xj_ws (xj_tab j) row) (xj_rm (d + 1) M M')) row.2.2.1 row.2.2.2.1 row.2.2.2.2.1 e s m args below meth c s₁ → c.maxLocals = row.2.2.2.1 → (match xj_tab j with | none => ∀ x ∈ c.exceptionTable.toList, False | some t => c.exceptionTable.toList = [⟨t.1, t.2.1, t.2.2.1, t.2.2.2.1⟩]) → xj_Pc D E b0 as M args s →
          W p l e (headSpec (xj_ws (xj_tab j) row) (xj_rm (d + 1) M M')).room s m args below meth c s.heap [] 0 0 (vx_MQ below (xj_Qc D E b0 r M') (xj_XC D E b0 r M') args s (M'.1.length - M.1.length) (M'.2 - M.2) (fun q => b0 ≤ q)) (entryFrame m args row.2.2.2.1) := by
        intro p e s m args below meth c s₁ B hml hex hv
        obtain ⟨rfl, hrep, hK, hkx, hba⟩ := hv
        have hts0 := atoms_spec (ws := xj_ws (xj_tab j) row) B.pre
        have hts : ∀ w ∈ xj_tb, w.before (xj_s E b0 as).toArray s = true := fun w hw => hts0 w (List.mem_cons_of_mem _ hw)
        have hown : s.vm.findClass (xj_nm row.1) = some m.cls := by rw [← r1]; exact findClass_of_methodNamed B.named
        have hini : row.2.2.2.2.2.2.1 = true → meth.name = "<init>" := fun q => by rw [← r5 q]; exact (name_of_methodNamed B.named B.method).1
        have hl := lv_entry (xj_s E b0 as) (n := row.2.2.2.1) (by rw [xj_sl_len]; exact hlen)
        rw [lg_entry_eq]
        rw [xj_lm_args] at hl
        have hW := xj_loop_ok (p := p) (e := e) (R := (headSpec (xj_ws (xj_tab j) row) (xj_rm (d + 1) M M')).room) (s := s) (m := m) (args := (xj_s E b0 as).toArray) (below := below) (meth := meth) (c := c) (l := l) (D := D) (E := E) (b0 := b0) (d := d) (call := xj_call n d) (X := (xj_tab j, d, none)) hl0 (Nat.le_refl _) (xj_call_le d) ih (row := row) B.exec B.bytes B.returns hml B.notSynchronized hown hini hts hK hkx hba
          (by
            show match xj_tab j with | none => ∀ x ∈ c.exceptionTable.toList, False | some t => c.exceptionTable.toList = [⟨t.1, t.2.1, t.2.2.1, t.2.2.2.1⟩] ∧ (Cond.classLink (xj_nm row.1) t.2.2.2.1 (xj_en t.2.2.2.2)).before (xj_s E b0 as).toArray s = true ∧ t.2.2.2.1 ≠ 0
            cases hT : xj_tab j with
            | none => rw [hT] at hex; exact hex
            | some t => rw [hT] at hex; exact ⟨hex, hts _ (r8 t hT).1, (r8 t hT).2⟩)
          (fun xs q => by cases q) (n0 := M.1.length) (z0 := M.2) (rf := r) (Mf := M') (Nat.le_refl _) (Nat.le_refl _) (Nat.le_refl _) (Nat.le_refl _) n (0, lv_args 0 as, [], M) s.heap [] _ h (Nat.le_refl _) (Nat.le_refl _) hl ⟨hrep, va_S.rf⟩
        simp only [Nat.sub_self] at hW
        exact hW
      cases hT : xj_tab j with
      | none =>
        rw [hT] at key
        exact vx_ofW (cc := row.2.2.1) (maxL := row.2.2.2.1) (ret := row.2.2.2.2.1) r2 rfl (fun p e s m args below meth c s₁ B hml hex hv => key p e s m args below meth c s₁ B hml (fun x hx => hex x hx) hv)
      | some t =>
        rw [hT] at key
        refine vx_ofWH (cc := row.2.2.1) (maxL := row.2.2.2.1) (ret := row.2.2.2.2.1) (hh := [(t.1, t.2.1, t.2.2.1, t.2.2.2.1)]) r2 rfl (fun p e s m args below meth c s₁ B hml hv => key p e s m args below meth c s₁ B hml ?_ hv)
        exact vx_table (l := l) (x := row.2.1) B (atoms_spec (ws := xj_ws (some t) row) B.pre _ List.mem_cons_self)
    · cases h
