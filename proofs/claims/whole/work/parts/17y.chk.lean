/-! String.checkIndex: Preconditions.checkIndex is a contract where the index lies inside; the step that reads the formatter, calls it and drops its answer -/
theorem xj_pk_d0 : decode prog_31_method_11_code 0 = .ok (.iload_n 0, 1) := by decide +kernel
theorem xj_pk_d1 : decode prog_31_method_11_code 1 = .ok (.ifCond .lt 8, 3) := by decide +kernel
theorem xj_pk_d4 : decode prog_31_method_11_code 4 = .ok (.iload_n 0, 1) := by decide +kernel
theorem xj_pk_d5 : decode prog_31_method_11_code 5 = .ok (.iload_n 1, 1) := by decide +kernel
theorem xj_pk_d6 : decode prog_31_method_11_code 6 = .ok (.if_icmp .lt 10, 3) := by decide +kernel
theorem xj_pk_d16 : decode prog_31_method_11_code 16 = .ok (.iload_n 0, 1) := by decide +kernel
theorem xj_pk_d17 : decode prog_31_method_11_code 17 = .ok (.ireturn, 1) := by decide +kernel
def xj_Pq (D : va_G) (E : Nat → Nat) (b0 : Nat) (as : Array Value) (M : xj_M) : Array Value → State → Prop := fun a U => a = as ∧ xj_rep D E b0 U M U.heap
theorem xj_blindq {D : va_G} {E : Nat → Nat} {b0 : Nat} {as : Array Value} {M : xj_M} : FrameBlind (xj_Pq D E b0 as M) := by
  intro a U g mk h
  obtain ⟨h1, h2⟩ := h
  exact ⟨h1, xj_rep.moved (u := U) (U := U.calling g mk a) (Vm.Alike.refl U.vm) h2⟩
set_option maxHeartbeats 1000000 in
theorem xj_pk_met (l : Launch) (D : va_G) (E : Nat → Nat) (b0 : Nat) (M : xj_M) {x n : Int32} {q : Value} (hq : q.category = 1) (h0 : 0 ≤ x) (h1 : x < n) :
    vx_Met l xj_pk (xj_ws none xj_pkr) (xj_rm 1 M M) (xj_Pq D E b0 [.int x, .int n, q].toArray M) (xj_Qc D E b0 (.inl (some (.int x))) M) (xj_XC D E b0 (.inl (some (.int x))) M) 0 0 (fun q => b0 ≤ q) := by
  refine vx_ofW (cc := prog_31_method_11_code) (maxL := 3) (ret := some .int) (by decide) rfl (fun p e s m args below meth c s₁ B hml hex hv => ?_)
  obtain ⟨rfl, hrep⟩ := hv
  have hl := lv_entry [.int x, .int n, q] (n := 3) (by cases q <;> first | (simp [Value.category] at hq; done) | simp [lg_sl, Value.category])
  rw [lg_entry_eq]
  have hlv : ∀ ls : Array Slot, lv_has ls 3 (lv_args 0 [.int x, .int n, q]) → lv_has ls 3 (xj_lm E b0 [(0, .int x), (1, .int n)]) := by
    intro ls hl
    refine ⟨hl.1, hl.2.1, fun z hz => hl.2.2 z ?_⟩
    · simp only [xj_lm, List.map_cons, List.map_nil, List.mem_cons, List.not_mem_nil, or_false] at hz
      rcases hz with rfl | rfl
      · exact List.mem_cons_self
      · exact List.mem_cons_of_mem _ List.mem_cons_self
  have hl := hlv _ hl
  have hG : xj_G D E b0 s M s.heap [] := ⟨hrep, va_S.rf⟩
  refine xj_loc_ok (nL := 3) (ins := .iload_n 0) (lv := [(0, .int x), (1, .int n)]) (lv' := [(0, .int x), (1, .int n)]) (st := []) (st' := [.int x]) B.exec B.bytes rfl xj_pk_d0 hl (fun ls hl => ?_)
  refine xj_jmp_ok (ins := .ifCond .lt 8) (st := [.int x]) (st' := []) (jo := (8, false)) (tgt := 4) B.exec B.bytes (by simp only [xj_jmp, xj_z1, Option.some.injEq, Prod.mk.injEq, and_true, true_and, decide_eq_false_iff_not]; exact Int32.not_lt.mpr h0) (len := 3) xj_pk_d1 rfl rfl ?_
  refine xj_loc_ok (nL := 3) (ins := .iload_n 0) (lv := [(0, .int x), (1, .int n)]) (lv' := [(0, .int x), (1, .int n)]) (st := []) (st' := [.int x]) B.exec B.bytes rfl xj_pk_d4 hl (fun ls hl => ?_)
  refine xj_loc_ok (nL := 3) (ins := .iload_n 1) (lv := [(0, .int x), (1, .int n)]) (lv' := [(0, .int x), (1, .int n)]) (st := [.int x]) (st' := [.int n, .int x]) B.exec B.bytes rfl xj_pk_d5 hl (fun ls hl => ?_)
  refine xj_jmp_ok (ins := .if_icmp .lt 10) (st := [.int n, .int x]) (st' := []) (jo := (10, true)) (tgt := 16) B.exec B.bytes (by simp only [xj_jmp, xj_z2, Option.some.injEq, Prod.mk.injEq, and_true, true_and, decide_eq_true_eq]; exact h1) (len := 3) xj_pk_d6 rfl rfl ?_
  refine xj_loc_ok (nL := 3) (ins := .iload_n 0) (lv := [(0, .int x), (1, .int n)]) (lv' := [(0, .int x), (1, .int n)]) (st := []) (st' := [.int x]) B.exec B.bytes rfl xj_pk_d16 hl (fun ls hl => ?_)
  exact vx_ret (xj_ret_ok B.exec B.bytes B.returns B.notSynchronized hG (v := some (.int x)) (st := [.int x]) (ins := .ireturn) (by simp only [xj_ret, xj_ireturn]; exact if_pos rfl) xj_pk_d17)
section
variable {p : Program} {l : Launch} {e : Env} {R : Room} {s : State} {m : MethodId} {args : Array Value} {below : List Frame} {meth : Method} {c : Code} {H : Heap} {locs : List Loc} {cells slots : Nat} {Q : State → Prop} {cc : ByteArray} {pc : Nat} {ls : Array Slot} {E : Nat → Nat} {b0 : Nat} {D : va_G}
set_option maxHeartbeats 1000000 in
theorem xj_chk_ok (hx : p.tables.exec = Jvm.exec) (hb : c.code = cc) (hml : c.maxLocals = ls.size) (hts : ∀ w ∈ xj_tb, w.before args s = true) (hown : s.vm.findClass (xj_nm 18) = some m.cls) (hba : xj_ba E b0 s) {M : xj_M} (hG : xj_G D E b0 s M H locs) {n x : Int32} {r : List Value}
    (hd : decode cc pc = .ok (.getstatic 1053, 3)) (hd3 : decode cc (pc + 3) = .ok (.invokestatic 1059, 3)) (hd6 : decode cc (pc + 6) = .ok (.pop, 1)) (h0 : 0 ≤ x) (h1 : x < n) (hsm : xj_small r = true) (hfr : 2 ≤ R.frames) (hlo : 200 ≤ R.locals) (hc : cells ≤ R.cells) (hs : slots ≤ R.slots)
    (k : ∀ (H1 : Heap) (locs1 : List Loc), xj_G D E b0 s M H1 locs1 → W p l e R s m args below meth c H1 locs1 cells slots Q (F0 m (pc + 7) ls (xj_s E b0 r))) : W p l e R s m args below meth c H locs cells slots Q (F0 m pc ls (xj_s E b0 (.int n :: .int x :: r))) := by
  have main : ∀ q : Value, q.category = 1 → W p l e R s m args below meth c H locs cells slots Q (F0 m (pc + 3) ls (q :: xj_s E b0 (.int n :: .int x :: r))) := by
    intro q hq
    have S : CallFix p m c cc ls.size s args xj_tb (xj_nm 18) := ⟨hx, hb, hml, hown, hts⟩
    have hin : ∀ w ∈ xj_ws none xj_pkr, w ∈ xj_tb := by
      intro w hw
      rcases List.mem_cons.mp hw with q | q
      · rw [q]; exact xj_pk_co
      · exact q
    have hrun := vx_runS (y := xj_pk) (bytes := prog_31_method_11_code) (maxL := 3) (ret := some .int) (n := 3) (As := [.int x, .int n, q]) (rest := xj_s E b0 r) (g := F0 m (pc + 3) ls (q :: xj_s E b0 (.int n :: .int x :: r))) (R := R) (below := below) (meth := meth) (locs := locs) (cells := cells) (slots := slots) (e := e) (H := H) S (xj_pk_met l D E b0 M hq h0 h1)
      ⟨callB_of (index := 1059) 3 hts (xj_goodIn hin) rfl (Nat.sub_self _) (Nat.sub_self _) (hts _ xj_pk_in) (hts _ xj_pk_li) (by decide) ⟨hfr, by show 8 + (3 + 11) + 100 * 1 ≤ _; omega⟩, hts _ xj_pk_st⟩
      ⟨xj_blindq, fun U hU hW => ⟨rfl, by rw [hU]; exact hG.1.moved hW.alike⟩⟩ rfl rfl rfl rfl (lv_room (xj_small_s (E := E) (b0 := b0) hsm)) hd3 ⟨hc, hs⟩
    refine xj_callX hrun hG (fun v H1 locs1 hv hG1 => ?_) (fun k q ce H1 locs1 hv => by cases hv)
    cases hv
    exact xj_pure_ok (ins := .pop) (st := .int x :: r) (st' := r) hx hb rfl hd6 (k H1 locs1 hG1)
  rcases hba.1.2.2.1.2 with hZ | ⟨t, hZ⟩
  · exact va_gets hx hb hZ hG.2 hown (hts _ xj_pk_fl) (fun _ q => q) hd (main _ rfl)
  · exact va_gets hx hb hZ hG.2 hown (hts _ xj_pk_fl) (fun _ q => q) hd (main _ rfl)
end
