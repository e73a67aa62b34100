/-! Contracts out of the interpreter's runs, and calls by them -/
theorem xj_cal_inv {o i k j : Nat} (h : xj_cal o i = some (k, j)) : ∃ q ∈ xj_cT o, q.1 = i ∧ q.2.1 = k ∧ q.2.2.1 = j ∧ xj_cC o q = true := by
  unfold xj_cal at h
  obtain ⟨q, h1, h2⟩ := Option.map_eq_some_iff.mp h
  have h3 := List.mem_of_find?_eq_some h1
  have h4 := List.find?_some h1
  simp only [beq_iff_eq] at h4
  cases h2
  exact ⟨q, h3, h4, rfl, rfl, List.all_eq_true.mp (xj_cT_all o) q h3⟩
theorem xj_cal_v {o i j : Nat} (h : xj_cal o i = some (0, j)) : ∃ row : xj_mR, xj_mT[j]? = some row ∧ row.1 < 16 ∧ Cond.methodLink (xj_nm o) i row.2.1 ∈ xj_tb ∧ Cond.instanceMethod row.2.1 ∈ xj_tb ∧ Cond.selects row.2.1.cls row.2.1 row.2.1 ∈ xj_tb := by
  obtain ⟨⟨i', k', j', p1, p2, p3⟩, -, rfl, e1, rfl, hc⟩ := xj_cal_inv h
  simp only at e1 hc
  subst e1
  simp only [xj_cC] at hc
  rw [if_neg (by decide), if_neg (by decide), if_neg (by decide), if_neg (by decide)] at hc
  split at hc
  · cases hc
  · rename_i row hr
    rw [if_pos (Or.inl trivial)] at hc
    simp only [Bool.and_eq_true] at hc
    exact ⟨row, hr, of_decide_eq_true hc.1.1.1.1 trivial, xj_w_in hc.1.1.2 rfl, xj_w_in hc.1.2 rfl, xj_w_in hc.2 rfl⟩
theorem xj_cal_w {o i j : Nat} (h : xj_cal o i = some (12, j)) : ∃ row : xj_mR, xj_mT[j]? = some row ∧ row.1 = 18 ∧ Cond.methodLink (xj_nm o) i row.2.1 ∈ xj_tb ∧ Cond.instanceMethod row.2.1 ∈ xj_tb ∧ Cond.selects row.2.1.cls row.2.1 row.2.1 ∈ xj_tb := by
  obtain ⟨⟨i', k', j', p1, p2, p3⟩, -, rfl, e1, rfl, hc⟩ := xj_cal_inv h
  simp only at e1 hc
  subst e1
  simp only [xj_cC] at hc
  rw [if_neg (by decide), if_neg (by decide), if_neg (by decide), if_neg (by decide)] at hc
  split at hc
  · cases hc
  · rename_i row hr
    rw [if_pos (Or.inr trivial)] at hc
    simp only [Bool.and_eq_true] at hc
    exact ⟨row, hr, of_decide_eq_true hc.1.1.1.2 trivial, xj_w_in hc.1.1.2 rfl, xj_w_in hc.1.2 rfl, xj_w_in hc.2 rfl⟩
theorem xj_cal_hv {o i j : Nat} (h : xj_cal o i = some (10, j)) : ∃ r : xj_wR, xj_wT[j]? = some r ∧ Cond.methodLink (xj_nm o) i r.1.2.1 ∈ xj_tb ∧ Cond.instanceMethod r.1.2.1 ∈ xj_tb ∧ Cond.selects r.1.2.1.cls r.1.2.1 r.1.2.1 ∈ xj_tb := by
  obtain ⟨⟨i', k', j', p1, p2, p3⟩, -, rfl, e1, rfl, hc⟩ := xj_cal_inv h
  simp only at e1 hc
  subst e1
  simp only [xj_cC] at hc
  rw [if_neg (by decide), if_neg (by decide), if_pos trivial] at hc
  split at hc
  · cases hc
  · rename_i r hr
    simp only [Bool.and_eq_true] at hc
    exact ⟨r, hr, xj_w_in hc.1.1 rfl, xj_w_in hc.1.2 rfl, xj_w_in hc.2 rfl⟩
theorem xj_cal_hs {o i j : Nat} (h : xj_cal o i = some (11, j)) : ∃ r : xj_wR, xj_wT[j]? = some r ∧ Cond.methodLink (xj_nm o) i r.1.2.1 ∈ xj_tb ∧ Cond.static r.1.2.1 ∈ xj_tb := by
  obtain ⟨⟨i', k', j', p1, p2, p3⟩, -, rfl, e1, rfl, hc⟩ := xj_cal_inv h
  simp only at e1 hc
  subst e1
  simp only [xj_cC] at hc
  rw [if_neg (by decide), if_neg (by decide), if_neg (by decide), if_pos trivial] at hc
  split at hc
  · cases hc
  · rename_i r hr
    simp only [Bool.and_eq_true] at hc
    exact ⟨r, hr, xj_w_in hc.1 rfl, xj_w_in hc.2 rfl⟩
theorem xj_cal_s {o i j : Nat} (h : xj_cal o i = some (2, j)) : ∃ row : xj_mR, xj_mT[j]? = some row ∧ Cond.methodLink (xj_nm o) i row.2.1 ∈ xj_tb ∧ Cond.static row.2.1 ∈ xj_tb := by
  obtain ⟨⟨i', k', j', p1, p2, p3⟩, -, rfl, e1, rfl, hc⟩ := xj_cal_inv h
  simp only at e1 hc
  subst e1
  simp only [xj_cC] at hc
  rw [if_neg (by decide), if_neg (by decide), if_neg (by decide), if_neg (by decide)] at hc
  split at hc
  · cases hc
  · rename_i row hr
    rw [if_neg (by decide), if_neg (by decide), if_pos trivial] at hc
    simp only [Bool.and_eq_true] at hc
    exact ⟨row, hr, xj_w_in hc.1 rfl, xj_w_in hc.2 rfl⟩
theorem xj_cal_i {o i j : Nat} (h : xj_cal o i = some (1, j)) : ∃ row : xj_mR, xj_mT[j]? = some row ∧ Cond.methodLink (xj_nm o) i row.2.1 ∈ xj_tb ∧ Cond.instanceMethod row.2.1 ∈ xj_tb ∧ row.2.2.2.2.2.2.1 = true := by
  obtain ⟨⟨i', k', j', p1, p2, p3⟩, -, rfl, e1, rfl, hc⟩ := xj_cal_inv h
  simp only at e1 hc
  subst e1
  simp only [xj_cC] at hc
  rw [if_neg (by decide), if_neg (by decide), if_neg (by decide), if_neg (by decide)] at hc
  split at hc
  · cases hc
  · rename_i row hr
    rw [if_neg (by decide), if_pos trivial] at hc
    simp only [Bool.and_eq_true] at hc
    exact ⟨row, hr, xj_w_in hc.1.1 rfl, xj_w_in hc.1.2 rfl, hc.2⟩
theorem xj_cal_ni {o i j : Nat} (h : xj_cal o i = some (4, j)) : ∃ row : xj_mR, xj_mT[j]? = some row ∧ Cond.methodLinkNest (xj_nm o) i row.2.1 (xj_hs o) ∈ lw_tbl ∧ Cond.instanceMethod row.2.1 ∈ xj_tb ∧ row.2.2.2.2.2.2.1 = true := by
  obtain ⟨⟨i', k', j', p1, p2, p3⟩, -, rfl, e1, rfl, hc⟩ := xj_cal_inv h
  simp only at e1 hc
  subst e1
  simp only [xj_cC] at hc
  rw [if_neg (by decide), if_neg (by decide), if_neg (by decide), if_neg (by decide)] at hc
  split at hc
  · cases hc
  · rename_i row hr
    rw [if_neg (by decide), if_neg (by decide), if_neg (by decide), if_pos trivial] at hc
    simp only [Bool.and_eq_true] at hc
    exact ⟨row, hr, xj_w_in0 hc.1.1, xj_w_in hc.1.2 rfl, hc.2⟩
theorem xj_cal_ns {o i j : Nat} (h : xj_cal o i = some (5, j)) : ∃ row : xj_mR, xj_mT[j]? = some row ∧ Cond.methodLinkNest (xj_nm o) i row.2.1 (xj_hs o) ∈ lw_tbl ∧ Cond.static row.2.1 ∈ xj_tb := by
  obtain ⟨⟨i', k', j', p1, p2, p3⟩, -, rfl, e1, rfl, hc⟩ := xj_cal_inv h
  simp only at e1 hc
  subst e1
  simp only [xj_cC] at hc
  rw [if_neg (by decide), if_neg (by decide), if_neg (by decide), if_neg (by decide)] at hc
  split at hc
  · cases hc
  · rename_i row hr
    rw [if_neg (by decide), if_neg (by decide), if_neg (by decide), if_neg (by decide), if_pos trivial] at hc
    simp only [Bool.and_eq_true] at hc
    exact ⟨row, hr, xj_w_in0 hc.1, xj_w_in hc.2 rfl⟩
theorem xj_mT_len : xj_mT.length ≤ 1000 := by decide +kernel
theorem xj_row_m {j : Nat} {row : xj_mR} (h : xj_mT[j]? = some row) : xj_row j = some row ∧ xj_tab j = none := by
  have h1 : j < 1000 := Nat.lt_of_lt_of_le (List.getElem?_eq_some_iff.mp h).1 xj_mT_len
  exact ⟨by unfold xj_row; rw [if_pos h1]; exact h, by unfold xj_tab; rw [if_pos h1]⟩
theorem xj_row_w {j : Nat} {r : xj_wR} (h : xj_wT[j]? = some r) : xj_row (1000 + j) = some r.1 ∧ xj_tab (1000 + j) = some (r.2.1.1, r.2.1.2.1, r.2.1.2.2.1, r.2.1.2.2.2, r.2.2.1) := by
  have h1 : ¬ 1000 + j < 1000 := by omega
  have h2 : 1000 + j - 1000 = j := by omega
  exact ⟨by unfold xj_row; rw [if_neg h1, h2, h]; rfl, by unfold xj_tab; rw [if_neg h1, h2, h]; rfl⟩
/-- the word of a method's code -/
def xj_cw (T : xj_H) (row : xj_mR) : Cond := match T with
  | none => .code row.2.1 row.2.2.1 row.2.2.2.1 row.2.2.2.2.1
  | some t => .codeWith row.2.1 row.2.2.1 row.2.2.2.1 row.2.2.2.2.1 [(t.1, t.2.1, t.2.2.1, t.2.2.2.1)]
theorem xj_mC_ok {row : xj_mR} (h1 : xj_mC row = true) : row.2.1.cls = xj_nm row.1 ∧ plainName row.2.1.cls = true ∧ (row.2.1.cls ≠ "java/lang/invoke/MethodHandle" ∧ row.2.1.cls ≠ "java/lang/invoke/VarHandle" ∧ (parseMethodDescriptor row.2.1.desc).map (fun d => d.parameters.length) = some row.2.2.2.2.2.1) ∧ row.2.2.2.1 ≤ 70 ∧ (row.2.2.2.2.2.2.1 = true → row.2.1.name = "<init>") ∧ Cond.initialized row.2.1.cls ∈ xj_tb := by
  unfold xj_mC at h1
  simp only [Bool.and_eq_true] at h1
  obtain ⟨⟨⟨⟨⟨⟨⟨⟨a1, a2⟩, a3⟩, a4⟩, a5⟩, a6⟩, a7⟩, a8⟩, a9⟩ := h1
  refine ⟨of_decide_eq_true a1, a2, ⟨of_decide_eq_true a4, of_decide_eq_true a5, of_decide_eq_true a3⟩, of_decide_eq_true a6, fun q => ?_, xj_w_in a8 rfl⟩
  rw [q] at a7
  exact of_decide_eq_true (beq_iff_eq.mp a7).symm
theorem xj_row_ok {j : Nat} {row : xj_mR} (h : xj_row j = some row) : row.2.1.cls = xj_nm row.1 ∧ plainName row.2.1.cls = true ∧ (row.2.1.cls ≠ "java/lang/invoke/MethodHandle" ∧ row.2.1.cls ≠ "java/lang/invoke/VarHandle" ∧ (parseMethodDescriptor row.2.1.desc).map (fun d => d.parameters.length) = some row.2.2.2.2.2.1) ∧ row.2.2.2.1 ≤ 70 ∧ (row.2.2.2.2.2.2.1 = true → row.2.1.name = "<init>") ∧ Cond.initialized row.2.1.cls ∈ xj_tb ∧ xj_cw (xj_tab j) row ∈ xj_tb ∧ (∀ t, xj_tab j = some t → Cond.classLink (xj_nm row.1) t.2.2.2.1 (xj_en t.2.2.2.2) ∈ xj_tb ∧ t.2.2.2.1 ≠ 0) := by
  unfold xj_row at h
  split at h
  · rename_i hj
    have hm := List.mem_of_getElem? h
    obtain ⟨r1, r2, r3, r4, r5, r6⟩ := xj_mC_ok (List.all_eq_true.mp xj_mT_all row hm)
    have ht : xj_tab j = none := by unfold xj_tab; rw [if_pos hj]
    refine ⟨r1, r2, r3, r4, r5, r6, ?_, fun t q => by rw [ht] at q; cases q⟩
    rw [ht]
    exact List.mem_filter.mpr ⟨xj_mT_code hm, rfl⟩
  · rename_i hj
    obtain ⟨r, hr, rfl⟩ := Option.map_eq_some_iff.mp h
    have hm := List.mem_of_getElem? hr
    have hC := List.all_eq_true.mp xj_wT_ok r hm
    unfold xj_wC at hC
    simp only [Bool.and_eq_true] at hC
    obtain ⟨r1, r2, r3, r4, r5, r6⟩ := xj_mC_ok hC.1.1
    have ht : xj_tab j = some (r.2.1.1, r.2.1.2.1, r.2.1.2.2.1, r.2.1.2.2.2, r.2.2.1) := by unfold xj_tab; rw [if_neg hj, hr]; rfl
    refine ⟨r1, r2, r3, r4, r5, r6, ?_, fun t q => ?_⟩
    · rw [ht]
      exact List.mem_filter.mpr ⟨xj_seg_in (List.mem_of_getElem? (List.map_inj_left.mp xj_wQ r hm)), rfl⟩
    · rw [ht] at q
      cases q
      exact ⟨xj_w_in hC.1.2 rfl, of_decide_eq_true hC.2⟩
theorem xj_goodIn {ws : List Cond} (h : ∀ w ∈ ws, w ∈ xj_tb) : GoodIn xj_tb ws := fun w hw => ⟨h w hw, good_of_word (xj_tb_good (h w hw))⟩
def xj_ws (T : xj_H) (row : xj_mR) : List Cond := xj_cw T row :: xj_tb
theorem xj_ws_in {j : Nat} {row : xj_mR} (h : xj_row j = some row) : ∀ w ∈ xj_ws (xj_tab j) row, w ∈ xj_tb := by
  intro w hw
  rcases List.mem_cons.mp hw with q | q
  · rw [q]; exact (xj_row_ok h).2.2.2.2.2.2.1
  · exact q
def xj_Pc (D : va_G) (E : Nat → Nat) (b0 : Nat) (as : List Value) (M : xj_M) : Array Value → State → Prop := fun a U => a = (xj_s E b0 as).toArray ∧ xj_rep D E b0 U M U.heap ∧ xj_kn D U ∧ xj_kx U ∧ xj_ba E b0 U
def xj_Qc (D : va_G) (E : Nat → Nat) (b0 : Nat) (r : xj_R) (M' : xj_M) : Array Value → State → Outcome → State → Prop := fun _ st oc t => ∃ v : Option Value, r = .inl v ∧ oc = .returned (v.map (xj_v E b0)) ∧ xj_rep D E b0 t M' t.heap ∧ va_F (fun q => b0 ≤ q) st t
def xj_XC (D : va_G) (E : Nat → Nat) (b0 : Nat) (r : xj_R) (M' : xj_M) : String → State → State → Prop := fun En st t => ∃ k : Nat, r = .inr k ∧ En = xj_en k ∧ xj_rep D E b0 t M' t.heap ∧ va_F (fun q => b0 ≤ q) st t
def xj_rm (d : Nat) (M M' : xj_M) : Room := { frames := d, cells := M'.1.length - M.1.length, slots := M'.2 - M.2, locals := 100 * d }
/-- the contract that a run of the interpreter is -/
def xj_met (l : Launch) (D : va_G) (E : Nat → Nat) (b0 d j : Nat) (as : List Value) (M : xj_M) (r : xj_R) (M' : xj_M) : Prop := ∀ row : xj_mR, xj_row j = some row →
  vx_Met l row.2.1 (xj_ws (xj_tab j) row) (xj_rm d M M') (xj_Pc D E b0 as M) (xj_Qc D E b0 r M') (xj_XC D E b0 r M') (M'.1.length - M.1.length) (M'.2 - M.2) (fun q => b0 ≤ q)
theorem xj_blind {D : va_G} {E : Nat → Nat} {b0 : Nat} {as : List Value} {M : xj_M} : FrameBlind (xj_Pc D E b0 as M) := by
  intro a U g mk h
  obtain ⟨h1, h2, h3, h4, h5, h6, h7⟩ := h
  exact ⟨h1, xj_rep.moved (u := U) (U := U.calling g mk a) (Vm.Alike.refl U.vm) h2, xj_kn.moved (u := U) (U := U.calling g mk a) (Vm.Alike.refl U.vm) h3, xj_kx.same (u := U) (U := U.calling g mk a) rfl h4, xj_bs.moved (u := U) (U := U.calling g mk a) (Vm.Alike.refl U.vm) h5, xj_ks.same (u := U) (U := U.calling g mk a) rfl h6, xj_kd.same (u := U) (U := U.calling g mk a) rfl h7⟩
/-- a run that returns, as a contract of a method that doesn't throw -/
theorem xj_met_ret {l : Launch} {D : va_G} {E : Nat → Nat} {b0 d j : Nat} {as : List Value} {M : xj_M} {v : Option Value} {M' : xj_M} (h : xj_met l D E b0 d j as M (.inl v) M') {row : xj_mR} (hr : xj_row j = some row) :
    Met l row.2.1 (xj_ws (xj_tab j) row) (xj_rm d M M') (xj_Pc D E b0 as M) (xj_Qc D E b0 (.inl v) M') (M'.1.length - M.1.length) (M'.2 - M.2) (fun q => b0 ≤ q) := by
  intro p e ha hc hk s m args below hf happ hP hK
  obtain ⟨n, o, h1, h2, h3, h4⟩ := h row hr p e ha hc hk s m args below hf happ hP hK
  refine ⟨n, o, h1, h2, h3, ?_⟩
  rcases h4 with ⟨q1, q2⟩ | ⟨q, -, En, ce, L, hx, -⟩
  · exact ⟨q1, q2⟩
  · obtain ⟨k, hk, -⟩ := hx
    cases hk
section
variable {p : Program} {l : Launch} {e : Env} {R : Room} {s : State} {m : MethodId} {args : Array Value} {below : List Frame} {meth : Method} {c : Code} {H : Heap} {locs : List Loc} {cells slots : Nat} {Q : State → Prop} {cc : ByteArray} {pc : Nat} {ls : Array Slot} {E : Nat → Nat} {b0 : Nat} {D : va_G} {o : Nat} {mc ms : Nat} {st0 rest : List Value} {a : Array Value}
theorem xj_callX {M M' : xj_M} {r : xj_R} (hr : vx_Run p l e R s m args below meth c H locs cells slots mc ms (F0 m pc ls st0) rest (xj_Qc D E b0 r M' a) (xj_XC D E b0 r M') (fun q => b0 ≤ q)) (hG : xj_G D E b0 s M H locs)
    (kk : ∀ (v : Option Value) (H1 : Heap) (locs1 : List Loc), r = .inl v → xj_G D E b0 s M' H1 locs1 → W p l e R s m args below meth c H1 locs1 (cells + mc) (slots + ms) Q (F0 m (pc + 3) ls ((v.map (xj_v E b0)).toList ++ rest)))
    (kx : ∀ (k : Nat) (q : Addr) (ce : Cell) (H1 : Heap) (locs1 : List Loc), r = .inr k → xj_G D E b0 s M' H1 locs1 → H1[q]? = some ce → ce.vm = .none → s.vm.findClass (xj_en k) = some ce.cls → vx_W p l e R s m args below meth c H1 locs1 (cells + mc) (slots + ms) Q (F0 m pc ls rest) q) :
    W p l e R s m args below meth c H locs cells slots Q (F0 m pc ls st0) := by
  intro T hT X
  rcases hr T hT X with ⟨v, st₀, t, T', L, h0, X', hL, e1, e2, ⟨v', rfl, hv, hrep, hF⟩, st⟩ | ⟨q, st₀, t, T', L, En, ce, h0, X', hL, e1, e2, ⟨k, rfl, rfl, hrep, hF⟩, hce, hcv, hcl, st⟩
  · cases hv
    obtain ⟨k1, k2, k3⟩ := vx_keep h0 e1 hG.2 (fun _ _ h => h) (fun _ h => h) hL hF
    have hal : s.vm.Alike t.vm := by rw [← e2]; exact X'.warmed.alike
    obtain ⟨t2, a1, b1⟩ := kk v' T'.heap (locs ++ L) rfl ⟨by rw [e1]; exact hrep.moved hal.symm, k3⟩ T' rfl X'
    exact ⟨t2, st t2 a1, b1⟩
  · obtain ⟨k1, k2, k3⟩ := vx_keep h0 e1 hG.2 (fun _ _ h => h) (fun _ h => h) hL hF
    have hal : s.vm.Alike t.vm := by rw [← e2]; exact X'.warmed.alike
    obtain ⟨t2, a1, b1⟩ := kx k q ce T'.heap (locs ++ L) rfl ⟨by rw [e1]; exact hrep.moved hal.symm, k3⟩ (by rw [e1]; exact hce) hcv hcl T' rfl X'
    exact ⟨t2, st.trans a1, b1⟩
theorem xj_callM {M M' : xj_M} {v : Option Value} (hr : va_Run p l e R s m args below meth c H locs cells slots mc ms (F0 m pc ls st0) rest (xj_Qc D E b0 (.inl v) M' a) (fun q => b0 ≤ q)) (hG : xj_G D E b0 s M H locs)
    (kk : ∀ (H1 : Heap) (locs1 : List Loc), xj_G D E b0 s M' H1 locs1 → W p l e R s m args below meth c H1 locs1 (cells + mc) (slots + ms) Q (F0 m (pc + 3) ls ((v.map (xj_v E b0)).toList ++ rest))) :
    W p l e R s m args below meth c H locs cells slots Q (F0 m pc ls st0) := by
  intro T hT X
  obtain ⟨v', st₀, t, T', L, h0, X', hL, e1, e2, ⟨v2, hv2, hv, hrep, hF⟩, st⟩ := hr T hT X
  cases hv2
  cases hv
  obtain ⟨k1, k2, k3⟩ := vx_keep h0 e1 hG.2 (fun _ _ h => h) (fun _ h => h) hL hF
  have hal : s.vm.Alike t.vm := by rw [← e2]; exact X'.warmed.alike
  obtain ⟨t2, a1, b1⟩ := kk T'.heap (locs ++ L) ⟨by rw [e1]; exact hrep.moved hal.symm, k3⟩ T' rfl X'
  exact ⟨t2, st t2 a1, b1⟩
end
