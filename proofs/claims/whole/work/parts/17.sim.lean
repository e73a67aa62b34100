/-! A call, and a whole run: the machine follows the interpreter -/
theorem xj_s_app (E : Nat → Nat) (b0 : Nat) (v : Option Value) (rest : List Value) : (v.map (xj_v E b0)).toList ++ xj_s E b0 rest = xj_s E b0 (v.toList ++ rest) := by
  cases v <;> rfl
theorem xj_s_split {E : Nat → Nat} {b0 n : Nat} {st : List Value} : xj_s E b0 st = (xj_s E b0 (st.take n).reverse).reverse ++ xj_s E b0 (st.drop n) := by
  simp only [xj_s, List.map_reverse, List.reverse_reverse]
  rw [← List.map_append, List.take_append_drop]
theorem xj_sum_s {E : Nat → Nat} {b0 : Nat} {st : List Value} (h : (st.map fun v => v.category).sum ≤ 8) : ((xj_s E b0 st).map fun v => v.category).sum ≤ 8 := xj_small_s (decide_eq_true h)
theorem xj_tV_inv {j : Nat} {st : List Value} {M : xj_M} {j' : Nat} {as rest : List Value} (h : xj_tV j st M = some (j', as, rest)) : ∃ (row : xj_mR) (b ci : Nat) (fs : List Value), xj_row j = some row ∧ j' = j ∧ st.drop row.2.2.2.2.2.1 = .ref b :: rest ∧ xj_obj M b = some (ci, fs) ∧ ci = row.1 ∧ row.2.2.2.2.2.1 ≤ st.length ∧ (rest.map fun v => v.category).sum ≤ 8 ∧ as = .ref b :: (st.take row.2.2.2.2.2.1).reverse := by
  unfold xj_tV at h
  split at h
  · rename_i row hr
    split at h
    · rename_i b r hdr
      split at h
      · rename_i ob hob
        split at h
        · rename_i h0
          cases h
          exact ⟨row, b, ob.1, ob.2, hr, rfl, hdr, hob, h0.1, h0.2.2.1, h0.2.2.2, rfl⟩
        · cases h
      · cases h
    · cases h
  · cases h
theorem xj_tI_inv {j : Nat} {st : List Value} {j' : Nat} {as rest : List Value} (h : xj_tI j st = some (j', as, rest)) : ∃ (row : xj_mR) (b : Nat), xj_row j = some row ∧ j' = j ∧ st.drop row.2.2.2.2.2.1 = .ref b :: rest ∧ row.2.2.2.2.1 = none ∧ row.2.2.2.2.2.1 ≤ st.length ∧ (rest.map fun v => v.category).sum ≤ 8 ∧ as = .ref b :: (st.take row.2.2.2.2.2.1).reverse := by
  unfold xj_tI at h
  split at h
  · rename_i row hr
    split at h
    · rename_i b r hdr
      split at h
      · rename_i h0
        cases h
        exact ⟨row, b, hr, rfl, hdr, h0.2.1, h0.1, h0.2.2, rfl⟩
      · cases h
    · cases h
  · cases h
theorem xj_tS_inv {j : Nat} {st : List Value} {j' : Nat} {as rest : List Value} (h : xj_tS j st = some (j', as, rest)) : ∃ row : xj_mR, xj_row j = some row ∧ j' = j ∧ rest = st.drop row.2.2.2.2.2.1 ∧ row.2.2.2.2.2.1 ≤ st.length ∧ (rest.map fun v => v.category).sum ≤ 8 ∧ as = (st.take row.2.2.2.2.2.1).reverse := by
  unfold xj_tS at h
  split at h
  · rename_i row hr
    split at h
    · rename_i h0
      cases h
      exact ⟨row, hr, rfl, rfl, h0.1, h0.2, rfl⟩
    · cases h
  · cases h
theorem xj_tW_inv {j : Nat} {st : List Value} {j' : Nat} {as rest : List Value} (h : xj_tW j st = some (j', as, rest)) : ∃ (row : xj_mR) (b : Nat), xj_row j = some row ∧ j' = j ∧ st.drop row.2.2.2.2.2.1 = .ref (b + 1) :: rest ∧ b < 10 ∧ row.2.2.2.2.2.1 ≤ st.length ∧ (rest.map fun v => v.category).sum ≤ 8 ∧ as = .ref (b + 1) :: (st.take row.2.2.2.2.2.1).reverse := by
  unfold xj_tW at h
  split at h
  · rename_i row hr
    split at h
    · rename_i b r hdr
      split at h
      · rename_i h0
        cases h
        have h1 : @LE.le Nat _ 1 b := h0.1
        have h2 : @LE.le Nat _ b 10 := h0.2.1
        obtain ⟨k9, rfl⟩ : ∃ k9 : Nat, b = k9 + 1 := Nat.exists_eq_add_of_le' h1
        exact ⟨row, k9, hr, rfl, hdr, by omega, h0.2.2.1, h0.2.2.2, rfl⟩
      · cases h
    · cases h
  · cases h
section
variable {p : Program} {l : Launch} {e : Env} {R : Room} {s : State} {m : MethodId} {args : Array Value} {below : List Frame} {meth : Method} {c : Code} {H : Heap} {locs : List Loc} {cells slots : Nat} {Q : State → Prop} {cc : ByteArray} {pc : Nat} {ls : Array Slot} {E : Nat → Nat} {b0 : Nat} {D : va_G} {o : Nat}
theorem xj_pre {as : List Value} {M : xj_M} (hG : xj_G D E b0 s M H locs) (hK : xj_kn D s) (hkx : xj_kx s) (hba : xj_ba E b0 s) : ∀ U : State, U.heap = H → s.WarmedH U.vm → xj_Pc D E b0 as M (xj_s E b0 as).toArray U := fun U hU hW => ⟨rfl, by rw [hU]; exact hG.1.moved hW.alike, hK.moved hW.alike, hkx.warm hW, by rw [hU]; exact (hba.1.kept hG.2.2.1).moved hW.alike, hba.2.1.warm hW, hba.2.2.warm hW⟩
set_option maxHeartbeats 1000000 in
theorem xj_tgt_ok (hx : p.tables.exec = Jvm.exec) (hb : c.code = cc) (hml : c.maxLocals = ls.size) (hts : ∀ w ∈ xj_tb, w.before args s = true) (hown : s.vm.findClass (xj_nm o) = some m.cls) (hK : xj_kn D s) (hkx : xj_kx s) (hba : xj_ba E b0 s) {d j : Nat} {M M' : xj_M} (hG : xj_G D E b0 s M H locs) {ins : Instr} {st as rest : List Value} {r : xj_R}
    (h : xj_tgt o ins st M = some (j, as, rest)) (hd : decode cc pc = .ok (ins, 3)) (hM : xj_met l D E b0 d j as M r M') (hnt : xj_nt o ins = true → ∃ v, r = .inl v)
    (hfr : d + 1 ≤ R.frames) (hlo : 100 * (d + 1) ≤ R.locals) (hf : cells + (M'.1.length - M.1.length) ≤ R.cells ∧ slots + (M'.2 - M.2) ≤ R.slots)
    (kk : ∀ (v : Option Value) (H1 : Heap) (locs1 : List Loc), r = .inl v → xj_G D E b0 s M' H1 locs1 → W p l e R s m args below meth c H1 locs1 (cells + (M'.1.length - M.1.length)) (slots + (M'.2 - M.2)) Q (F0 m (pc + 3) ls (xj_s E b0 (v.toList ++ rest))))
    (kx : ∀ (k : Nat) (q : Addr) (ce : Cell) (H1 : Heap) (locs1 : List Loc), r = .inr k → xj_G D E b0 s M' H1 locs1 → H1[q]? = some ce → ce.vm = .none → s.vm.findClass (xj_en k) = some ce.cls → vx_W p l e R s m args below meth c H1 locs1 (cells + (M'.1.length - M.1.length)) (slots + (M'.2 - M.2)) Q (F0 m pc ls (xj_s E b0 rest)) q) :
    W p l e R s m args below meth c H locs cells slots Q (F0 m pc ls (xj_s E b0 st)) := by
  have S : CallFix p m c cc ls.size s args xj_tb (xj_nm o) := ⟨hx, hb, hml, hown, hts⟩
  have hroom : ∀ {row : xj_mR}, row.2.2.2.1 ≤ 70 → (xj_rm d M M').frames + 1 ≤ R.frames ∧ 8 + (row.2.2.2.1 + 11) + (xj_rm d M M').locals ≤ R.locals := by
    intro row hr
    refine ⟨hfr, Nat.le_trans ?_ hlo⟩
    show 8 + (row.2.2.2.1 + 11) + 100 * d ≤ 100 * (d + 1)
    omega
  unfold xj_tgt at h
  cases ins
  case invokevirtual i =>
    simp only at h
    split at h
    · rename_i j2 hcal
      obtain ⟨row, b, ci, fs, g1, rfl, g3, g4, rfl, g6, g7, rfl⟩ := xj_tV_inv h
      obtain ⟨row', k1, -, k2, k3, k4⟩ := xj_cal_v hcal
      obtain ⟨m1, m2⟩ := xj_row_m k1
      cases g1.symm.trans m1
      have hM := hM row g1
      rw [m2] at hM
      have hin := xj_ws_in g1
      rw [m2] at hin
      obtain ⟨r1, r2, r3, r4, r5, r6, r7, r8⟩ := xj_row_ok g1
      obtain ⟨ha, hc⟩ := xj_obj_inv g4
      obtain ⟨rr, q1, q2, cellB, q3, q4, q5, -⟩ := hG.1.2 _ _ hc
      rw [← xj_a_eq (E := E) (b0 := b0) ha] at q3
      have hcls : s.vm.findClass row.2.1.cls = some cellB.cls := by
        rw [r1, ← xj_cl_name q1, q4]
        exact (hK _ _ q1).2.1
      have hrun := vx_runV (n := row.2.2.2.2.2.1) (b := xj_a E b0 b) (As := xj_s E b0 (st.take row.2.2.2.2.2.1).reverse) (rest := xj_s E b0 rest) (g := F0 m pc ls (xj_s E b0 st)) (R := R) (below := below) (meth := meth) (locs := locs) (cells := cells) (slots := slots) (e := e) (H := H) S hM
        (cwV (C := row.2.1.cls) (index := i) row.2.2.2.2.2.1 hts (xj_goodIn (fun w hw => by
          unfold wsV at hw
          rcases List.mem_append.mp hw with hw | hw
          · simp only [List.mem_cons, List.not_mem_nil, or_false] at hw
            rcases hw with rfl | rfl | rfl | rfl
            · exact k2
            · exact k3
            · exact k4
            · exact r6
          · exact hin w hw)) rfl rfl rfl ⟨rfl, r3⟩ (hroom r4))
        ⟨xj_blind, ⟨cellB, q3, by rw [q5]; rfl, hcls⟩, xj_pre hG hK hkx hba⟩ rfl (by simp [g6]) rfl (by show xj_s E b0 st = _; rw [xj_s_split (n := row.2.2.2.2.2.1), g3]; rfl) (lv_room (xj_sum_s g7)) hd hf
      exact xj_callX hrun hG (fun v H1 locs1 hv hG1 => by rw [xj_s_app]; exact kk v H1 locs1 hv hG1) kx
    · rename_i j2 hcal
      obtain ⟨row, b, ci, fs, g1, rfl, g3, g4, rfl, g6, g7, rfl⟩ := xj_tV_inv h
      obtain ⟨r, k1, k2, k3, k4⟩ := xj_cal_hv hcal
      obtain ⟨m1, m2⟩ := xj_row_w k1
      cases g1.symm.trans m1
      have hM := hM r.1 g1
      rw [m2] at hM
      have hin := xj_ws_in g1
      rw [m2] at hin
      obtain ⟨r1, r2, r3, r4, r5, r6, r7, r8⟩ := xj_row_ok g1
      obtain ⟨ha, hc⟩ := xj_obj_inv g4
      obtain ⟨rr, q1, q2, cellB, q3, q4, q5, -⟩ := hG.1.2 _ _ hc
      rw [← xj_a_eq (E := E) (b0 := b0) ha] at q3
      have hcls : s.vm.findClass r.1.2.1.cls = some cellB.cls := by
        rw [r1, ← xj_cl_name q1, q4]
        exact (hK _ _ q1).2.1
      have hrun := vx_runVX (n := r.1.2.2.2.2.2.1) (b := xj_a E b0 b) (As := xj_s E b0 (st.take r.1.2.2.2.2.2.1).reverse) (rest := xj_s E b0 rest) (g := F0 m pc ls (xj_s E b0 st)) (R := R) (below := below) (meth := meth) (locs := locs) (cells := cells) (slots := slots) (e := e) (H := H) S hM
        (vx_cwVW (C := r.1.2.1.cls) (index := i) r.1.2.2.2.2.2.1 hts (xj_goodIn (fun w hw => by
          unfold wsV at hw
          rcases List.mem_append.mp hw with hw | hw
          · simp only [List.mem_cons, List.not_mem_nil, or_false] at hw
            rcases hw with rfl | rfl | rfl | rfl
            · exact k2
            · exact k3
            · exact k4
            · exact r6
          · exact hin w hw)) rfl rfl rfl ⟨rfl, r3⟩ (hroom r4))
        ⟨xj_blind, ⟨cellB, q3, by rw [q5]; rfl, hcls⟩, xj_pre hG hK hkx hba⟩ rfl (by simp [g6]) rfl (by show xj_s E b0 st = _; rw [xj_s_split (n := r.1.2.2.2.2.2.1), g3]; rfl) (lv_room (xj_sum_s g7)) hd hf
      exact xj_callX hrun hG (fun v H1 locs1 hv hG1 => by rw [xj_s_app]; exact kk v H1 locs1 hv hG1) kx
    · rename_i j2 hcal
      obtain ⟨row, b, g1, rfl, g3, g5, g6, g7, rfl⟩ := xj_tW_inv h
      obtain ⟨row', k1, k0, k2, k3, k4⟩ := xj_cal_w hcal
      obtain ⟨m1, m2⟩ := xj_row_m k1
      cases g1.symm.trans m1
      have hM := hM row g1
      rw [m2] at hM
      have hin := xj_ws_in g1
      rw [m2] at hin
      obtain ⟨r1, r2, r3, r4, r5, r6, r7, r8⟩ := xj_row_ok g1
      obtain ⟨cellB, q3, q5, q4, -⟩ := (hba.1.2.2.2 b g5).1.kept hG.2.2.1
      rw [← xj_a_lt (E := E) (b0 := b0) (r := b + 1) (by omega)] at q3
      have hcls : s.vm.findClass row.2.1.cls = some cellB.cls := by
        rw [r1, k0]
        exact q4
      have hrun := vx_runV (n := row.2.2.2.2.2.1) (b := xj_a E b0 (b + 1)) (As := xj_s E b0 (st.take row.2.2.2.2.2.1).reverse) (rest := xj_s E b0 rest) (g := F0 m pc ls (xj_s E b0 st)) (R := R) (below := below) (meth := meth) (locs := locs) (cells := cells) (slots := slots) (e := e) (H := H) S hM
        (cwV (C := row.2.1.cls) (index := i) row.2.2.2.2.2.1 hts (xj_goodIn (fun w hw => by
          unfold wsV at hw
          rcases List.mem_append.mp hw with hw | hw
          · simp only [List.mem_cons, List.not_mem_nil, or_false] at hw
            rcases hw with rfl | rfl | rfl | rfl
            · exact k2
            · exact k3
            · exact k4
            · exact r6
          · exact hin w hw)) rfl rfl rfl ⟨rfl, r3⟩ (hroom r4))
        ⟨xj_blind, ⟨cellB, q3, q5, hcls⟩, xj_pre hG hK hkx hba⟩ rfl (by simp [g6]) rfl (by show xj_s E b0 st = _; rw [xj_s_split (n := row.2.2.2.2.2.1), g3]; rfl) (lv_room (xj_sum_s g7)) hd hf
      exact xj_callX hrun hG (fun v H1 locs1 hv hG1 => by rw [xj_s_app]; exact kk v H1 locs1 hv hG1) kx
    · cases h
  case invokestatic i =>
    simp only at h
    split at h
    · rename_i j2 hcal
      obtain ⟨row, g1, rfl, rfl, g6, g7, rfl⟩ := xj_tS_inv h
      obtain ⟨row', k1, k2, k3⟩ := xj_cal_s hcal
      obtain ⟨m1, m2⟩ := xj_row_m k1
      cases g1.symm.trans m1
      have hM := hM row g1
      rw [m2] at hM
      have hin := xj_ws_in g1
      rw [m2] at hin
      obtain ⟨r1, r2, r3, r4, r5, r6, r7, r8⟩ := xj_row_ok g1
      have hrun := vx_runS (n := row.2.2.2.2.2.1) (As := xj_s E b0 (st.take row.2.2.2.2.2.1).reverse) (rest := xj_s E b0 (st.drop row.2.2.2.2.2.1)) (g := F0 m pc ls (xj_s E b0 st)) (R := R) (below := below) (meth := meth) (locs := locs) (cells := cells) (slots := slots) (e := e) (H := H) S hM
        ⟨callB_of (index := i) row.2.2.2.2.2.1 hts (xj_goodIn hin) rfl rfl rfl (hts _ r6) (hts _ k2) r3 (hroom r4), hts _ k3⟩
        ⟨xj_blind, xj_pre hG hK hkx hba⟩ rfl (by simp [g6]) rfl (by show xj_s E b0 st = _; exact xj_s_split) (lv_room (xj_sum_s g7)) hd hf
      exact xj_callX hrun hG (fun v H1 locs1 hv hG1 => by rw [xj_s_app]; exact kk v H1 locs1 hv hG1) kx
    · rename_i j2 hcal
      obtain ⟨row, g1, rfl, rfl, g6, g7, rfl⟩ := xj_tS_inv h
      obtain ⟨row', k1, k2, k3⟩ := xj_cal_ns hcal
      obtain ⟨m1, m2⟩ := xj_row_m k1
      cases g1.symm.trans m1
      obtain ⟨v, rfl⟩ := hnt (by simp only [xj_nt, hcal])
      have hM := xj_met_ret hM g1
      rw [m2] at hM
      have hin := xj_ws_in g1
      rw [m2] at hin
      obtain ⟨r1, r2, r3, r4, r5, r6, r7, r8⟩ := xj_row_ok g1
      have hrun := va_runSN (n := row.2.2.2.2.2.1) (As := xj_s E b0 (st.take row.2.2.2.2.2.1).reverse) (rest := xj_s E b0 (st.drop row.2.2.2.2.2.1)) (g := F0 m pc ls (xj_s E b0 st)) (R := R) (below := below) (meth := meth) (locs := locs) (cells := cells) (slots := slots) (e := e) (H := H) S hM
        ⟨va_cnB (index := i) row.2.2.2.2.2.1 hts (xj_goodIn hin) rfl rfl rfl (hkx.2.1 _ _ _ _ k2) (hts _ r6) r3 (hroom r4), hts _ k3, trivial⟩
        ⟨xj_blind, xj_pre hG hK hkx hba⟩ rfl (by simp [g6]) rfl (by show xj_s E b0 st = _; exact xj_s_split) (lv_room (xj_sum_s g7)) hd hf
      exact xj_callM hrun hG (fun H1 locs1 hG1 => by rw [xj_s_app]; exact kk v H1 locs1 rfl hG1)
    · rename_i j2 hcal
      obtain ⟨row, g1, rfl, rfl, g6, g7, rfl⟩ := xj_tS_inv h
      obtain ⟨r, k1, k2, k3⟩ := xj_cal_hs hcal
      obtain ⟨m1, m2⟩ := xj_row_w k1
      cases g1.symm.trans m1
      have hM := hM r.1 g1
      rw [m2] at hM
      have hin := xj_ws_in g1
      rw [m2] at hin
      obtain ⟨r1, r2, r3, r4, r5, r6, r7, r8⟩ := xj_row_ok g1
      have hrun := vx_runSX (n := r.1.2.2.2.2.2.1) (As := xj_s E b0 (st.take r.1.2.2.2.2.2.1).reverse) (rest := xj_s E b0 (st.drop r.1.2.2.2.2.2.1)) (g := F0 m pc ls (xj_s E b0 st)) (R := R) (below := below) (meth := meth) (locs := locs) (cells := cells) (slots := slots) (e := e) (H := H) S hM
        (vx_cwSW (index := i) r.1.2.2.2.2.2.1 hts (xj_goodIn (fun w hw => by
          unfold va_wsS at hw
          rcases List.mem_append.mp hw with hw | hw
          · simp only [List.mem_cons, List.not_mem_nil, or_false] at hw
            rcases hw with rfl | rfl | rfl
            · exact k2
            · exact k3
            · exact r6
          · exact hin w hw)) rfl rfl rfl r3 (hroom r4))
        ⟨xj_blind, xj_pre hG hK hkx hba⟩ rfl (by simp [g6]) rfl (by show xj_s E b0 st = _; exact xj_s_split) (lv_room (xj_sum_s g7)) hd hf
      exact xj_callX hrun hG (fun v H1 locs1 hv hG1 => by rw [xj_s_app]; exact kk v H1 locs1 hv hG1) kx
    · cases h
  case invokespecial i =>
    obtain ⟨v, rfl⟩ := hnt rfl
    simp only at h
    split at h
    · rename_i j2 hcal
      obtain ⟨row, b, g1, rfl, g3, g5, g6, g7, rfl⟩ := xj_tI_inv h
      obtain ⟨row', k1, k2, k3, k4⟩ := xj_cal_i hcal
      obtain ⟨m1, m2⟩ := xj_row_m k1
      cases g1.symm.trans m1
      have hM := xj_met_ret hM g1
      rw [m2] at hM
      have hin := xj_ws_in g1
      rw [m2] at hin
      obtain ⟨r1, r2, r3, r4, r5, r6, r7, r8⟩ := xj_row_ok g1
      have hrun := va_runI (n := row.2.2.2.2.2.1) (b := xj_a E b0 b) (As := xj_s E b0 (st.take row.2.2.2.2.2.1).reverse) (rest := xj_s E b0 rest) (g := F0 m pc ls (xj_s E b0 st)) (R := R) (below := below) (meth := meth) (locs := locs) (cells := cells) (slots := slots) (e := e) (H := H) S hM
        (cwI (index := i) row.2.2.2.2.2.1 hts (xj_goodIn hin) (by unfold xj_ws xj_cw; rw [g5]) rfl rfl (hts _ r6) (hts _ k2) (hts _ k3) (r5 k4) r3 (hroom r4))
        ⟨xj_blind, xj_pre hG hK hkx hba⟩ rfl (by simp [g6]) rfl (by show xj_s E b0 st = _; rw [xj_s_split (n := row.2.2.2.2.2.1), g3]; rfl) (lv_room (xj_sum_s g7)) hd hf
      exact xj_callM hrun hG (fun H1 locs1 hG1 => by rw [xj_s_app]; exact kk v H1 locs1 rfl hG1)
    · rename_i j2 hcal
      obtain ⟨row, b, g1, rfl, g3, g5, g6, g7, rfl⟩ := xj_tI_inv h
      obtain ⟨row', k1, k2, k3, k4⟩ := xj_cal_ni hcal
      obtain ⟨m1, m2⟩ := xj_row_m k1
      cases g1.symm.trans m1
      have hM := xj_met_ret hM g1
      rw [m2] at hM
      have hin := xj_ws_in g1
      rw [m2] at hin
      obtain ⟨r1, r2, r3, r4, r5, r6, r7, r8⟩ := xj_row_ok g1
      have hrun := va_runIN (n := row.2.2.2.2.2.1) (b := xj_a E b0 b) (As := xj_s E b0 (st.take row.2.2.2.2.2.1).reverse) (rest := xj_s E b0 rest) (g := F0 m pc ls (xj_s E b0 st)) (R := R) (below := below) (meth := meth) (locs := locs) (cells := cells) (slots := slots) (e := e) (H := H) S hM
        ⟨va_cnB (index := i) row.2.2.2.2.2.1 hts (xj_goodIn hin) (by unfold xj_ws xj_cw; rw [g5]) rfl rfl (hkx.2.1 _ _ _ _ k2) (hts _ r6) r3 (hroom r4), r5 k4, hts _ k3⟩
        ⟨xj_blind, xj_pre hG hK hkx hba⟩ rfl (by simp [g6]) rfl (by show xj_s E b0 st = _; rw [xj_s_split (n := row.2.2.2.2.2.1), g3]; rfl) (lv_room (xj_sum_s g7)) hd hf
      exact xj_callM hrun hG (fun H1 locs1 hG1 => by rw [xj_s_app]; exact kk v H1 locs1 rfl hG1)
    · cases h
  all_goals cases h
end
