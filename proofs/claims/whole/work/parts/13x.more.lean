/-! arraycopy, clone of arrays, checkcast behind it (tables by wip/whole/mk_more.py) -/
def xj_yT : Nat → List (Nat × Nat × Nat × (Nat × Nat)) := fun o => match o with
  | 1 => [(61, 7, 0, (6, 16))]
  | 3 => [(77, 8, 3, (5, 214)), (78, 9, 3, (5, 215))]
  | 5 => [(34, 7, 0, (6, 96))]
  | 7 => [(44, 8, 5, (7, 59)), (45, 9, 5, (7, 63))]
  | 9 => [(166, 7, 0, (8, 88))]
  | 10 => [(114, 7, 0, (6, 97))]
  | 17 => [(150, 7, 0, (5, 150)), (316, 8, 3, (5, 142)), (317, 9, 3, (5, 148)), (319, 8, 4, (5, 156)), (320, 9, 4, (5, 160))]
  | _ => []
def xj_ocl : MethodName := ⟨"java/lang/Object", "clone", "()Ljava/lang/Object;"⟩
def xj_ad (k : Nat) : String := match k with
  | 3 => "[I"
  | 4 => "[J"
  | _ => "[LChangeHouse$Formula;"
def xj_yC (o : Nat) (q : Nat × Nat × Nat × (Nat × Nat)) : Bool :=
  if q.2.1 = 7 then xj_w q.2.2.2 (.methodLink (xj_nm o) q.1 arraycopyName)
  else if q.2.1 = 8 then xj_w q.2.2.2 (.methodLink (xj_nm o) q.1 ⟨xj_ad q.2.2.1, "clone", "()Ljava/lang/Object;"⟩) && decide (q.2.2.1 = 3 ∨ q.2.2.1 = 4 ∨ q.2.2.1 = 5)
  else xj_w q.2.2.2 (.classLink (xj_nm o) q.1 (xj_ad q.2.2.1)) && decide (q.2.2.1 = 3 ∨ q.2.2.1 = 4 ∨ q.2.2.1 = 5)
theorem xj_yT_all : ∀ o, (xj_yT o).all (xj_yC o) = true
  | 0 => by decide +kernel
  | 1 => by decide +kernel
  | 2 => by decide +kernel
  | 3 => by decide +kernel
  | 4 => by decide +kernel
  | 5 => by decide +kernel
  | 6 => by decide +kernel
  | 7 => by decide +kernel
  | 8 => by decide +kernel
  | 9 => by decide +kernel
  | 10 => by decide +kernel
  | 11 => by decide +kernel
  | 12 => by decide +kernel
  | 13 => by decide +kernel
  | 14 => by decide +kernel
  | 15 => by decide +kernel
  | 16 => by decide +kernel
  | 17 => by decide +kernel
  | _ + 18 => rfl
theorem xj_y_nat : Cond.native arraycopyName ∈ xj_tb := xj_w_in (p := (5, 152)) (by decide +kernel) rfl
theorem xj_y_sta : Cond.static arraycopyName ∈ xj_tb := xj_w_in (p := (5, 151)) (by decide +kernel) rfl
theorem xj_y_ini : Cond.initialized "java/lang/System" ∈ xj_tb := xj_w_in (p := (1, 27)) (by decide +kernel) rfl
theorem xj_y_cn : Cond.native xj_ocl ∈ xj_tb := xj_w_in (p := (5, 144)) (by decide +kernel) rfl
theorem xj_y_ci : Cond.instanceMethod xj_ocl ∈ xj_tb := xj_w_in (p := (5, 145)) (by decide +kernel) rfl
theorem xj_y_sm : ∀ k, k = 3 ∨ k = 4 ∨ k = 5 → Cond.sameMethod (xj_ad k) "java/lang/Object" "clone" "()Ljava/lang/Object;" ∈ xj_tb := by
  intro k hk
  rcases hk with rfl | rfl | rfl
  · exact xj_w_in (p := (5, 143)) (by decide +kernel) rfl
  · exact xj_w_in (p := (5, 157)) (by decide +kernel) rfl
  · exact xj_w_in (p := (7, 60)) (by decide +kernel) rfl
theorem xj_y_se : ∀ k, k = 3 ∨ k = 4 ∨ k = 5 → Cond.selects (xj_ad k) ⟨xj_ad k, "clone", "()Ljava/lang/Object;"⟩ xj_ocl ∈ xj_tb := by
  intro k hk
  rcases hk with rfl | rfl | rfl
  · exact xj_w_in (p := (5, 146)) (by decide +kernel) rfl
  · exact xj_w_in (p := (5, 158)) (by decide +kernel) rfl
  · exact xj_w_in (p := (7, 61)) (by decide +kernel) rfl
theorem xj_y_ca : ∀ k, k = 3 ∨ k = 4 ∨ k = 5 → Cond.castable (xj_ad k) "java/lang/Cloneable" ∈ lw_tbl := by
  intro k hk
  rcases hk with rfl | rfl | rfl
  · exact xj_w_in0 (p := (5, 147)) (by decide +kernel)
  · exact xj_w_in0 (p := (5, 159)) (by decide +kernel)
  · exact xj_w_in0 (p := (7, 62)) (by decide +kernel)
theorem xj_ad_nm : ∀ k, k = 3 ∨ k = 4 ∨ k = 5 → "[" ++ (xj_kty k).toString = xj_ad k := by
  intro k hk
  rcases hk with rfl | rfl | rfl <;> decide +kernel
theorem xj_ad_cls {s : State} {k : Nat} {cA : ClassId} (hk : k = 3 ∨ k = 4 ∨ k = 5) (h : va_RA s cA (xj_kty k)) : s.vm.findClass (xj_ad k) = some cA := by
  rw [← xj_ad_nm k hk]
  rcases hk with rfl | rfl | rfl
  · exact h
  · exact h
  · obtain ⟨kA, comp, -, -, -, h4⟩ := h
    exact h4
def xj_y (o i : Nat) : Option (Nat × Nat) := ((xj_yT o).find? (fun q => q.1 == i)).map (fun q => (q.2.1, q.2.2.1))
theorem xj_y_inv {o i k j : Nat} (h : xj_y o i = some (k, j)) : ∃ q ∈ xj_yT o, q.1 = i ∧ q.2.1 = k ∧ q.2.2.1 = j ∧ xj_yC o q = true := by
  unfold xj_y at h
  obtain ⟨q, h1, h2⟩ := Option.map_eq_some_iff.mp h
  have h3 := List.mem_of_find?_eq_some h1
  have h4 := List.find?_some h1
  simp only [beq_iff_eq] at h4
  cases h2
  exact ⟨q, h3, h4, rfl, rfl, List.all_eq_true.mp (xj_yT_all o) q h3⟩
theorem xj_y7 {o i j : Nat} (h : xj_y o i = some (7, j)) : Cond.methodLink (xj_nm o) i arraycopyName ∈ xj_tb := by
  obtain ⟨⟨i', k', j', p1⟩, -, rfl, e1, rfl, hc⟩ := xj_y_inv h
  simp only at e1 hc
  subst e1
  simp only [xj_yC] at hc
  rw [if_pos trivial] at hc
  exact xj_w_in hc rfl
theorem xj_y8 {o i j : Nat} (h : xj_y o i = some (8, j)) : Cond.methodLink (xj_nm o) i ⟨xj_ad j, "clone", "()Ljava/lang/Object;"⟩ ∈ xj_tb ∧ (j = 3 ∨ j = 4 ∨ j = 5) := by
  obtain ⟨⟨i', k', j', p1⟩, -, rfl, e1, rfl, hc⟩ := xj_y_inv h
  simp only at e1 hc
  subst e1
  simp only [xj_yC] at hc
  rw [if_neg (by decide), if_pos trivial] at hc
  simp only [Bool.and_eq_true] at hc
  exact ⟨xj_w_in hc.1 rfl, of_decide_eq_true hc.2⟩
theorem xj_y9 {o i j : Nat} (h : xj_y o i = some (9, j)) : Cond.classLink (xj_nm o) i (xj_ad j) ∈ xj_tb ∧ (j = 3 ∨ j = 4 ∨ j = 5) := by
  obtain ⟨⟨i', k', j', p1⟩, -, rfl, e1, rfl, hc⟩ := xj_y_inv h
  simp only at e1 hc
  subst e1
  simp only [xj_yC] at hc
  rw [if_neg (by decide), if_neg (by decide)] at hc
  simp only [Bool.and_eq_true] at hc
  exact ⟨xj_w_in hc.1 rfl, of_decide_eq_true hc.2⟩
def xj_sm (st : List Value) : Bool := decide ((st.map fun v => v.category).sum ≤ 8)
theorem xj_sm_s {E : Nat → Nat} {b0 : Nat} {st : List Value} (h : xj_sm st = true) : ((xj_s E b0 st).map fun v => v.category).sum ≤ 8 := by
  have h1 := of_decide_eq_true h
  simp only [xj_s, List.map_map]
  have : (fun v => Value.category v) ∘ xj_v E b0 = fun v => v.category := by funext v; exact xj_cat E b0 v
  rw [this]
  exact h1
/-- checkcast of an array -/
def xj_cc (k : Nat) (st : List Value) (M : xj_M) : Option (List Value × xj_M) := match st with
  | .ref a :: r => match xj_arr M a with
    | some x => if x.1 = k then some (.ref a :: r, M) else none
    | none => none
  | _ => none
/-- clone of an array -/
def xj_cl (k : Nat) (st : List Value) (M : xj_M) : Option (List Value × xj_M) := match st with
  | .ref a :: r => match xj_arr M a with
    | some x => if x.1 = k ∧ ((List.range x.2.1).all (fun i => fits (xj_kty k) (x.2.2 i))) = true ∧ xj_sm r = true then some (.ref (xj_nx M) :: r, xj_new M (.inr (.inl x)) x.2.1) else none
    | none => none
  | _ => none
/-- System.arraycopy of ints, longs -/
def xj_cp (st : List Value) (M : xj_M) : Option (List Value × xj_M) := match st with
  | .int n :: .int dp :: .ref a :: .int sp :: .ref a0 :: r => match xj_arr M a0 with
    | some x0 => match xj_arr M a with
      | some x1 => if x0.1 = x1.1 ∧ x1.1 < 5 ∧ ¬ sp < 0 ∧ ¬ dp < 0 ∧ ¬ n < 0 ∧ sp.toNatClampNeg + n.toNatClampNeg ≤ x0.2.1 ∧ dp.toNatClampNeg + n.toNatClampNeg ≤ x1.2.1 ∧ ((List.range n.toNatClampNeg).all (fun i => fits (xj_kty x1.1) (x0.2.2 (sp.toNatClampNeg + i)))) = true ∧ xj_sm r = true
          then some (r, xj_put M a (.inr (.inl (x1.1, x1.2.1, va_cpy x0.2.2 x1.2.2 sp.toNatClampNeg dp.toNatClampNeg n.toNatClampNeg)))) else none
      | none => none
    | none => none
  | _ => none
theorem xj_fits_v {E : Nat → Nat} {b0 : Nat} {ty : FieldType} {v : Value} (h : fits ty v = true) : fits ty (xj_v E b0 v) = true := by
  cases v <;> cases ty <;> first | exact h | (simp [fits] at h; done) | rfl
section
variable {p : Program} {l : Launch} {e : Env} {R : Room} {s : State} {m : MethodId} {args : Array Value} {below : List Frame} {meth : Method} {c : Code} {H : Heap} {locs : List Loc} {cells slots : Nat} {Q : State → Prop} {cc : ByteArray} {pc : Nat} {ls : Array Slot} {E : Nat → Nat} {b0 : Nat} {D : va_G} {o : Nat}
theorem xj_cc_ok (hx : p.tables.exec = Jvm.exec) (hb : c.code = cc) (hts : ∀ w ∈ xj_tb, w.before args s = true) (hown : s.vm.findClass (xj_nm o) = some m.cls) {M M' : xj_M} (hR : xj_rep D E b0 s M H) {i k : Nat} (hy : xj_y o i = some (9, k)) {st st' : List Value} (h : xj_cc k st M = some (st', M')) (hd : decode cc pc = .ok (.checkcast i, 3))
    (kk : W p l e R s m args below meth c H locs cells slots Q (F0 m (pc + 3) ls (xj_s E b0 st'))) : W p l e R s m args below meth c H locs cells slots Q (F0 m pc ls (xj_s E b0 st)) := by
  obtain ⟨h1, hk⟩ := xj_y9 hy
  unfold xj_cc at h
  split at h
  · rename_i a r
    split at h
    · rename_i x hf
      obtain ⟨kk0, n, f⟩ := x
      split at h
      · rename_i e0
        simp only at e0
        subst e0
        cases h
        obtain ⟨cA, hA, hc⟩ := xj_arr_at hR hf
        intro T hT X
        obtain ⟨vm', X', st⟩ := X.checkcastYes hx hown (hts _ h1) (by rw [hT]; exact hc) rfl (xj_ad_cls hk hA.2) (va_asg _ _) (g := F0 m pc ls (xj_s E b0 (.ref a :: r))) rfl rfl (by rw [hb]; exact hd)
        obtain ⟨t, a1, b1⟩ := kk (T.setVm vm') hT X'
        exact ⟨t, st t a1, b1⟩
      · cases h
    · cases h
  · cases h
theorem xj_cl_ok (hx : p.tables.exec = Jvm.exec) (hb : c.code = cc) (hml : c.maxLocals = ls.size) (hts : ∀ w ∈ xj_tb, w.before args s = true) (hown : s.vm.findClass (xj_nm o) = some m.cls) (hkx : xj_kx s) {M M' : xj_M} (hG : xj_G D E b0 s M H locs) {i k : Nat} (hy : xj_y o i = some (8, k)) {st st' : List Value} (h : xj_cl k st M = some (st', M')) (hd : decode cc pc = .ok (.invokevirtual i, 3))
    (hfr : 1 ≤ R.frames) (hlo : 100 ≤ R.locals) (hcells : cells + 1 ≤ R.cells) (hslots : slots + (M'.2 - M.2) ≤ R.slots)
    (kk : ∀ H1 : Heap, xj_G D E b0 s M' H1 locs → M'.1.length = M.1.length + 1 → M.2 ≤ M'.2 → W p l e R s m args below meth c H1 locs (cells + 1) (slots + (M'.2 - M.2)) Q (F0 m (pc + 3) ls (xj_s E b0 st'))) : W p l e R s m args below meth c H locs cells slots Q (F0 m pc ls (xj_s E b0 st)) := by
  obtain ⟨h1, hk⟩ := xj_y8 hy
  unfold xj_cl at h
  split at h
  · rename_i a r
    split at h
    · rename_i x hf
      obtain ⟨kk0, n, f⟩ := x
      split at h
      · rename_i e0
        simp only at e0
        obtain ⟨e0, hall, hsm⟩ := e0
        subst e0
        cases h
        obtain ⟨cA, hA, hc⟩ := xj_arr_at hG.1 hf
        have e5 : (M.2 + n) - M.2 = n := by omega
        simp only [xj_new, e5] at hslots
        have e9 := xj_nx_at hG.1
        have hnm := xj_ad_cls hk hA.2
        have h8 := xj_sm_s (E := E) (b0 := b0) hsm
        obtain ⟨c0, t0', f1, f2, f3⟩ := Cond.castable_spec (va_Nw.use (A := args) rfl (hkx.2.2 _ _ (xj_y_ca _ hk)))
        cases hnm.symm.trans f1
        intro T hT X
        obtain ⟨-, kA, hkA, comp, hkind⟩ := State.isArrayOf_alike X.warmed.alike (hA.1 0 (fun _ => .null))
        obtain ⟨-, kS, hkS, compS, hkindS⟩ := hA.1 0 (fun _ => .null)
        obtain ⟨vm', X', st⟩ := X.cloneArray hx hown (hts _ h1) (hts _ (xj_y_sm _ hk)) (hts _ xj_y_cn) (hts _ xj_y_ci) (hts _ (xj_y_se _ hk)) (a := xj_a E b0 a) (cell := arrV cA n (fun j => xj_v E b0 (f j))) (by rw [hT]; exact hc) (fun k h => by cases h) (fun h => by cases h) hnm f2 f3
          (fun i v hv => by
            have hk' : T.vm.classes[cA]? = some kA := hkA
            have hfit : fits (xj_kty kk0) v = true := va_fit (fun i hi => xj_fits_v (List.all_eq_true.mp hall i (List.mem_range.mpr hi))) i v hv
            simpa [arrV, State.fitsSlot, State.slotType?, hk', hkind] using hfit)
          (g := F0 m pc ls (xj_s E b0 (.ref a :: r))) rfl (by rw [hml]) rfl (by rw [hb]; exact hd) hfr (by show 2 * 0 + _ + 14 ≤ _; exact Nat.le_trans (by rw [Nat.mul_zero, Nat.zero_add]; exact Nat.add_le_add_right h8 14) (Nat.le_trans (by decide) hlo)) hcells (by rw [arrV_size]; exact hslots) (hloader := Vm.clonesLoader_of_array hkS hkindS)
        rw [arrV_size] at X'
        have hres := kk (H.push (arrV cA n (fun j => xj_v E b0 (f j)))) (hG.new (by rw [Array.size_push]) (fun q hq => by rw [Array.getElem?_push, if_neg (Nat.ne_of_lt hq)]) ⟨cA, hA, by rw [Array.getElem?_push_size]⟩) (by simp [xj_new]) (by simp [xj_new])
        simp only [xj_new, e5] at hres
        simp only [xj_s, List.map_cons, e9] at hres
        obtain ⟨t, a1, b1⟩ := hres ((T.setVm vm').pushCell (arrV cA n (fun j => xj_v E b0 (f j)))) (by rw [← hT]; rfl) X'
        refine ⟨t, st t ?_, b1⟩
        rw [hT]
        exact a1
      · cases h
    · cases h
  · cases h
theorem xj_cp_ok (hx : p.tables.exec = Jvm.exec) (hb : c.code = cc) (hml : c.maxLocals = ls.size) (hts : ∀ w ∈ xj_tb, w.before args s = true) (hown : s.vm.findClass (xj_nm o) = some m.cls) {M M' : xj_M} (hG : xj_G D E b0 s M H locs) {i j : Nat} (hy : xj_y o i = some (7, j)) {st st' : List Value} (h : xj_cp st M = some (st', M')) (hd : decode cc pc = .ok (.invokestatic i, 3))
    (hfr : 1 ≤ R.frames) (hlo : 100 ≤ R.locals)
    (kk : ∀ (H1 : Heap) (locs1 : List Loc), xj_G D E b0 s M' H1 locs1 → W p l e R s m args below meth c H1 locs1 cells slots Q (F0 m (pc + 3) ls (xj_s E b0 st'))) : W p l e R s m args below meth c H locs cells slots Q (F0 m pc ls (xj_s E b0 st)) := by
  have h1 := xj_y7 hy
  unfold xj_cp at h
  split at h
  · rename_i n dp a sp a0 r
    split at h
    · rename_i x0 hf0
      obtain ⟨k0, n0, f⟩ := x0
      split at h
      · rename_i x1 hf1
        obtain ⟨k1, n1, g⟩ := x1
        split at h
        · rename_i e0
          simp only at e0
          obtain ⟨rfl, hk5, g1, g2, g3, g4, g5, hall, hsm⟩ := e0
          cases h
          obtain ⟨c0, hA0, hc0⟩ := xj_arr_at hG.1 hf0
          obtain ⟨c1, hA1, hc1⟩ := xj_arr_at hG.1 hf1
          have h8 := xj_sm_s (E := E) (b0 := b0) hsm
          have nn : ∀ z : Int32, ¬ z < 0 → z.toInt = (z.toNatClampNeg : Int) := by
            intro z hz
            have hz0 : (0 : Int) ≤ z.toInt := by
              have := Int32.not_lt.mp hz
              simpa using Int32.le_iff_toInt_le.mp this
            show z.toInt = ((z.toInt.toNat : Nat) : Int)
            omega
          have hprim : refKind (xj_kty k0) = false := by
            match k0, hk5 with
            | 0, _ => rfl
            | 1, _ => rfl
            | 2, _ => rfl
            | 3, _ => rfl
            | 4, _ => rfl
            | q + 5, hq => exact absurd hq (by omega)
          intro T hT X
          obtain ⟨-, kc0, hk0, cm0, hkk0⟩ := hA0.1 n0 (fun j => xj_v E b0 (f j))
          obtain ⟨-, kc1, hk1, cm1, hkk1⟩ := hA1.1 n1 (fun j => xj_v E b0 (g j))
          obtain ⟨vm', X', step⟩ := X.arraycopy hx hown (hts _ h1) (hts _ xj_y_nat) (hts _ xj_y_sta) (hts _ xj_y_ini) (src := xj_a E b0 a0) (dst := xj_a E b0 a) (cs := arrV c0 n0 (fun j => xj_v E b0 (f j))) (cd := arrV c1 n1 (fun j => xj_v E b0 (g j))) (srcPos := sp) (destPos := dp) (n := n) (by rw [hT]; exact hc0) (by rw [hT]; exact hc1)
            (fun _ h => by cases h) (fun _ h => by cases h) (fun h => by cases h) (fun h => by cases h) hk0 hk1 hkk0 hkk1 (by simp [hprim]) g1 g2 g3
            (by rw [nn sp g1, nn n g3, arrV_size]; omega)
            (by rw [nn dp g2, nn n g3, arrV_size]; omega)
            (fun vm₁ _ i hi => by
              have e : (arrV c0 n0 (fun j => xj_v E b0 (f j))).slots.getD (sp.toNatClampNeg + i) .null = xj_v E b0 (f (sp.toNatClampNeg + i)) := by
                rw [Array.getD_eq_getD_getElem?, arrV_read _ _ (by omega)]
                rfl
              have hfi := List.all_eq_true.mp hall i (List.mem_range.mpr hi)
              refine ⟨?_, ?_⟩
              · rw [e]
                exact xj_fits_v hfi
              · rw [e]
                match k0, hk5, hfi with
                | 0, _, hfi => cases hq : f (sp.toNatClampNeg + i) <;> rw [hq] at hfi <;> first | exact trivial | (simp [fits, xj_kty] at hfi; done)
                | 1, _, hfi => cases hq : f (sp.toNatClampNeg + i) <;> rw [hq] at hfi <;> first | exact trivial | (simp [fits, xj_kty] at hfi; done)
                | 2, _, hfi => cases hq : f (sp.toNatClampNeg + i) <;> rw [hq] at hfi <;> first | exact trivial | (simp [fits, xj_kty] at hfi; done)
                | 3, _, hfi => cases hq : f (sp.toNatClampNeg + i) <;> rw [hq] at hfi <;> first | exact trivial | (simp [fits, xj_kty] at hfi; done)
                | 4, _, hfi => cases hq : f (sp.toNatClampNeg + i) <;> rw [hq] at hfi <;> first | exact trivial | (simp [fits, xj_kty] at hfi; done)
                | q + 5, hq, _ => exact absurd hq (by omega))
            (g := F0 m pc ls (xj_s E b0 (.int n :: .int dp :: .ref a :: .int sp :: .ref a0 :: st'))) rfl (by rw [hml]) (rest := xj_s E b0 st') rfl (by rw [hb]; exact hd) hfr (by show 2 * 0 + _ + _ ≤ _; exact Nat.le_trans (by rw [Nat.mul_zero, Nat.zero_add]; exact Nat.add_le_add_right h8 _) (Nat.le_trans (by decide +kernel) hlo))
          have e1 : copied (arrV c0 n0 (fun j => xj_v E b0 (f j))) (arrV c1 n1 (fun j => xj_v E b0 (g j))) sp dp n = arrV c1 n1 (fun j => xj_v E b0 (va_cpy f g sp.toNatClampNeg dp.toNatClampNeg n.toNatClampNeg j)) := va_copied (fun z => xj_v E b0 z) c0 c1 f g g4
          rw [e1] at X' step
          have hl : xj_a E b0 a < H.size := (Array.getElem?_eq_some_iff.mp hc1).1
          obtain ⟨ha, hca⟩ := xj_arr_inv hf1
          have oq : ∀ q : Nat, q ≠ xj_a E b0 a → (H.setIfInBounds (xj_a E b0 a) (arrV c1 n1 (fun j => xj_v E b0 (va_cpy f g sp.toNatClampNeg dp.toNatClampNeg n.toNatClampNeg j))))[q]? = H[q]? := fun q hq => by simp [Array.getElem?_setIfInBounds, Ne.symm hq]
          have hG1 := hG.put (j := 0) (H1 := H.setIfInBounds (xj_a E b0 a) (arrV c1 n1 (fun j => xj_v E b0 (va_cpy f g sp.toNatClampNeg dp.toNatClampNeg n.toNatClampNeg j)))) (c := .inr (.inl (k0, n1, va_cpy f g sp.toNatClampNeg dp.toNatClampNeg n.toNatClampNeg))) ha hca (by simp) oq ⟨c1, hA1, by simp [Array.getElem?_setIfInBounds, hl]⟩
          obtain ⟨t, a1, b1⟩ := kk _ _ ⟨hG1.1, ⟨hG1.2.1, hG1.2.2.1, fun q hq => by
              rcases List.mem_append.mp hq with h | h
              · exact hG.2.2.2 q h
              · obtain ⟨z, -, hz⟩ := List.mem_map.mp h
                rw [← hz]
                show b0 ≤ xj_a E b0 a
                rw [xj_a_eq ha]
                exact Nat.le_add_right _ _⟩⟩ _ (by rw [← hT]; rfl) X'
          exact ⟨t, step t a1, b1⟩
        · cases h
      · cases h
    · cases h
  · cases h
end

