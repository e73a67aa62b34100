/-! What makes cells: new, newarray, anewarray; constants; the script -/
def xj_tk (t : ArrayType) : Option Nat := match t with
  | .boolean => some 0
  | .byte => some 1
  | .char => some 2
  | .int => some 3
  | .long => some 4
  | _ => none
theorem xj_tk_ty {t : ArrayType} {k : Nat} (h : xj_tk t = some k) : newarray.typeOf t = xj_kty k ∧ k < 5 := by
  cases t <;> first | (cases h; done) | (cases h; exact ⟨rfl, by omega⟩)
theorem xj_acw : ∀ k, k < 5 → Cond.arrayClass (xj_kty k) ∈ xj_tb
  | 0, _ => xj_w_in (p := (2, 171)) (by decide +kernel) rfl
  | 1, _ => xj_w_in (p := (4, 146)) (by decide +kernel) rfl
  | 2, _ => xj_w_in (p := (1, 75)) (by decide +kernel) rfl
  | 3, _ => xj_w_in (p := (1, 76)) (by decide +kernel) rfl
  | 4, _ => xj_w_in (p := (1, 77)) (by decide +kernel) rfl
  | n + 5, h => absurd h (by omega)
theorem xj_v_def (E : Nat → Nat) (b0 : Nat) (t : FieldType) : xj_v E b0 (defaultValue t) = defaultValue t := by cases t <;> rfl
/-- what else the state must have: words that no method's list may hold -/
def xj_kx (s : State) : Prop := (∀ C : String, Cond.arrayOver (.object C) ∈ lw_tbl → va_AO C s) ∧ (∀ (a : String) (i : Nat) (y : MethodName) (h : String), Cond.methodLinkNest a i y h ∈ lw_tbl → va_Nw (.methodLinkNest a i y h) s) ∧ ∀ a b : String, Cond.castable a b ∈ lw_tbl → va_Nw (.castable a b) s
theorem xj_kx.warm {s U : State} (hW : s.WarmedH U.vm) (h : xj_kx s) : xj_kx U := ⟨fun C hC => (h.1 C hC).moved hW.alike, fun a i y z hz => va_Nw.warmM hW (h.2.1 a i y z hz), fun a b hz => va_Nw.warmC hW (h.2.2 a b hz)⟩
theorem xj_kx.same {u U : State} (hv : u.vm = U.vm) (h : xj_kx u) : xj_kx U := ⟨fun C hC => (h.1 C hC).moved (hv ▸ Vm.Alike.refl _), fun a i y z hz => va_Nw.same rfl hv (h.2.1 a i y z hz), fun a b hz => va_Nw.same rfl hv (h.2.2 a b hz)⟩
def xj_na (t : ArrayType) (st : List Value) (M : xj_M) : Option (List Value × xj_M) := match st with
  | .int n :: r => match xj_tk t with
    | some k => if n < 0 ∨ 536870912 < n.toNatClampNeg * componentBytes (xj_kty k) then none else some (.ref (xj_nx M) :: r, xj_new M (.inr (.inl (k, n.toNatClampNeg, fun _ => defaultValue (xj_kty k)))) n.toNatClampNeg)
    | none => none
  | _ => none
def xj_nw (o i : Nat) (st : List Value) (M : xj_M) : Option (List Value × xj_M) := match xj_cls o i with
  | some ci => match vwCl[ci]? with
    | some r => some (.ref (xj_nx M) :: st, xj_new M (.inr (.inr (ci, (List.range r.2.2).map (fun k => defaultValue (xj_ty ci k))))) r.2.2)
    | none => none
  | none => none
def xj_an (o i : Nat) (st : List Value) (M : xj_M) : Option (List Value × xj_M) := match st with
  | .int n :: r => match xj_acl o i with
    | some ci => if n < 0 ∨ 536870912 < n.toNatClampNeg * 4 then none else some (.ref (xj_nx M) :: r, xj_new M (.inr (.inl (ci + 5, n.toNatClampNeg, fun _ => .null))) n.toNatClampNeg)
    | none => none
  | _ => none
def xj_ct (o : Nat) (ins : Instr) (st : List Value) : Option (List Value) := match ins with
  | .ldc i => match xj_int o i with | some v => some (.int v :: st) | none => none
  | .ldc_w i => match xj_int o i with | some v => some (.int v :: st) | none => none
  | .ldc2_w i => match xj_lng o i with | some v => some (.long v :: st) | none => none
  | _ => none
section
variable {p : Program} {l : Launch} {e : Env} {R : Room} {s : State} {m : MethodId} {args : Array Value} {below : List Frame} {meth : Method} {c : Code} {H : Heap} {locs : List Loc} {cells slots : Nat} {Q : State → Prop} {cc : ByteArray} {pc : Nat} {ls : Array Slot} {E : Nat → Nat} {b0 : Nat} {D : va_G} {o : Nat}
theorem xj_G.new {M : xj_M} {H1 : Heap} {c : xj_C} {n : Nat} (h : xj_G D E b0 s M H locs) (hz : H1.size = H.size + 1) (ho : ∀ q, q < H.size → H1[q]? = H[q]?) (hc : xj_at D E b0 s H.size c H1) : xj_G D E b0 s (xj_new M c n) H1 locs :=
  ⟨h.1.new hz ho hc, ⟨Nat.le_trans h.2.1 (by omega), fun q h1 h2 => (ho q (Nat.lt_of_lt_of_le h1 h.2.1)).trans (h.2.2.1 q h1 h2), h.2.2.2⟩⟩
theorem xj_nx_at {M : xj_M} (h : xj_rep D E b0 s M H) : xj_v E b0 (.ref (xj_nx M)) = .ref H.size := by
  show Value.ref (xj_a E b0 (xj_nx M)) = _
  rw [xj_a_eq (by unfold xj_nx; omega), h.1]
  unfold xj_nx
  rw [Nat.add_sub_cancel_left]
theorem xj_ct_ok (hx : p.tables.exec = Jvm.exec) (hb : c.code = cc) (hts : ∀ w ∈ xj_tb, w.before args s = true) (hown : s.vm.findClass (xj_nm o) = some m.cls) {ins : Instr} {st st' : List Value} (h : xj_ct o ins st = some st') (hd : decode cc pc = .ok (ins, xj_len ins))
    (k : W p l e R s m args below meth c H locs cells slots Q (F0 m (pc + xj_len ins) ls (xj_s E b0 st'))) : W p l e R s m args below meth c H locs cells slots Q (F0 m pc ls (xj_s E b0 st)) := by
  cases ins
  case ldc i =>
    unfold xj_ct at h
    simp only at h
    cases hv : xj_int o i with
    | none => rw [hv] at h; cases h
    | some v => rw [hv] at h; cases h; exact lv_ldc hx hb hown (hts _ (xj_int_ok hv)) hd k
  case ldc_w i =>
    unfold xj_ct at h
    simp only at h
    cases hv : xj_int o i with
    | none => rw [hv] at h; cases h
    | some v => rw [hv] at h; cases h; exact lv_ldcw hx hb hown (hts _ (xj_int_ok hv)) hd k
  case ldc2_w i =>
    unfold xj_ct at h
    simp only at h
    cases hv : xj_lng o i with
    | none => rw [hv] at h; cases h
    | some v => rw [hv] at h; cases h; exact lv_ldc2 hx hb hown (hts _ (xj_lng_ok hv)) hd k
  all_goals cases h
theorem xj_na_ok (hx : p.tables.exec = Jvm.exec) (hb : c.code = cc) (hts : ∀ w ∈ xj_tb, w.before args s = true) {M M' : xj_M} (hG : xj_G D E b0 s M H locs) {t : ArrayType} {st st' : List Value} (h : xj_na t st M = some (st', M')) (hd : decode cc pc = .ok (.newarray t, 2))
    (hcells : cells + 1 ≤ R.cells) (hslots : slots + (M'.2 - M.2) ≤ R.slots)
    (k : ∀ H1 : Heap, xj_G D E b0 s M' H1 locs → M'.1.length = M.1.length + 1 → M.2 ≤ M'.2 → W p l e R s m args below meth c H1 locs (cells + 1) (slots + (M'.2 - M.2)) Q (F0 m (pc + 2) ls (xj_s E b0 st'))) : W p l e R s m args below meth c H locs cells slots Q (F0 m pc ls (xj_s E b0 st)) := by
  unfold xj_na at h
  split at h
  · rename_i n r
    split at h
    · rename_i kk hk
      split at h
      · cases h
      · rename_i h0
        cases h
        obtain ⟨hty, hk5⟩ := xj_tk_ty hk
        have e0 : (M.2 + n.toNatClampNeg) - M.2 = n.toNatClampNeg := by omega
        simp only [xj_new, e0] at hslots
        have hw := hts _ (xj_acw kk hk5)
        rw [← hty] at hw
        refine va_newaK hx hb hw (g := F0 m pc ls (.int n :: xj_s E b0 r)) rfl hd rfl (fun q => h0 (Or.inl q)) rfl (by rw [hty]; exact Nat.not_lt.mp fun q => h0 (Or.inr q)) hcells hslots rfl fun H' cA e1 z1 o1 hAr hNm => ?_
        have hres := k H' (hG.new z1 o1 ⟨cA, ⟨by rw [← hty]; exact hAr, by
          rw [hty] at hNm
          match kk, hk5, hNm with
          | 0, _, hNm => exact hNm
          | 1, _, hNm => exact hNm
          | 2, _, hNm => exact hNm
          | 3, _, hNm => exact hNm
          | 4, _, hNm => exact hNm
          | q + 5, hq, _ => exact absurd hq (by omega)⟩, by
            simp only [xj_v_def]
            rw [e1, hty]⟩) (by simp [xj_new]) (by simp [xj_new])
        simp only [xj_new, e0] at hres
        have e9 := xj_nx_at hG.1
        simp only [xj_s, List.map_cons, e9] at hres
        exact hres
    · cases h
  · cases h
theorem xj_an_ok (hx : p.tables.exec = Jvm.exec) (hb : c.code = cc) (hts : ∀ w ∈ xj_tb, w.before args s = true) (hown : s.vm.findClass (xj_nm o) = some m.cls) (hkx : xj_kx s) {M M' : xj_M} (hG : xj_G D E b0 s M H locs) {i : Nat} {st st' : List Value} (h : xj_an o i st M = some (st', M')) (hd : decode cc pc = .ok (.anewarray i, 3))
    (hcells : cells + 1 ≤ R.cells) (hslots : slots + (M'.2 - M.2) ≤ R.slots)
    (k : ∀ H1 : Heap, xj_G D E b0 s M' H1 locs → M'.1.length = M.1.length + 1 → M.2 ≤ M'.2 → W p l e R s m args below meth c H1 locs (cells + 1) (slots + (M'.2 - M.2)) Q (F0 m (pc + 3) ls (xj_s E b0 st'))) : W p l e R s m args below meth c H locs cells slots Q (F0 m pc ls (xj_s E b0 st)) := by
  unfold xj_an at h
  split at h
  · rename_i n r
    split at h
    · rename_i ci hk
      split at h
      · cases h
      · rename_i h0
        cases h
        obtain ⟨rr, g1, g2, g3⟩ := xj_acl_ok hk
        have e0 : (M.2 + n.toNatClampNeg) - M.2 = n.toNatClampNeg := by omega
        simp only [xj_new, e0] at hslots
        have e9 := xj_nx_at hG.1
        have hty : xj_kty (ci + 5) = .object rr.1 := by show FieldType.object _ = _; rw [g1]
        refine W.anew hx hb hown (hts _ g2) (va_AO.use (hkx.1 _ g3)) (g := F0 m pc ls (.int n :: xj_s E b0 r)) rfl hd rfl (fun q => h0 (Or.inl q)) (Nat.not_lt.mp fun q => h0 (Or.inr q)) hcells hslots fun cA kA comp f1 f2 f3 f4 => ?_
        have hres := k (H.push ({ cls := cA, slots := Array.replicate n.toNatClampNeg .null, vm := .none } : Cell)) (hG.new (by rw [Array.size_push]) (fun q hq => by rw [Array.getElem?_push, if_neg (Nat.ne_of_lt hq)]) ⟨cA, ⟨by rw [hty]; exact fun N z => ⟨(fun k h => by cases h), kA, f2, comp, f3⟩, by rw [hty]; exact ⟨kA, comp, f2, f3, f4, f1⟩⟩, by
            rw [Array.getElem?_push_size, arrV_new]
            rfl⟩) (by simp [xj_new]) (by simp [xj_new])
        simp only [xj_new, e0] at hres
        simp only [xj_s, List.map_cons, e9] at hres
        exact hres
    · cases h
  · cases h
theorem xj_nw_ok (hx : p.tables.exec = Jvm.exec) (hb : c.code = cc) (hts : ∀ w ∈ xj_tb, w.before args s = true) (hown : s.vm.findClass (xj_nm o) = some m.cls) (hK : xj_kn D s) {M M' : xj_M} (hG : xj_G D E b0 s M H locs) {i : Nat} {st st' : List Value} (h : xj_nw o i st M = some (st', M')) (hd : decode cc pc = .ok (.new i, 3))
    (hcells : cells + 1 ≤ R.cells) (hslots : slots + (M'.2 - M.2) ≤ R.slots)
    (k : ∀ H1 : Heap, xj_G D E b0 s M' H1 locs → M'.1.length = M.1.length + 1 → M.2 ≤ M'.2 → W p l e R s m args below meth c H1 locs (cells + 1) (slots + (M'.2 - M.2)) Q (F0 m (pc + 3) ls (xj_s E b0 st'))) : W p l e R s m args below meth c H locs cells slots Q (F0 m pc ls (xj_s E b0 st)) := by
  unfold xj_nw at h
  split at h
  · rename_i ci hk
    split at h
    · rename_i r hr
      cases h
      obtain ⟨rr, g1, g2, g3, g4⟩ := xj_cls_ok hk
      cases hr.symm.trans g1
      have e0 : (M.2 + r.2.2) - M.2 = r.2.2 := by omega
      simp only [xj_new, e0] at hslots
      have e9 := xj_nx_at hG.1
      have hKn := hK ci _ g1
      refine W.newcK hx hb hown (hts _ g2) (hts _ g3) (hts _ g4) (g := F0 m pc ls (xj_s E b0 st)) rfl hd hcells hslots hKn.2.1 rfl fun H1 kC hkC e1 z1 o1 => ?_
      have hres := k H1 (hG.new z1 o1 ⟨r, g1, by simp, (u_born (xj_ty ci) hts (xj_cl_ws g1) hKn hkC e1 (xj_cl_ty g1)).to (fun j hj => by
          simp only [vp_V]
          rw [List.getD_eq_getElem?_getD, List.getElem?_map, List.getElem?_range hj]
          simp [xj_v_def])⟩) (by simp [xj_new]) (by simp [xj_new])
      simp only [xj_new, e0] at hres
      simp only [xj_s, List.map_cons, e9] at hres
      exact hres
    · cases h
  · cases h
end
