/-! The memory of the interpreter in the machine's heap; field and array instructions -/
def xj_ak (s : State) (k : Nat) (cA : ClassId) : Prop := ArrOfT s cA (xj_kty k) ∧ va_RA s cA (xj_kty k)
def xj_at (D : va_G) (E : Nat → Nat) (b0 : Nat) (s : State) (a : Nat) (c : xj_C) (H : Heap) : Prop := match c with
  | .inl _ => True
  | .inr (.inl q) => ∃ cA, xj_ak s q.1 cA ∧ H[a]? = some (arrV cA q.2.1 (fun j => xj_v E b0 (q.2.2 j)))
  | .inr (.inr o) => ∃ r : vw_C, vwCl[o.1]? = some r ∧ o.2.length = r.2.2 ∧ t_OB a (D.1 o.1) r.2.2 (D.2 o.1) H (fun k => xj_v E b0 (vp_V o.2 k))
def xj_rep (D : va_G) (E : Nat → Nat) (b0 : Nat) (s : State) (M : xj_M) (H : Heap) : Prop := H.size = b0 + M.1.length ∧ ∀ (i : Nat) (c : xj_C), M.1[i]? = some c → xj_at D E b0 s (b0 + i) c H
def xj_kn (D : va_G) (s : State) : Prop := ∀ (ci : Nat) (r : vw_C), vwCl[ci]? = some r → u_Kn s r.1 r.2.1 r.2.2 (D.1 ci) (D.2 ci)
theorem xj_kn.moved {D : va_G} {u U : State} (hvm : u.vm.Alike U.vm) (h : xj_kn D u) : xj_kn D U := fun ci r hr => u_Kn_moved hvm (h ci r hr)
theorem xj_at.kept {D : va_G} {E : Nat → Nat} {b0 : Nat} {s : State} {a : Nat} {c : xj_C} {H H1 : Heap} (h : xj_at D E b0 s a c H) (hq : H1[a]? = H[a]?) : xj_at D E b0 s a c H1 := by
  rcases c with c | c | c
  · trivial
  · obtain ⟨cA, h1, h2⟩ := h
    exact ⟨cA, h1, by rw [hq]; exact h2⟩
  · obtain ⟨r, h1, h2, h3⟩ := h
    exact ⟨r, h1, h2, h3.kept hq⟩
theorem xj_at.moved {D : va_G} {E : Nat → Nat} {b0 : Nat} {u U : State} {a : Nat} {c : xj_C} {H : Heap} (hvm : u.vm.Alike U.vm) (h : xj_at D E b0 u a c H) : xj_at D E b0 U a c H := by
  rcases c with c | c | c
  · trivial
  · obtain ⟨cA, h1, h2⟩ := h
    exact ⟨cA, ⟨arrOfT_moved hvm h1.1, h1.2.moved hvm⟩, h2⟩
  · exact h
theorem xj_rep.moved {D : va_G} {E : Nat → Nat} {b0 : Nat} {u U : State} {M : xj_M} {H : Heap} (hvm : u.vm.Alike U.vm) (h : xj_rep D E b0 u M H) : xj_rep D E b0 U M H := ⟨h.1, fun i c hc => (h.2 i c hc).moved hvm⟩
theorem xj_rep.put {D : va_G} {E : Nat → Nat} {b0 : Nat} {s : State} {M : xj_M} {H H1 : Heap} {i : Nat} {c c0 : xj_C} (h : xj_rep D E b0 s M H) (hi : M.1[i]? = some c0) (hz : H1.size = H.size) (ho : ∀ q, q ≠ b0 + i → H1[q]? = H[q]?) (hc : xj_at D E b0 s (b0 + i) c H1) : xj_rep D E b0 s (M.1.set i c, M.2) H1 := by
  have hlt := (List.getElem?_eq_some_iff.mp hi).1
  refine ⟨by rw [hz, h.1]; simp, fun j d hd => ?_⟩
  by_cases e : j = i
  · subst e
    rw [List.getElem?_set_self hlt] at hd
    cases hd
    exact hc
  · rw [List.getElem?_set_ne (Ne.symm e)] at hd
    exact (h.2 j d hd).kept (ho _ (by omega))
theorem xj_rep.new {D : va_G} {E : Nat → Nat} {b0 : Nat} {s : State} {M : xj_M} {H H1 : Heap} {c : xj_C} {n : Nat} (h : xj_rep D E b0 s M H) (hz : H1.size = H.size + 1) (ho : ∀ q, q < H.size → H1[q]? = H[q]?) (hc : xj_at D E b0 s H.size c H1) : xj_rep D E b0 s (xj_new M c n) H1 := by
  refine ⟨by rw [hz, h.1]; simp [xj_new]; omega, fun j d hd => ?_⟩
  unfold xj_new at hd
  by_cases e : j < M.1.length
  · rw [List.getElem?_append_left e] at hd
    exact (h.2 j d hd).kept (ho _ (by rw [h.1]; omega))
  · rw [List.getElem?_append_right (by omega)] at hd
    have hz2 : j - M.1.length < 1 := (List.getElem?_eq_some_iff.mp hd).1
    rw [show j - M.1.length = 0 by omega] at hd
    cases hd
    rw [show b0 + j = H.size by rw [h.1]; omega]
    exact hc
theorem xj_get_inv {M : xj_M} {a : Nat} {c : xj_C} (h : xj_get M a = some c) : 64 ≤ a ∧ M.1[a - 64]? = some c := by
  unfold xj_get at h
  split at h
  · cases h
  · exact ⟨by omega, h⟩
theorem xj_arr_inv {M : xj_M} {a : Nat} {x : Nat × Nat × (Nat → Value)} (h : xj_arr M a = some x) : 64 ≤ a ∧ M.1[a - 64]? = some (.inr (.inl x)) := by
  unfold xj_arr at h
  split at h
  · rename_i y hy; cases h; exact xj_get_inv hy
  · cases h
theorem xj_obj_inv {M : xj_M} {a : Nat} {x : Nat × List Value} (h : xj_obj M a = some x) : 64 ≤ a ∧ M.1[a - 64]? = some (.inr (.inr x)) := by
  unfold xj_obj at h
  split at h
  · rename_i y hy; cases h; exact xj_get_inv hy
  · cases h
theorem xj_a_eq {E : Nat → Nat} {b0 a : Nat} (h : 64 ≤ a) : xj_a E b0 a = b0 + (a - 64) := by
  unfold xj_a
  rw [if_neg (by omega)]
/-- fields -/
def xj_gf (o i : Nat) (st : List Value) (M : xj_M) : Option (List Value × xj_M) := match st with
  | .ref a :: r => match xj_fld o i with
    | some q => match xj_obj M a with
      | some ob => if ob.1 = q.1 then (match ob.2[q.2]? with | some v => some (v :: r, M) | none => none) else none
      | none => none
    | none => none
  | _ => none
def xj_okv (ty : FieldType) (v : Value) : Bool := decide (narrow ty v = v) && fits ty v
def xj_fin (ci k : Nat) : Bool := match vwCl[ci]? with | some r => (r.2.1 k).2.2.2 | none => true
def xj_pf (o : Nat) (ini : Bool) (i : Nat) (st : List Value) (M : xj_M) : Option (List Value × xj_M) := match st with
  | v :: .ref a :: r => match xj_fld o i with
    | some q => match xj_obj M a with
      | some ob => if ob.1 = q.1 ∧ xj_okv (xj_ty q.1 q.2) v = true ∧ (xj_fin q.1 q.2 = false ∨ ini = true ∧ xj_nm q.1 = xj_nm o) then some (r, xj_put M a (.inr (.inr (ob.1, ob.2.set q.2 v)))) else none
      | none => none
    | none => none
  | _ => none
theorem xj_gf_inv {o i : Nat} {st st' : List Value} {M M' : xj_M} (h : xj_gf o i st M = some (st', M')) : ∃ (a ci k : Nat) (fs r : List Value) (v : Value), st = .ref a :: r ∧ xj_fld o i = some (ci, k) ∧ xj_obj M a = some (ci, fs) ∧ fs[k]? = some v ∧ st' = v :: r ∧ M' = M := by
  unfold xj_gf at h
  split at h
  · split at h
    · rename_i q hq
      split at h
      · rename_i ob hob
        split at h
        · rename_i e
          split at h
          · rename_i v hv
            cases h
            obtain ⟨ci, k⟩ := q
            obtain ⟨cj, fs⟩ := ob
            simp only at e hv
            subst e
            exact ⟨_, _, _, _, _, _, rfl, hq, hob, hv, rfl, rfl⟩
          · cases h
        · cases h
      · cases h
    · cases h
  · cases h
theorem xj_pf_inv {o i : Nat} {ini : Bool} {st st' : List Value} {M M' : xj_M} (h : xj_pf o ini i st M = some (st', M')) : ∃ (a ci k : Nat) (fs : List Value) (v : Value), st = v :: .ref a :: st' ∧ xj_fld o i = some (ci, k) ∧ xj_obj M a = some (ci, fs) ∧ xj_okv (xj_ty ci k) v = true ∧ (xj_fin ci k = false ∨ ini = true ∧ xj_nm ci = xj_nm o) ∧ M' = xj_put M a (.inr (.inr (ci, fs.set k v))) := by
  unfold xj_pf at h
  split at h
  · split at h
    · rename_i q hq
      split at h
      · rename_i ob hob
        split at h
        · rename_i e
          cases h
          obtain ⟨ci, k⟩ := q
          obtain ⟨cj, fs⟩ := ob
          simp only at e
          obtain ⟨e1, e2, e3⟩ := e
          subst e1
          exact ⟨_, _, _, _, _, rfl, hq, hob, e2, e3, rfl⟩
        · cases h
      · cases h
    · cases h
  · cases h
theorem xj_okv_v {E : Nat → Nat} {b0 : Nat} {ty : FieldType} {v : Value} (h : xj_okv ty v = true) : narrow ty (xj_v E b0 v) = xj_v E b0 v ∧ fits ty (xj_v E b0 v) = true := by
  unfold xj_okv at h
  rw [Bool.and_eq_true] at h
  obtain ⟨h1, h2⟩ := h
  have h1 := of_decide_eq_true h1
  cases v <;> cases ty <;> first | exact ⟨h1, h2⟩ | (simp [fits] at h2; done) | exact ⟨rfl, rfl⟩
section
variable {p : Program} {l : Launch} {e : Env} {R : Room} {s : State} {m : MethodId} {args : Array Value} {below : List Frame} {meth : Method} {c : Code} {H : Heap} {locs : List Loc} {cells slots : Nat} {Q : State → Prop} {cc : ByteArray} {pc : Nat} {ls : Array Slot} {E : Nat → Nat} {b0 : Nat} {D : va_G} {o : Nat}
theorem xj_gf_ok (hx : p.tables.exec = Jvm.exec) (hb : c.code = cc) (hts : ∀ w ∈ xj_tb, w.before args s = true) (hown : s.vm.findClass (xj_nm o) = some m.cls) (hK : xj_kn D s) {M M' : xj_M} (hR : xj_rep D E b0 s M H) {i : Nat} {st st' : List Value} (h : xj_gf o i st M = some (st', M')) (hd : decode cc pc = .ok (.getfield i, 3))
    (k : W p l e R s m args below meth c H locs cells slots Q (F0 m (pc + 3) ls (xj_s E b0 st'))) : W p l e R s m args below meth c H locs cells slots Q (F0 m pc ls (xj_s E b0 st)) := by
  obtain ⟨a, ci, kf, fs, r, v, rfl, hf, ho, hv, rfl, rfl⟩ := xj_gf_inv h
  obtain ⟨⟨C, T, N⟩, g1, g2, g3, g4⟩ := xj_fld_ok hf
  obtain ⟨ha, hc⟩ := xj_obj_inv ho
  obtain ⟨r', k1, k2, k3⟩ := hR.2 _ _ hc
  cases g1.symm.trans k1
  have hP : va_P D vwCl [(xj_a E b0 a, .inr (ci, fs.map (xj_v E b0)))] H := by
    intro q x hq
    match q, hq with
    | 0, hq =>
      cases hq
      rw [xj_a_eq ha]
      exact ⟨(C, T, N), g1, k3.to (fun j hj => by simp only [vp_V]; rw [List.getD_eq_getElem?_getD, List.getD_eq_getElem?_getD, List.getElem?_map, List.getElem?_eq_getElem (by rw [k2]; exact hj)]; rfl)⟩
    | q + 1, hq => simp at hq
  exact va_get (D := D) (cl := vwCl) (tys := []) (ci := ci) (C := C) (T := T) (N := N) (fs := fs.map (xj_v E b0)) (v := xj_v E b0 v) hx hb hts (xj_cl_ws g1) hown ⟨hK, fun q x hq => by simp at hq⟩ hP 0 rfl g1 kf g2 (hts _ g3) (fun x hx => by simp only at g4; rw [g4] at hx; exact hx) (by rw [List.getElem?_map, hv]; rfl) hd k
end
