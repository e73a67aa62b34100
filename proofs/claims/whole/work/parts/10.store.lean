/-! putfield, and the arrays' instructions -/
/-- what holds of the heap between two instructions -/
def xj_G (D : va_G) (E : Nat → Nat) (b0 : Nat) (s : State) (M : xj_M) (H : Heap) (locs : List Loc) : Prop := xj_rep D E b0 s M H ∧ va_S (fun q => b0 ≤ q) s.heap H locs
theorem xj_G.put {D : va_G} {E : Nat → Nat} {b0 : Nat} {s : State} {M : xj_M} {H H1 : Heap} {locs : List Loc} {a j : Nat} {c c0 : xj_C} (h : xj_G D E b0 s M H locs) (ha : 64 ≤ a) (hi : M.1[a - 64]? = some c0) (hz : H1.size = H.size) (ho : ∀ q, q ≠ xj_a E b0 a → H1[q]? = H[q]?) (hc : xj_at D E b0 s (xj_a E b0 a) c H1) :
    xj_G D E b0 s (xj_put M a c) H1 (locs ++ [⟨xj_a E b0 a, j⟩]) := by
  rw [xj_a_eq ha] at ho hc ⊢
  exact ⟨h.1.put hi hz ho hc, h.2.put hz ho (Nat.le_add_right _ _)⟩
theorem xj_V_map {E : Nat → Nat} {b0 N : Nat} {fs : List Value} {k : Nat} {v : Value} (hk : k < fs.length) (hN : fs.length = N) (j : Nat) (hj : j < N) : updV (fun k => xj_v E b0 (vp_V fs k)) k (xj_v E b0 v) j = xj_v E b0 (vp_V (fs.set k v) j) := by
  rw [← vp_updV_set hk v j]
  unfold updV
  split <;> rfl
/-- arrays: loads -/
def xj_al (kk : Nat) (st : List Value) (M : xj_M) : Option (List Value × xj_M) := match st with
  | .int i :: .ref a :: r => match xj_arr M a with
    | some x => if x.1 = kk then (match xj_ix x.2.1 i with | some j => some (x.2.2 j :: r, M) | none => none) else none
    | none => none
  | _ => none
def xj_aq (st : List Value) (M : xj_M) : Option (List Value × xj_M) := match st with
  | .int i :: .ref a :: r => match xj_arr M a with
    | some x => if 5 ≤ x.1 then (match xj_ix x.2.1 i with | some j => some (x.2.2 j :: r, M) | none => none) else none
    | none => none
  | _ => none
theorem xj_ix_inv {n j : Nat} {i : Int32} (h : xj_ix n i = some j) : ¬ (i < 0 ∨ n ≤ i.toNatClampNeg) ∧ j = i.toNatClampNeg := by
  unfold xj_ix at h
  split at h
  · cases h
  · rename_i h0; cases h; exact ⟨h0, rfl⟩
theorem xj_al_inv {kk : Nat} {st st' : List Value} {M M' : xj_M} (h : xj_al kk st M = some (st', M')) : ∃ (i : Int32) (a n : Nat) (f : Nat → Value) (r : List Value), st = .int i :: .ref a :: r ∧ xj_arr M a = some (kk, n, f) ∧ ¬ (i < 0 ∨ n ≤ i.toNatClampNeg) ∧ st' = f i.toNatClampNeg :: r ∧ M' = M := by
  unfold xj_al at h
  split at h
  · split at h
    · rename_i x hx
      split at h
      · rename_i e
        split at h
        · rename_i j hj
          obtain ⟨h1, rfl⟩ := xj_ix_inv hj
          cases h
          obtain ⟨k, n, f⟩ := x
          simp only at e h1
          subst e
          exact ⟨_, _, _, _, _, rfl, hx, h1, rfl, rfl⟩
        · cases h
      · cases h
    · cases h
  · cases h
theorem xj_aq_inv {st st' : List Value} {M M' : xj_M} (h : xj_aq st M = some (st', M')) : ∃ (i : Int32) (a k n : Nat) (f : Nat → Value) (r : List Value), st = .int i :: .ref a :: r ∧ xj_arr M a = some (k + 5, n, f) ∧ ¬ (i < 0 ∨ n ≤ i.toNatClampNeg) ∧ st' = f i.toNatClampNeg :: r ∧ M' = M := by
  unfold xj_aq at h
  split at h
  · split at h
    · rename_i x hx
      split at h
      · rename_i e
        split at h
        · rename_i j hj
          obtain ⟨h1, rfl⟩ := xj_ix_inv hj
          cases h
          obtain ⟨k, n, f⟩ := x
          simp only at e h1
          obtain ⟨k', rfl⟩ : ∃ k', k = k' + 5 := ⟨k - 5, by omega⟩
          exact ⟨_, _, _, _, _, _, rfl, hx, h1, rfl, rfl⟩
        · cases h
      · cases h
    · cases h
  · cases h
/-- arrays: stores of ints and longs; nar: what the array keeps -/
def xj_as (kk : Nat) (ok : Value → Option Value) (st : List Value) (M : xj_M) : Option (List Value × xj_M) := match st with
  | v :: .int i :: .ref a :: r => match ok v with
    | some w => match xj_arr M a with
      | some x => if x.1 = kk then (match xj_ix x.2.1 i with | some j => some (r, xj_put M a (.inr (.inl (kk, x.2.1, updV x.2.2 j w)))) | none => none) else none
      | none => none
    | none => none
  | _ => none
theorem xj_as_inv {kk : Nat} {ok : Value → Option Value} {st st' : List Value} {M M' : xj_M} (h : xj_as kk ok st M = some (st', M')) : ∃ (v w : Value) (i : Int32) (a n : Nat) (f : Nat → Value), st = v :: .int i :: .ref a :: st' ∧ ok v = some w ∧ xj_arr M a = some (kk, n, f) ∧ ¬ (i < 0 ∨ n ≤ i.toNatClampNeg) ∧ M' = xj_put M a (.inr (.inl (kk, n, updV f i.toNatClampNeg w))) := by
  unfold xj_as at h
  split at h
  · split at h
    · rename_i w hw
      split at h
      · rename_i x hx
        split at h
        · rename_i e
          split at h
          · rename_i j hj
            obtain ⟨h1, rfl⟩ := xj_ix_inv hj
            cases h
            obtain ⟨k, n, f⟩ := x
            simp only at e h1
            subst e
            exact ⟨_, _, _, _, _, _, rfl, hw, hx, h1, rfl⟩
          · cases h
        · cases h
      · cases h
    · cases h
  · cases h
def xj_oki (v : Value) : Option Value := match v with | .int x => some (.int x) | _ => none
def xj_okl (v : Value) : Option Value := match v with | .long x => some (.long x) | _ => none
def xj_okn (ty : FieldType) (v : Value) : Option Value := match v with | .int x => some (narrow ty (.int x)) | _ => none
/-- arrays of references: stores -/
def xj_aa (st : List Value) (M : xj_M) : Option (List Value × xj_M) := match st with
  | .ref v :: .int i :: .ref a :: r => match xj_obj M v with
    | some ob => match xj_arr M a with
      | some x => if x.1 = ob.1 + 5 then (match xj_ix x.2.1 i with | some j => some (r, xj_put M a (.inr (.inl (x.1, x.2.1, updV x.2.2 j (.ref v))))) | none => none) else none
      | none => none
    | none => none
  | .null :: .int i :: .ref a :: r => match xj_arr M a with
    | some x => if 5 ≤ x.1 then (match xj_ix x.2.1 i with | some j => some (r, xj_put M a (.inr (.inl (x.1, x.2.1, updV x.2.2 j .null)))) | none => none) else none
    | none => none
  | _ => none
theorem xj_aa_inv {st st' : List Value} {M M' : xj_M} (h : xj_aa st M = some (st', M')) :
    (∃ (v : Nat) (i : Int32) (a ci n : Nat) (fs : List Value) (f : Nat → Value), st = .ref v :: .int i :: .ref a :: st' ∧ xj_obj M v = some (ci, fs) ∧ xj_arr M a = some (ci + 5, n, f) ∧ ¬ (i < 0 ∨ n ≤ i.toNatClampNeg) ∧ M' = xj_put M a (.inr (.inl (ci + 5, n, updV f i.toNatClampNeg (.ref v))))) ∨
    (∃ (i : Int32) (a k n : Nat) (f : Nat → Value), st = .null :: .int i :: .ref a :: st' ∧ xj_arr M a = some (k + 5, n, f) ∧ ¬ (i < 0 ∨ n ≤ i.toNatClampNeg) ∧ M' = xj_put M a (.inr (.inl (k + 5, n, updV f i.toNatClampNeg .null)))) := by
  unfold xj_aa at h
  split at h
  · split at h
    · rename_i ob hob
      split at h
      · rename_i x hx
        split at h
        · rename_i e
          split at h
          · rename_i j hj
            obtain ⟨h1, rfl⟩ := xj_ix_inv hj
            cases h
            obtain ⟨k, n, f⟩ := x
            obtain ⟨ci, fs⟩ := ob
            simp only at e h1
            subst e
            exact Or.inl ⟨_, _, _, _, _, _, _, rfl, hob, hx, h1, rfl⟩
          · cases h
        · cases h
      · cases h
    · cases h
  · split at h
    · rename_i x hx
      split at h
      · rename_i e
        split at h
        · rename_i j hj
          obtain ⟨h1, rfl⟩ := xj_ix_inv hj
          cases h
          obtain ⟨k, n, f⟩ := x
          simp only at e h1
          obtain ⟨k', rfl⟩ : ∃ k', k = k' + 5 := ⟨k - 5, by omega⟩
          exact Or.inr ⟨_, _, _, _, _, rfl, hx, h1, rfl⟩
        · cases h
      · cases h
    · cases h
  · cases h
theorem xj_cl_nmC : (List.range 16).all (fun ci => match vwCl[ci]? with | some r => decide (r.1 = xj_nm ci) | none => true) = true := by decide +kernel
theorem xj_cl_name {ci : Nat} {r : vw_C} (h : vwCl[ci]? = some r) : r.1 = xj_nm ci := by
  have h1 := List.all_eq_true.mp xj_cl_nmC ci (List.mem_range.mpr (xj_cl_lt h))
  rw [h] at h1
  exact of_decide_eq_true h1
section
variable {p : Program} {l : Launch} {e : Env} {R : Room} {s : State} {m : MethodId} {args : Array Value} {below : List Frame} {meth : Method} {c : Code} {H : Heap} {locs : List Loc} {cells slots : Nat} {Q : State → Prop} {cc : ByteArray} {pc : Nat} {ls : Array Slot} {E : Nat → Nat} {b0 : Nat} {D : va_G} {o : Nat}
theorem xj_pf_ok (hx : p.tables.exec = Jvm.exec) (hb : c.code = cc) (hts : ∀ w ∈ xj_tb, w.before args s = true) (hown : s.vm.findClass (xj_nm o) = some m.cls) (hK : xj_kn D s) {ini : Bool} (hini : ini = true → meth.name = "<init>") {M M' : xj_M} (hG : xj_G D E b0 s M H locs) {i : Nat} {st st' : List Value} (h : xj_pf o ini i st M = some (st', M')) (hd : decode cc pc = .ok (.putfield i, 3))
    (k : ∀ (H1 : Heap) (locs1 : List Loc), xj_G D E b0 s M' H1 locs1 → W p l e R s m args below meth c H1 locs1 cells slots Q (F0 m (pc + 3) ls (xj_s E b0 st'))) : W p l e R s m args below meth c H locs cells slots Q (F0 m pc ls (xj_s E b0 st)) := by
  obtain ⟨a, ci, kf, fs, v, rfl, hf, ho, hv, hfn, rfl⟩ := xj_pf_inv h
  obtain ⟨⟨C, T, N⟩, g1, g2, g3, g4⟩ := xj_fld_ok hf
  obtain ⟨ha, hc⟩ := xj_obj_inv ho
  obtain ⟨r', k1, k2, k3⟩ := hG.1.2 _ _ hc
  cases g1.symm.trans k1
  simp only at g2 g3 g4 k2 k3
  rw [← xj_a_eq (E := E) (b0 := b0) ha] at k3
  obtain ⟨hn, hfit⟩ := xj_okv_v (E := E) (b0 := b0) hv
  have hty := xj_cl_ty g1
  have hin := xj_cl_ws g1
  have hKv : va_K D vwCl [] s := ⟨hK, fun q x hq => by simp at hq⟩
  have hap := va_apart (own := xj_nm o) hts hin (xj_ty ci) hty (xj_cl_nm g1) hKv g1
  obtain ⟨cell, q1, q2, q3, q4⟩ := k3
  obtain ⟨hS, hfc, kC, hkC, hkind⟩ := hK ci _ g1
  obtain ⟨cf, kfc, fi, f, hi, hsl⟩ := hS kf g2
  have hlay := hts _ (hin _ (u_in_lay g2))
  have hst := (u_facts hfc hkC (u_lays hts hin g2) hi).1
  have hlen : kf < fs.length := by rw [k2]; exact g2
  have fin : ∀ H' : Heap, H'[xj_a E b0 a]? = some (cell.setSlot f.slot (xj_v E b0 v)) → H'.size = H.size → (∀ q, q ≠ xj_a E b0 a → H'[q]? = H[q]?) → W p l e R s m args below meth c H' (locs ++ [⟨xj_a E b0 a, f.slot⟩]) cells slots Q (F0 m (pc + 3) ls (xj_s E b0 st')) := by
    intro H' e1 e2 e3
    rw [hsl] at e1
    refine k H' _ (hG.put ha hc e2 e3 ⟨(C, T, N), g1, by simp [k2], ?_⟩)
    exact t_OB.to (V := updV (fun k => xj_v E b0 (vp_V fs k)) kf (xj_v E b0 v)) ⟨_, e1, q2, q3, t_set q4 hap g2 _⟩ (fun j hj => xj_V_map hlen k2 j hj)
  by_cases hfb : (T kf).2.2.2 = true
  · have hini2 : ini = true ∧ xj_nm ci = xj_nm o := by
      rcases hfn with q | q
      · unfold xj_fin at q
        rw [g1] at q
        simp only at q
        rw [hfb] at q
        cases q
      · exact q
    unfold u_lay at hlay
    rw [if_pos hfb] at hlay
    have hC : C = xj_nm o := (xj_cl_name g1).trans hini2.2
    have hcf : m.cls = cf := by
      obtain ⟨_, _, c', _, _, _, -, -, hf', -, -, -, hown2, -⟩ := Cond.laysFinal_spec hlay
      have e1 : c' = cf := by have := hi.symm.trans hf'; simp at this; exact this.1.symm
      rw [g4, hC] at hown2
      rw [← e1]; exact Option.some.inj (hown.symm.trans hown2)
    have h6 := u_fits hfc hkC hkind (Or.inr hlay) hi (hty kf g2) hn hfit
    exact W.putFinK hx hb hown (hts _ g3) (by rw [g4] at hi; exact hi) hst hcf (hini hini2.1) (by rw [q2]; exact h6) q1 q3 (by rw [hsl]; exact k2_hasslot (q4 kf g2)) rfl rfl hd fin
  · unfold u_lay at hlay
    rw [if_neg hfb] at hlay
    have h6 := u_store hfc hkC hkind hlay hi (hty kf g2) hn hfit
    exact W.putK hx hb (f := f) ⟨hown, hts _ g3, ⟨_, _, _, by rw [g4] at hi; exact hi⟩, hst⟩ (by rw [q2]; exact h6) q1 q3 (by rw [hsl]; exact k2_hasslot (q4 kf g2)) rfl rfl hd fin
end
