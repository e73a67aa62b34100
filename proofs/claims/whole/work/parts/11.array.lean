/-! The arrays' instructions -/
theorem xj_upd_v {E : Nat → Nat} {b0 : Nat} {f : Nat → Value} {j : Nat} {w : Value} : updV (fun q => xj_v E b0 (f q)) j (xj_v E b0 w) = fun q => xj_v E b0 (updV f j w q) := by
  funext q
  unfold updV
  split <;> rfl
section
variable {p : Program} {l : Launch} {e : Env} {R : Room} {s : State} {m : MethodId} {args : Array Value} {below : List Frame} {meth : Method} {c : Code} {H : Heap} {locs : List Loc} {cells slots : Nat} {Q : State → Prop} {cc : ByteArray} {pc : Nat} {ls : Array Slot} {E : Nat → Nat} {b0 : Nat} {D : va_G} {o : Nat}
theorem xj_arr_at {M : xj_M} (hR : xj_rep D E b0 s M H) {a k n : Nat} {f : Nat → Value} (h : xj_arr M a = some (k, n, f)) : ∃ cA, xj_ak s k cA ∧ H[xj_a E b0 a]? = some (arrV cA n (fun j => xj_v E b0 (f j))) := by
  obtain ⟨ha, hc⟩ := xj_arr_inv h
  obtain ⟨cA, h1, h2⟩ := hR.2 _ _ hc
  exact ⟨cA, h1, by rw [xj_a_eq ha]; exact h2⟩
theorem xj_arr_put {M : xj_M} (hG : xj_G D E b0 s M H locs) {a k n j : Nat} {f : Nat → Value} {w : Value} (h : xj_arr M a = some (k, n, f)) {cA : ClassId} (hA : xj_ak s k cA) {H1 : Heap} (e1 : H1[xj_a E b0 a]? = some ((arrV cA n (fun j => xj_v E b0 (f j))).setSlot j (xj_v E b0 w))) (e2 : H1.size = H.size) (e3 : ∀ q, q ≠ xj_a E b0 a → H1[q]? = H[q]?) {jj : Nat} :
    xj_G D E b0 s (xj_put M a (.inr (.inl (k, n, updV f j w)))) H1 (locs ++ [⟨xj_a E b0 a, jj⟩]) := by
  obtain ⟨ha, hc⟩ := xj_arr_inv h
  refine hG.put ha hc e2 e3 ⟨cA, hA, ?_⟩
  rw [e1, arrV_store, xj_upd_v]
theorem xj_iald_ok (hx : p.tables.exec = Jvm.exec) (hb : c.code = cc) {M M' : xj_M} (hR : xj_rep D E b0 s M H) {st st' : List Value} (h : xj_al 3 st M = some (st', M')) (hd : decode cc pc = .ok (.iaload, 1))
    (k : W p l e R s m args below meth c H locs cells slots Q (F0 m (pc + 1) ls (xj_s E b0 st'))) : W p l e R s m args below meth c H locs cells slots Q (F0 m pc ls (xj_s E b0 st)) := by
  obtain ⟨i, a, n, f, r, rfl, hf, hin, rfl, rfl⟩ := xj_al_inv h
  obtain ⟨cA, hA, hc⟩ := xj_arr_at hR hf
  have hlt : i.toNatClampNeg < n := Nat.not_le.mp fun q => hin (Or.inr q)
  exact W.iald (v := xj_v E b0 (f i.toNatClampNeg)) hx hb hc (hA.1 n _) (fun q => by cases q) (by rw [arrV_size]; exact hin) (by rw [arrV_read _ _ hlt]) rfl rfl hd k
theorem xj_lald_ok (hx : p.tables.exec = Jvm.exec) (hb : c.code = cc) {M M' : xj_M} (hR : xj_rep D E b0 s M H) {st st' : List Value} (h : xj_al 4 st M = some (st', M')) (hd : decode cc pc = .ok (.laload, 1))
    (k : W p l e R s m args below meth c H locs cells slots Q (F0 m (pc + 1) ls (xj_s E b0 st'))) : W p l e R s m args below meth c H locs cells slots Q (F0 m pc ls (xj_s E b0 st)) := by
  obtain ⟨i, a, n, f, r, rfl, hf, hin, rfl, rfl⟩ := xj_al_inv h
  obtain ⟨cA, hA, hc⟩ := xj_arr_at hR hf
  have hlt : i.toNatClampNeg < n := Nat.not_le.mp fun q => hin (Or.inr q)
  exact W.lald (v := xj_v E b0 (f i.toNatClampNeg)) hx hb hc (hA.1 n _) (fun q => by cases q) (by rw [arrV_size]; exact hin) (by rw [arrV_read _ _ hlt]) rfl rfl hd k
theorem xj_cald_ok (hx : p.tables.exec = Jvm.exec) (hb : c.code = cc) {M M' : xj_M} (hR : xj_rep D E b0 s M H) {st st' : List Value} (h : xj_al 2 st M = some (st', M')) (hd : decode cc pc = .ok (.caload, 1))
    (k : W p l e R s m args below meth c H locs cells slots Q (F0 m (pc + 1) ls (xj_s E b0 st'))) : W p l e R s m args below meth c H locs cells slots Q (F0 m pc ls (xj_s E b0 st)) := by
  obtain ⟨i, a, n, f, r, rfl, hf, hin, rfl, rfl⟩ := xj_al_inv h
  obtain ⟨cA, hA, hc⟩ := xj_arr_at hR hf
  have hlt : i.toNatClampNeg < n := Nat.not_le.mp fun q => hin (Or.inr q)
  exact W.cald (v := xj_v E b0 (f i.toNatClampNeg)) hx hb hc (hA.1 n _) (fun q => by cases q) (by rw [arrV_size]; exact hin) (by rw [arrV_read _ _ hlt]) rfl rfl hd k
theorem xj_bald_ok (hx : p.tables.exec = Jvm.exec) (hb : c.code = cc) {M M' : xj_M} (hR : xj_rep D E b0 s M H) {st st' : List Value} (h : xj_al 1 st M = some (st', M')) (hd : decode cc pc = .ok (.baload, 1))
    (k : W p l e R s m args below meth c H locs cells slots Q (F0 m (pc + 1) ls (xj_s E b0 st'))) : W p l e R s m args below meth c H locs cells slots Q (F0 m pc ls (xj_s E b0 st)) := by
  obtain ⟨i, a, n, f, r, rfl, hf, hin, rfl, rfl⟩ := xj_al_inv h
  obtain ⟨cA, hA, hc⟩ := xj_arr_at hR hf
  have hlt : i.toNatClampNeg < n := Nat.not_le.mp fun q => hin (Or.inr q)
  exact W.bald (v := xj_v E b0 (f i.toNatClampNeg)) hx hb hc (hA.1 n _) (fun q => by cases q) (by rw [arrV_size]; exact hin) (by rw [arrV_read _ _ hlt]) rfl rfl hd k
theorem xj_zald_ok (hx : p.tables.exec = Jvm.exec) (hb : c.code = cc) {M M' : xj_M} (hR : xj_rep D E b0 s M H) {st st' : List Value} (h : xj_al 0 st M = some (st', M')) (hd : decode cc pc = .ok (.baload, 1))
    (k : W p l e R s m args below meth c H locs cells slots Q (F0 m (pc + 1) ls (xj_s E b0 st'))) : W p l e R s m args below meth c H locs cells slots Q (F0 m pc ls (xj_s E b0 st)) := by
  obtain ⟨i, a, n, f, r, rfl, hf, hin, rfl, rfl⟩ := xj_al_inv h
  obtain ⟨cA, hA, hc⟩ := xj_arr_at hR hf
  have hlt : i.toNatClampNeg < n := Nat.not_le.mp fun q => hin (Or.inr q)
  exact W.zald (v := xj_v E b0 (f i.toNatClampNeg)) hx hb hc (hA.1 n _) (fun q => by cases q) (by rw [arrV_size]; exact hin) (by rw [arrV_read _ _ hlt]) rfl rfl hd k
theorem xj_aald_ok (hx : p.tables.exec = Jvm.exec) (hb : c.code = cc) {M M' : xj_M} (hR : xj_rep D E b0 s M H) {st st' : List Value} (h : xj_aq st M = some (st', M')) (hd : decode cc pc = .ok (.aaload, 1))
    (k : W p l e R s m args below meth c H locs cells slots Q (F0 m (pc + 1) ls (xj_s E b0 st'))) : W p l e R s m args below meth c H locs cells slots Q (F0 m pc ls (xj_s E b0 st)) := by
  obtain ⟨i, a, kk, n, f, r, rfl, hf, hin, rfl, rfl⟩ := xj_aq_inv h
  obtain ⟨cA, hA, hc⟩ := xj_arr_at hR hf
  have hlt : i.toNatClampNeg < n := Nat.not_le.mp fun q => hin (Or.inr q)
  exact W.aald (v := xj_v E b0 (f i.toNatClampNeg)) (ty := xj_kty (kk + 5)) hx hb hc (hA.1 n _) rfl (fun q => by cases q) (by rw [arrV_size]; exact hin) (by rw [arrV_read _ _ hlt]) rfl rfl hd k
def xj_ln (st : List Value) (M : xj_M) : Option (List Value × xj_M) := match st with
  | .ref a :: r => match xj_arr M a with
    | some x => some (.int (Int32.ofNat x.2.1) :: r, M)
    | none => none
  | _ => none
theorem xj_ln_ok (hx : p.tables.exec = Jvm.exec) (hb : c.code = cc) {M M' : xj_M} (hR : xj_rep D E b0 s M H) {st st' : List Value} (h : xj_ln st M = some (st', M')) (hd : decode cc pc = .ok (.arraylength, 1))
    (k : W p l e R s m args below meth c H locs cells slots Q (F0 m (pc + 1) ls (xj_s E b0 st'))) : W p l e R s m args below meth c H locs cells slots Q (F0 m pc ls (xj_s E b0 st)) := by
  unfold xj_ln at h
  split at h
  · split at h
    · rename_i x hf
      obtain ⟨kk, n, f⟩ := x
      cases h
      obtain ⟨cA, hA, hc⟩ := xj_arr_at hR hf
      exact W.alen (n := Int32.ofNat n) hx hb hc (hA.1 n _) (by rw [arrV_size] <;> rfl) rfl rfl hd k
    · cases h
  · cases h
theorem xj_iast_ok (hx : p.tables.exec = Jvm.exec) (hb : c.code = cc) {M M' : xj_M} (hG : xj_G D E b0 s M H locs) {st st' : List Value} (h : xj_as 3 xj_oki st M = some (st', M')) (hd : decode cc pc = .ok (.iastore, 1))
    (k : ∀ (H1 : Heap) (locs1 : List Loc), xj_G D E b0 s M' H1 locs1 → W p l e R s m args below meth c H1 locs1 cells slots Q (F0 m (pc + 1) ls (xj_s E b0 st'))) : W p l e R s m args below meth c H locs cells slots Q (F0 m pc ls (xj_s E b0 st)) := by
  obtain ⟨v, w, i, a, n, f, rfl, hv, hf, hin, rfl⟩ := xj_as_inv h
  unfold xj_oki at hv
  split at hv
  · rename_i x
    cases hv
    obtain ⟨cA, hA, hc⟩ := xj_arr_at hG.1 hf
    exact W.iast hx hb hc (hA.1 n _) (fun q => by cases q) (by rw [arrV_size]; exact hin) rfl rfl hd (fun H1 e1 e2 e3 => k H1 _ (xj_arr_put hG hf hA (w := .int x) e1 e2 e3))
  · cases hv
theorem xj_last_ok (hx : p.tables.exec = Jvm.exec) (hb : c.code = cc) {M M' : xj_M} (hG : xj_G D E b0 s M H locs) {st st' : List Value} (h : xj_as 4 xj_okl st M = some (st', M')) (hd : decode cc pc = .ok (.lastore, 1))
    (k : ∀ (H1 : Heap) (locs1 : List Loc), xj_G D E b0 s M' H1 locs1 → W p l e R s m args below meth c H1 locs1 cells slots Q (F0 m (pc + 1) ls (xj_s E b0 st'))) : W p l e R s m args below meth c H locs cells slots Q (F0 m pc ls (xj_s E b0 st)) := by
  obtain ⟨v, w, i, a, n, f, rfl, hv, hf, hin, rfl⟩ := xj_as_inv h
  unfold xj_okl at hv
  split at hv
  · rename_i x
    cases hv
    obtain ⟨cA, hA, hc⟩ := xj_arr_at hG.1 hf
    exact W.last hx hb hc (hA.1 n _) (fun q => by cases q) (by rw [arrV_size]; exact hin) rfl rfl hd (fun H1 e1 e2 e3 => k H1 _ (xj_arr_put hG hf hA (w := .long x) e1 e2 e3))
  · cases hv
theorem xj_cast_ok (hx : p.tables.exec = Jvm.exec) (hb : c.code = cc) {M M' : xj_M} (hG : xj_G D E b0 s M H locs) {st st' : List Value} (h : xj_as 2 (xj_okn .char) st M = some (st', M')) (hd : decode cc pc = .ok (.castore, 1))
    (k : ∀ (H1 : Heap) (locs1 : List Loc), xj_G D E b0 s M' H1 locs1 → W p l e R s m args below meth c H1 locs1 cells slots Q (F0 m (pc + 1) ls (xj_s E b0 st'))) : W p l e R s m args below meth c H locs cells slots Q (F0 m pc ls (xj_s E b0 st)) := by
  obtain ⟨v, w, i, a, n, f, rfl, hv, hf, hin, rfl⟩ := xj_as_inv h
  unfold xj_okn at hv
  split at hv
  · rename_i x
    cases hv
    obtain ⟨cA, hA, hc⟩ := xj_arr_at hG.1 hf
    exact W.cast hx hb hc (hA.1 n _) (fun q => by cases q) (by rw [arrV_size]; exact hin) rfl rfl hd (fun H1 e1 e2 e3 => k H1 _ (xj_arr_put hG hf hA (w := narrow .char (.int x)) e1 e2 e3))
  · cases hv
theorem xj_bast_ok (hx : p.tables.exec = Jvm.exec) (hb : c.code = cc) {M M' : xj_M} (hG : xj_G D E b0 s M H locs) {st st' : List Value} (h : xj_as 1 (xj_okn .byte) st M = some (st', M')) (hd : decode cc pc = .ok (.bastore, 1))
    (k : ∀ (H1 : Heap) (locs1 : List Loc), xj_G D E b0 s M' H1 locs1 → W p l e R s m args below meth c H1 locs1 cells slots Q (F0 m (pc + 1) ls (xj_s E b0 st'))) : W p l e R s m args below meth c H locs cells slots Q (F0 m pc ls (xj_s E b0 st)) := by
  obtain ⟨v, w, i, a, n, f, rfl, hv, hf, hin, rfl⟩ := xj_as_inv h
  unfold xj_okn at hv
  split at hv
  · rename_i x
    cases hv
    obtain ⟨cA, hA, hc⟩ := xj_arr_at hG.1 hf
    exact W.bast hx hb hc (hA.1 n _) (fun q => by cases q) (by rw [arrV_size]; exact hin) rfl rfl hd (fun H1 e1 e2 e3 => k H1 _ (xj_arr_put hG hf hA (w := narrow .byte (.int x)) e1 e2 e3))
  · cases hv
theorem xj_zast_ok (hx : p.tables.exec = Jvm.exec) (hb : c.code = cc) {M M' : xj_M} (hG : xj_G D E b0 s M H locs) {st st' : List Value} (h : xj_as 0 (xj_okn .boolean) st M = some (st', M')) (hd : decode cc pc = .ok (.bastore, 1))
    (k : ∀ (H1 : Heap) (locs1 : List Loc), xj_G D E b0 s M' H1 locs1 → W p l e R s m args below meth c H1 locs1 cells slots Q (F0 m (pc + 1) ls (xj_s E b0 st'))) : W p l e R s m args below meth c H locs cells slots Q (F0 m pc ls (xj_s E b0 st)) := by
  obtain ⟨v, w, i, a, n, f, rfl, hv, hf, hin, rfl⟩ := xj_as_inv h
  unfold xj_okn at hv
  split at hv
  · rename_i x
    cases hv
    obtain ⟨cA, hA, hc⟩ := xj_arr_at hG.1 hf
    exact W.zast hx hb hc (hA.1 n _) (fun q => by cases q) (by rw [arrV_size]; exact hin) rfl rfl hd (fun H1 e1 e2 e3 => k H1 _ (xj_arr_put hG hf hA (w := narrow .boolean (.int x)) e1 e2 e3))
  · cases hv
theorem xj_aast_ok (hx : p.tables.exec = Jvm.exec) (hb : c.code = cc) (hK : xj_kn D s) {M M' : xj_M} (hG : xj_G D E b0 s M H locs) {st st' : List Value} (h : xj_aa st M = some (st', M')) (hd : decode cc pc = .ok (.aastore, 1))
    (k : ∀ (H1 : Heap) (locs1 : List Loc), xj_G D E b0 s M' H1 locs1 → W p l e R s m args below meth c H1 locs1 cells slots Q (F0 m (pc + 1) ls (xj_s E b0 st'))) : W p l e R s m args below meth c H locs cells slots Q (F0 m pc ls (xj_s E b0 st)) := by
  rcases xj_aa_inv h with ⟨v, i, a, ci, n, fs, f, rfl, hv, hf, hin, rfl⟩ | ⟨i, a, kk, n, f, rfl, hf, hin, rfl⟩
  · obtain ⟨cA, hA, hc⟩ := xj_arr_at hG.1 hf
    have hlt : i.toNatClampNeg < n := Nat.not_le.mp fun q => hin (Or.inr q)
    have h0 : ¬ i < 0 := fun q => hin (Or.inl q)
    obtain ⟨hva, hvc⟩ := xj_obj_inv hv
    obtain ⟨r, k1, k2, cellV, g1, g2, g3, -⟩ := hG.1.2 _ _ hvc
    rw [← xj_a_eq (E := E) (b0 := b0) hva] at g1
    have hcls := (hK ci r k1).2
    have hR2 : va_RA s cA (.object r.1) := by
      have := hA.2
      unfold xj_kty at this
      simp only at this k1
      rw [k1] at this
      exact this
    obtain ⟨kA, comp, q1, q2, q3, -⟩ := hR2
    have hcomp : comp = D.1 ci := Option.some.inj (q3.symm.trans hcls.1)
    subst hcomp
    obtain ⟨kC, hkC, -⟩ := hcls.2
    exact W.aast hx hb hc (fun q h => by cases h) (fun h => by cases h) q1 q2 rfl hkC ⟨h0, by rw [arrV_size]; exact hlt⟩ g1 (fun q h => by rw [g3] at h; cases h) (by rw [g2]; exact hkC) (by rw [g2]; exact va_assign hcls) rfl rfl hd (fun H1 e1 e2 e3 => k H1 _ (xj_arr_put hG hf hA (w := .ref v) e1 e2 e3))
  · obtain ⟨cA, hA, hc⟩ := xj_arr_at hG.1 hf
    exact va_WaastN (C := match vwCl[kk]? with | some r => r.1 | none => "") hx hb hc (hA.1 n _) (fun h => by cases h) (by rw [arrV_size]; exact hin) rfl rfl hd (fun H1 e1 e2 e3 => k H1 _ (xj_arr_put hG hf hA (w := .null) e1 e2 e3))
end
