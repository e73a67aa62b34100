section
variable {call : xj_F} {ac : xFa} {X : xj_X} {row : xj_mR} {S : Option (List xa)} {h : xha} {pc len : Nat} {q : xo} {lv' st' : List xa} {A : xme} {lv : xj_L} {st : List Value} {M : xj_M} {N : xNa}
theorem xo_of_inv (hq : xo_of row pc = some q) : ∃ ins len, decode row.2.2.1 pc = .ok (ins, len) ∧ xj_lenok ins len = true ∧ xo_ins row pc len ins = some q := by
  unfold xo_of at hq
  split at hq
  · rename_i ins len hd
    split at hq
    · rename_i hl
      exact ⟨ins, len, hd, hl, hq⟩
    · cases hq
  · cases hq
end
/-- a method's record is that of its row -/
def xrok (row : xj_mR) (T : xj_H) (m : xmt) : Prop := m.2.1 = row.2.2.2.1 ∧ m.1 ≤ 18 ∧ xhr row T m.2.2.1 ∧ ∀ r ∈ m.2.2.2, xo_of row r.1 = some r.2
theorem xat_ok : ∀ (l : List (Nat × xo)) (pc : Nat) (q : xo), xat l pc = some q → (pc, q) ∈ l := by
  intro l
  induction l with
  | nil => intro pc q h; cases h
  | cons r l ih =>
    intro pc q h
    have h : xif (Nat.beq r.1 pc) (some r.2) (xat l pc) = some q := h
    cases c : Nat.beq r.1 pc with
    | true =>
      rw [c, xif_t] at h
      cases h
      have := xbeq c
      obtain ⟨r1, r2⟩ := r
      simp only at this
      subst this
      exact List.mem_cons_self
    | false =>
      rw [c, xif_f] at h
      exact List.mem_cons_of_mem _ (ih pc q h)
def xKr (K : xKa) (K' : xj_K) : Prop := K.1 = K'.1 ∧ xlr K.2.1 K'.2.1 ∧ xvs K.2.2.1 K'.2.2.1 ∧ xmr K.2.2.2 K'.2.2.2
section
variable {call : xj_F} {ac : xFa} {X : xj_X} {row : xj_mR} {S : Option (List xa)} {m : xmt}
theorem xone_ok (hcall : xcok call ac) (hS : xsr S X.2.2) (hm : xrok row X.1 m) {K : xKa} {K' : xj_K} {N : xNa} (hK : xKr K K') (hN : xone ac X.2.1 S m K = some N) : ∃ N', xj_step call X row K' = some N' ∧ xNr N N' := by
  obtain ⟨pc, lv', st', A⟩ := K
  obtain ⟨pc', lv, st, M⟩ := K'
  obtain ⟨e, h1, h2, h3⟩ := hK
  simp only at e h1 h2 h3
  subst e
  simp only [xone] at hN
  split at hN
  · rename_i q hq
    obtain ⟨ins, len, d1, d2, d3⟩ := xo_of_inv (hm.2.2.2 _ (xat_ok _ _ _ hq))
    exact xst_ok hcall hS hm.2.2.1 d1 d2 d3 h1 h2 h3 hN
  · cases hN
theorem xrun_s (d k : Nat) (K : xKa) : xrun ac d S m (k + 1) K = match xrun ac d S m k K with | some (.inl K2) => xrun ac d S m k K2 | r => r := rfl
theorem xrun_ok (hcall : xcok call ac) (hS : xsr S X.2.2) (hm : xrok row X.1 m) : ∀ (k : Nat) (K : xKa) (K' : xj_K) (N : xNa), xKr K K' → xrun ac X.2.1 S m k K = some N →
    ∃ z, z ≤ 2 ^ k ∧ match N with
      | .inl K2 => ∃ K2', xKr K2 K2' ∧ ∀ n, xj_loop call X row (n + z) K' = xj_loop call X row n K2'
      | .inr r => ∃ r' M', xrr r.1 r' ∧ xmr r.2 M' ∧ ∀ n, xj_loop call X row (n + z) K' = some (r', M') := by
  intro k
  induction k with
  | zero =>
    intro K K' N hK hN
    obtain ⟨N', h1, h2⟩ := xone_ok hcall hS hm hK hN
    refine ⟨1, Nat.le_refl _, ?_⟩
    cases N with
    | inl K2 =>
      obtain ⟨lv, st, M, rfl, g1, g2, g3⟩ := h2
      refine ⟨(K2.1, lv, st, M), ⟨rfl, g1, g2, g3⟩, fun n => ?_⟩
      show (match xj_step call X row K' with | some (.inl K2) => xj_loop call X row n K2 | some (.inr r) => some r | none => none) = _
      rw [h1]
    | inr r =>
      obtain ⟨r', M', rfl, g1, g2⟩ := h2
      refine ⟨r', M', g1, g2, fun n => ?_⟩
      show (match xj_step call X row K' with | some (.inl K2) => xj_loop call X row n K2 | some (.inr r) => some r | none => none) = _
      rw [h1]
  | succ k ih =>
    intro K K' N hK hN
    rw [xrun_s] at hN
    have e2 : (2 : Nat) ^ (k + 1) = 2 ^ k + 2 ^ k := by rw [Nat.pow_succ]; omega
    cases hr : xrun ac X.2.1 S m k K with
    | none => rw [hr] at hN; cases hN
    | some N1 =>
      rw [hr] at hN
      obtain ⟨z, hz, h1⟩ := ih K K' N1 hK hr
      cases N1 with
      | inl K2 =>
        simp only at hN h1
        obtain ⟨K2', h2, h3⟩ := h1
        obtain ⟨z2, hz2, h4⟩ := ih K2 K2' N h2 hN
        refine ⟨z2 + z, by omega, ?_⟩
        cases N with
        | inl K3 =>
          obtain ⟨K3', g1, g2⟩ := h4
          exact ⟨K3', g1, fun n => by rw [← Nat.add_assoc, h3, g2]⟩
        | inr r =>
          obtain ⟨r', M', g1, g2, g3⟩ := h4
          exact ⟨r', M', g1, g2, fun n => by rw [← Nat.add_assoc, h3, g3]⟩
      | inr r =>
        simp only at hN
        cases hN
        exact ⟨z, by omega, h1⟩
end
/-- the records are right -/
def xpok (P : Nat → Option xmt) : Prop := ∀ j m, P j = some m → ∃ row, xj_row j = some row ∧ xrok row (xj_tab j) m
theorem lg_sl_sum : ∀ vs : List Value, (∀ v ∈ vs, v.category = 1 ∨ v.category = 2) → (lg_sl vs).length = (vs.map fun v => v.category).sum := by
  intro vs
  induction vs with
  | nil => intro _; rfl
  | cons v vs ih =>
    intro h
    have := ih (fun w hw => h w (List.mem_cons_of_mem _ hw))
    simp only [lg_sl, List.flatMap_cons, List.length_append, List.map_cons, List.sum_cons] at this ⊢
    rw [this]
    rcases h v List.mem_cons_self with e | e <;> rw [e] <;> simp
theorem xvs_cat : ∀ (as : List xa) (vs : List Value), xvs as vs → ∀ v ∈ vs, v.category = 1 ∨ v.category = 2 := by
  intro as
  induction as with
  | nil => intro vs h v hv; rw [xvs_n h] at hv; cases hv
  | cons a as ih =>
    intro vs h v hv
    obtain ⟨w, ws, rfl, hw, hws⟩ := xvs_c h
    rcases List.mem_cons.mp hv with rfl | hv
    · rw [xv_cat hw]; split
      · exact Or.inr rfl
      · exact Or.inl rfl
    · exact ih ws hws v hv
theorem xcall_s (P : Nat → Option xmt) (d j : Nat) (as : List xa) (A : xme) : xcall P (d + 1) j as A = match P j with
    | some m => xif (Nat.ble (xsum as) m.2.1) (match xrun (xcall P d) d none m m.1 (0, xl_args as, [], A) with | some (.inr r) => some r | _ => none) none
    | none => none := rfl
/-- WHATEVER THE ABSTRACT MACHINE ANSWERS, THE INTERPRETER ANSWERS -/
theorem xcall_ok {P : Nat → Option xmt} (hP : xpok P) {n : Nat} (hn : 262144 ≤ n) : ∀ d, xcok (xj_call n d) (xcall P d) := by
  intro d
  induction d with
  | zero => intro j as A r B vs M h; cases h
  | succ d ih =>
    intro j as A r B vs M h hv hA
    rw [xcall_s] at h
    split at h
    · rename_i m hm
      obtain ⟨row, r1, r2⟩ := hP j m hm
      obtain ⟨c, h⟩ := xif_some h
      have c := xble c
      split at h
      · rename_i q hq
        cases h
        have hS : xsr none ((xj_tab j, d, (none : Option (List Int32))) : xj_X).2.2 := fun bx e => by cases e
        obtain ⟨z, hz, h1⟩ := xrun_ok (X := (xj_tab j, d, none)) ih hS r2 m.1 _ (0, lv_args 0 vs, [], M) _ ⟨rfl, xlr_args hv, trivial, hA⟩ hq
        obtain ⟨r', M', g1, g2, g3⟩ := h1
        refine ⟨r', M', ?_, g1, g2⟩
        have hz2 : z ≤ 262144 := Nat.le_trans hz (Nat.pow_le_pow_right (by decide) r2.2.1)
        have hlen : (lg_sl vs).length ≤ row.2.2.2.1 := by
          rw [lg_sl_sum vs (xvs_cat _ _ hv), xsum_ok _ _ hv, ← r2.1]; exact c
        unfold xj_call
        rw [r1]
        simp only
        rw [if_pos hlen]
        have := g3 (n - z)
        rw [show n - z + z = n by omega] at this
        exact this
      · cases h
    · cases h
