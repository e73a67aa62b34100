section
variable {call : xj_F} {ac : xFa} {X : xj_X} {row : xj_mR} {S : Option (List xa)} {m : xmt}
theorem xrun_z (d : Nat) (K : xKa) : xrun ac d S m 0 K = xone ac d S m K := rfl
theorem xrun_s (d k : Nat) (K : xKa) : xrun ac d S m (k + 1) K = match xrun ac d S m k K with | some (.inl K2) => xrun ac d S m k K2 | r => r := rfl
theorem xrun_ok (hcall : xcok call ac) (hS : xsr S X.2.2) (hm : xrok row X.1 m) : ∀ (k : Nat) (K : xKa) (K' : xj_K) (N : xNa), xKr K K' → xrun ac X.2.1 S m k K = some N →
    ∃ z, z ≤ 2 ^ k ∧ match N with
      | .inl K2 => ∃ K2', xKr K2 K2' ∧ ∀ n, xj_loop call X row (n + z) K' = xj_loop call X row n K2'
      | .inr r => ∃ r' M', xrr r.1 r' ∧ xmr r.2 M' ∧ ∀ n, xj_loop call X row (n + z) K' = some (r', M') := by
  intro k
  induction k with
  | zero =>
    intro K K' N hK hN
    rw [xrun_z] at hN
    have h12 : ∃ N', xj_step call X row K' = some N' ∧ xNr N N' := by
      obtain ⟨pc, lv', st', A⟩ := K
      obtain ⟨pc', lv, st, M⟩ := K'
      obtain ⟨e, h1, h2, h3⟩ := hK
      have e : pc = pc' := e
      subst e
      exact xone_ok hcall hS hm (pc := pc) (lv' := lv') (st' := st') (A := A) (lv := lv) (st := st) (M := M) (N := N) h1 h2 h3 hN
    obtain ⟨N', h1, h2⟩ := h12
    refine ⟨1, Nat.le_refl _, ?_⟩
    cases N with
    | inl K2 =>
      obtain ⟨lv, st, M, rfl, g1, g2, g3⟩ := h2
      refine ⟨(K2.1, lv, st, M), ⟨rfl, g1, g2, g3⟩, fun n => ?_⟩
      show (match xj_step call X row K' with | some (.inl K2) => xj_loop call X row n K2 | some (.inr r) => some r | none => none) = _
      rw [h1]
    | inr r =>
      obtain ⟨r', M', rfl, g1, g2⟩ := h2
      refine ⟨r', M', g1, g2, fun n => ?_⟩
      show (match xj_step call X row K' with | some (.inl K2) => xj_loop call X row n K2 | some (.inr r) => some r | none => none) = _
      rw [h1]
  | succ k ih =>
    intro K K' N hK hN
    rw [xrun_s] at hN
    have e2 : (2 : Nat) ^ (k + 1) = 2 ^ k + 2 ^ k := by rw [Nat.pow_succ]; omega
    cases hr : xrun ac X.2.1 S m k K with
    | none => rw [hr] at hN; cases hN
    | some N1 =>
      rw [hr] at hN
      obtain ⟨z, hz, h1⟩ := ih K K' N1 hK hr
      cases N1 with
      | inl K2 =>
        simp only at hN h1
        obtain ⟨K2', h2, h3⟩ := h1
        obtain ⟨z2, hz2, h4⟩ := ih K2 K2' N h2 hN
        refine ⟨z2 + z, by omega, ?_⟩
        cases N with
        | inl K3 =>
          obtain ⟨K3', g1, g2⟩ := h4
          exact ⟨K3', g1, fun n => by rw [← Nat.add_assoc, h3, g2]⟩
        | inr r =>
          obtain ⟨r', M', g1, g2, g3⟩ := h4
          exact ⟨r', M', g1, g2, fun n => by rw [← Nat.add_assoc, h3, g3]⟩
      | inr r =>
        simp only at hN
        cases hN
        exact ⟨z, by omega, h1⟩
end
