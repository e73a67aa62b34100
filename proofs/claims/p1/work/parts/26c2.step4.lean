/-- a method's record is that of its row -/
noncomputable def xrok (row : xj_mR) (T : xj_H) (m : xmt) : Prop := m.2.1 = row.2.2.2.1 ∧ m.1 ≤ 18 ∧ xhr row T m.2.2.1 ∧ ∀ r ∈ m.2.2.2, xo_of row r.1 = some r.2
theorem xat_ok : ∀ (l : List (Nat × xo)) (pc : Nat) (q : xo), xat l pc = some q → (pc, q) ∈ l := by
  intro l
  induction l with
  | nil => intro pc q h; cases h
  | cons r l ih =>
    intro pc q h
    have h : xif (Nat.beq r.1 pc) (some r.2) (xat l pc) = some q := h
    cases c : Nat.beq r.1 pc with
    | true =>
      rw [c, xif_t] at h
      cases h
      have := xbeq c
      obtain ⟨r1, r2⟩ := r
      simp only at this
      subst this
      exact List.mem_cons_self
    | false =>
      rw [c, xif_f] at h
      exact List.mem_cons_of_mem _ (ih pc q h)
noncomputable def xKr (K : xKa) (K' : xj_K) : Prop := K.1 = K'.1 ∧ xlr K.2.1 K'.2.1 ∧ xvs K.2.2.1 K'.2.2.1 ∧ xmr K.2.2.2 K'.2.2.2
