theorem xj_call_s {n d j : Nat} {vs : List Value} {M : xj_M} {row : xj_mR} (r1 : xj_row j = some row) (hlen : (lg_sl vs).length ≤ row.2.2.2.1) : xj_call n (d + 1) j vs M = xj_loop (xj_call n d) (xj_tab j, d, none) row n (0, lv_args 0 vs, [], M) := by
  rw [xj_call, r1]
  simp only
  rw [if_pos hlen]
theorem xsome_ne {α : Type} {q : α} (h : (none : Option α) = some q) : False := nomatch h
theorem xsome_in {α : Type} {p q : α} (h : some p = some q) : p = q := Option.some.inj h
theorem xcall_in {P : Nat → Option xmt} {d j : Nat} {as : List xa} {A B : xme} {r : xRa} (h : xcall P (d + 1) j as A = some (r, B)) : ∃ m, P j = some m ∧ xsum as ≤ m.2.1 ∧ xrun (xcall P d) d none m m.1 (0, xl_args as, [], A) = some (.inr (r, B)) := by
  rw [xcall_s] at h
  cases hm : P j with
  | none => rw [hm] at h; exact (xsome_ne h).elim
  | some m =>
    rw [hm] at h
    cases c : Nat.ble (xsum as) m.2.1 with
    | false =>
      have e : ∀ Y : Option (xRa × xme), xif (Nat.ble (xsum as) m.2.1) Y none = none := fun Y => by rw [c]
      exact (xsome_ne ((e _).symm.trans h)).elim
    | true =>
      have e : ∀ Y : Option (xRa × xme), xif (Nat.ble (xsum as) m.2.1) Y none = Y := fun Y => by rw [c]
      have h2 := (e _).symm.trans h
      refine ⟨m, rfl, xble c, ?_⟩
      cases hq : xrun (xcall P d) d none m m.1 (0, xl_args as, [], A) with
      | none => rw [hq] at h2; exact (xsome_ne h2).elim
      | some N =>
        rw [hq] at h2
        cases N with
        | inl K => exact (xsome_ne h2).elim
        | inr q => rw [xsome_in (p := q) h2]
