/-! The methods that are run, as steps of the abstract machine (written by mk_abs.py), checked against their code -/
noncomputable def xhchk (row : xj_mR) (T : xj_H) (h : xha) : Bool := match h with
  | none => T.isNone
  | some t => (match T with
    | none => false
    | some u => decide (t.1 = u.1) && decide (t.2.1 = u.2.1) && decide (t.2.2.2.2 = u.2.2.2.2) && decide (t.2.2.2.1 < row.2.2.2.1) && (match decode row.2.2.1 u.2.2.1 with
      | .ok (.astore_n i, 1) => decide ((i : Nat) = t.2.2.2.1) && decide (t.2.2.1 = u.2.2.1 + 1)
      | .ok (.astore i, 2) => decide (i = t.2.2.2.1) && decide (t.2.2.1 = u.2.2.1 + 2)
      | _ => false))
noncomputable def xmchk (row : xj_mR) (T : xj_H) (m : xmt) : Bool := decide (m.2.1 = row.2.2.2.1) && decide (m.1 ≤ 18) && xhchk row T m.2.2.1 && m.2.2.2.all (fun r => decide (xo_of row r.1 = some r.2))
noncomputable def xchk (r : Nat × xmt) : Bool := match xj_row r.1 with
  | some row => xmchk row (xj_tab r.1) r.2
  | none => false
theorem xhchk_ok {row : xj_mR} {T : xj_H} {h : xha} (hc : xhchk row T h = true) : xhr row T h := by
  unfold xhchk at hc
  cases h with
  | none => exact Option.isNone_iff_eq_none.mp hc
  | some t =>
    cases T with
    | none => cases hc
    | some u =>
      simp only [Bool.and_eq_true, decide_eq_true_eq] at hc
      obtain ⟨⟨⟨⟨h1, h2⟩, h3⟩, h4⟩, h5⟩ := hc
      refine ⟨u, rfl, h1, h2, h3, h4, ?_⟩
      split at h5
      · rename_i i hd
        simp only [Bool.and_eq_true, decide_eq_true_eq] at h5
        exact Or.inl ⟨i, h5.1, hd, h5.2⟩
      · rename_i i hd
        simp only [Bool.and_eq_true, decide_eq_true_eq] at h5
        obtain ⟨h6, h7⟩ := h5
        subst h6
        exact Or.inr ⟨hd, h7⟩
      · cases h5
theorem xmchk_ok {row : xj_mR} {T : xj_H} {m : xmt} (hc : xmchk row T m = true) : xrok row T m := by
  unfold xmchk at hc
  simp only [Bool.and_eq_true] at hc
  obtain ⟨⟨⟨h1, h2⟩, h3⟩, h4⟩ := hc
  exact ⟨of_decide_eq_true h1, of_decide_eq_true h2, xhchk_ok h3, fun r hr => of_decide_eq_true (List.all_eq_true.mp h4 r hr)⟩
noncomputable def xfind (l : List (Nat × xmt)) (j : Nat) : Option xmt := List.rec (motive := fun _ => Option xmt) none (fun r _ ih => xif (Nat.beq r.1 j) (some r.2) ih) l
theorem xfind_ok : ∀ (l : List (Nat × xmt)) (j : Nat) (m : xmt), xfind l j = some m → (j, m) ∈ l := by
  intro l
  induction l with
  | nil => intro j m h; cases h
  | cons r l ih =>
    intro j m h
    have h : xif (Nat.beq r.1 j) (some r.2) (xfind l j) = some m := h
    cases c : Nat.beq r.1 j with
    | true =>
      rw [c, xif_t] at h
      cases h
      have := xbeq c
      obtain ⟨r1, r2⟩ := r
      simp only at this
      subst this
      exact List.mem_cons_self
    | false =>
      rw [c, xif_f] at h
      exact List.mem_cons_of_mem _ (ih j m h)

