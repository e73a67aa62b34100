/-- the records are right -/
def xpok (P : Nat → Option xmt) : Prop := ∀ j m, P j = some m → ∃ row, xj_row j = some row ∧ xrok row (xj_tab j) m
theorem lg_sl_sum : ∀ vs : List Value, (∀ v ∈ vs, v.category = 1 ∨ v.category = 2) → (lg_sl vs).length = (vs.map fun v => v.category).sum := by
  intro vs
  induction vs with
  | nil => intro _; rfl
  | cons v vs ih =>
    intro h
    have := ih (fun w hw => h w (List.mem_cons_of_mem _ hw))
    simp only [lg_sl, List.flatMap_cons, List.length_append, List.map_cons, List.sum_cons] at this ⊢
    rw [this]
    rcases h v List.mem_cons_self with e | e <;> rw [e] <;> simp
theorem xvs_cat : ∀ (as : List xa) (vs : List Value), xvs as vs → ∀ v ∈ vs, v.category = 1 ∨ v.category = 2 := by
  intro as
  induction as with
  | nil => intro vs h v hv; rw [xvs_n h] at hv; cases hv
  | cons a as ih =>
    intro vs h v hv
    obtain ⟨w, ws, rfl, hw, hws⟩ := xvs_c h
    rcases List.mem_cons.mp hv with rfl | hv
    · rw [xv_cat hw]; split
      · exact Or.inr rfl
      · exact Or.inl rfl
    · exact ih ws hws v hv
theorem xcall_s (P : Nat → Option xmt) (d j : Nat) (as : List xa) (A : xme) : xcall P (d + 1) j as A = match P j with
    | some m => xif (Nat.ble (xsum as) m.2.1) (match xrun (xcall P d) d none m m.1 (0, xl_args as, [], A) with | some (.inr r) => some r | _ => none) none
    | none => none := rfl
