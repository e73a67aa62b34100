/-! A function that answers, and of what -/
def xok {α : Type} (o : Option α) (P : α → Prop) : Prop := ∃ r, o = some r ∧ P r
theorem xok_bind {α β : Type} {o : Option α} {k : α → Option β} {P : β → Prop} : xok (o.bind k) P ↔ xok o (fun v => xok (k v) P) := by
  constructor
  · rintro ⟨r, h, hp⟩
    obtain ⟨v, h1, h2⟩ := xbnd h
    exact ⟨v, h1, r, h2, hp⟩
  · rintro ⟨v, h1, r, h2, hp⟩
    refine ⟨r, ?_, hp⟩
    rw [h1]
    exact h2
theorem xok_some {α : Type} {r : α} {P : α → Prop} : xok (some r) P ↔ P r := by
  constructor
  · rintro ⟨s, h, hp⟩
    cases h
    exact hp
  · intro h
    exact ⟨r, rfl, h⟩
theorem xok_eq {α : Type} {o : Option α} {r : α} {P : α → Prop} (h : o = some r) (hp : P r) : xok o P := ⟨r, h, hp⟩
theorem xok_eqb {α β : Type} {o : Option α} {r : α} {k : α → Option β} {P : β → Prop} (h : o = some r) (hp : xok (k r) P) : xok (o.bind k) P := by
  rw [h]
  exact hp
theorem xok_ite {α : Type} {c : Prop} [Decidable c] {a b : Option α} {P : α → Prop} (h1 : c → xok a P) (h2 : ¬ c → xok b P) : xok (if c then a else b) P := by
  by_cases h : c
  · rw [if_pos h]; exact h1 h
  · rw [if_neg h]; exact h2 h
theorem xok_mono {α : Type} {o : Option α} {P Q : α → Prop} (h : xok o P) (hq : ∀ r, P r → Q r) : xok o Q := by
  obtain ⟨r, h1, h2⟩ := h
  exact ⟨r, h1, hq r h2⟩
theorem xok_call {α β : Type} {o : Option α} {k : α → Option β} {P : α → Prop} {Q : β → Prop} (h : xok o P) (hk : ∀ r, P r → xok (k r) Q) : xok (o.bind k) Q := by
  obtain ⟨r, h1, h2⟩ := h
  rw [h1]
  exact hk r h2
