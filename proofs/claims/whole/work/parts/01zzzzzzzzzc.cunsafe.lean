/-! THE CLASS: what is bound in a rule -/
def qC1 (x : pLt) (b : Nat) : Nat := match qBh x b with
  | some y => y
  | none => b
def qCl : List pLt → Nat → Nat
  | [], b => b
  | x :: r, b => qCl r (qC1 x b)
def qCi (Ls : List pLt) : Nat → Nat → Nat
  | 0, b => b
  | k + 1, b => qCi Ls k (qCl Ls b)
theorem qSub_r (a : Nat) : qSub a a := Nat.or_self a
theorem qSub_tr {a b c : Nat} (h : qSub a b) (h' : qSub b c) : qSub a c := qSub_t.mpr (fun j hj => qSub_t.mp h' j (qSub_t.mp h j hj))
theorem qSub_as {a b : Nat} (h : qSub a b) (h' : qSub b a) : a = b := by rw [← h', Nat.or_comm]; exact h
theorem sub_or_l (a b : Nat) : qSub a (a ||| b) := qSub_t.mpr (fun j hj => by rw [Nat.testBit_or, hj, Bool.true_or])
theorem sub_or_r (a b : Nat) : qSub b (a ||| b) := qSub_t.mpr (fun j hj => by rw [Nat.testBit_or, hj, Bool.or_true])
theorem or_sub2 {a b c : Nat} (h : qSub a c) (h' : qSub b c) : qSub (a ||| b) c := qSub_t.mpr (fun j hj => by
  rw [Nat.testBit_or, Bool.or_eq_true] at hj
  rcases hj with q | q
  · exact qSub_t.mp h j q
  · exact qSub_t.mp h' j q)
theorem qC1_up {x : pLt} {b nv : Nat} (hw : wLv nv x) (hnv : nv ≤ 8) (hb : b < 2 ^ 8) : qSub b (qC1 x b) ∧ qC1 x b < 2 ^ 8 := by
  unfold qC1
  cases h : qBh x b with
  | none => exact ⟨qSub_r b, hb⟩
  | some y =>
    obtain ⟨e1, e2⟩ := qBh_some hw hnv hb h
    exact ⟨by rw [e1]; exact sub_or_l _ _, e2⟩
theorem qCl_up {nv : Nat} (hnv : nv ≤ 8) : ∀ {Ls : List pLt} {b : Nat}, (∀ y ∈ Ls, wLv nv y) → b < 2 ^ 8 → qSub b (qCl Ls b) ∧ qCl Ls b < 2 ^ 8
  | [], b, _, hb => ⟨qSub_r b, hb⟩
  | x :: r, b, hw, hb => by
    obtain ⟨a1, a2⟩ := qC1_up (hw x (List.mem_cons_self ..)) hnv hb
    obtain ⟨b1, b2⟩ := qCl_up hnv (fun y hy => hw y (List.mem_cons_of_mem _ hy)) a2
    exact ⟨qSub_tr a1 b1, b2⟩
/-- where nothing more comes -/
theorem qCl_fix {nv : Nat} (hnv : nv ≤ 8) : ∀ {Ls : List pLt} {b : Nat}, (∀ y ∈ Ls, wLv nv y) → b < 2 ^ 8 → qCl Ls b = b → ∀ y ∈ Ls, qC1 y b = b
  | [], _, _, _, _ => fun y hy => by cases hy
  | x :: r, b, hw, hb, h => by
    obtain ⟨a1, a2⟩ := qC1_up (hw x (List.mem_cons_self ..)) hnv hb
    obtain ⟨b1, b2⟩ := qCl_up hnv (Ls := r) (fun y hy => hw y (List.mem_cons_of_mem _ hy)) a2
    have h' : qCl r (qC1 x b) = b := h
    rw [h'] at b1
    have e : qC1 x b = b := qSub_as b1 a1
    intro y hy
    rcases List.mem_cons.mp hy with q | q
    · rw [q]; exact e
    · rw [e] at h'
      exact qCl_fix hnv (fun y hy => hw y (List.mem_cons_of_mem _ hy)) hb h' y q
/-- how many bits of eight -/
def pc8 (a : Nat) : Nat := ((List.range 8).filter (fun k => a.testBit k)).length
theorem pc8_le (a : Nat) : pc8 a ≤ 8 := by
  unfold pc8
  have := List.length_filter_le (fun k => a.testBit k) (List.range 8)
  rw [List.length_range] at this
  exact this
theorem filt_lt {α : Type} {p q : α → Bool} : ∀ {l : List α}, (∀ x ∈ l, p x = true → q x = true) → (l.filter p).length ≤ (l.filter q).length ∧ ((∃ x ∈ l, q x = true ∧ p x = false) → (l.filter p).length < (l.filter q).length)
  | [], _ => ⟨Nat.le_refl _, fun ⟨x, hx, _⟩ => by cases hx⟩
  | a :: l, h => by
    obtain ⟨i1, i2⟩ := filt_lt (l := l) (fun x hx => h x (List.mem_cons_of_mem _ hx))
    have ha := h a (List.mem_cons_self ..)
    cases hp : p a with
    | true =>
      rw [List.filter_cons_of_pos hp, List.filter_cons_of_pos (ha hp), List.length_cons, List.length_cons]
      refine ⟨by omega, fun ⟨x, hx, q1, q2⟩ => ?_⟩
      rcases List.mem_cons.mp hx with z | z
      · rw [z, hp] at q2; cases q2
      · have := i2 ⟨x, z, q1, q2⟩; omega
    | false =>
      rw [List.filter_cons_of_neg (by rw [hp]; decide)]
      cases hq : q a with
      | true => rw [List.filter_cons_of_pos hq, List.length_cons]; exact ⟨by omega, fun _ => by omega⟩
      | false =>
        rw [List.filter_cons_of_neg (by rw [hq]; decide)]
        refine ⟨i1, fun ⟨x, hx, q1, q2⟩ => ?_⟩
        rcases List.mem_cons.mp hx with z | z
        · rw [z, hq] at q1; cases q1
        · exact i2 ⟨x, z, q1, q2⟩
theorem pc8_lt {a b : Nat} (hb : b < 2 ^ 8) (h : qSub a b) (hne : a ≠ b) : pc8 a < pc8 b := by
  unfold pc8
  refine (filt_lt (l := List.range 8) (p := fun k => a.testBit k) (q := fun k => b.testBit k) (fun x _ hx => qSub_t.mp h x hx)).2 ?_
  refine Classical.byContradiction (fun hno => hne (Nat.eq_of_testBit_eq (fun k => ?_)))
  by_cases ck : k < 8
  · cases ha : a.testBit k with
    | true => exact (qSub_t.mp h k ha).symm
    | false =>
      cases hbk : b.testBit k with
      | false => rfl
      | true => exact absurd ⟨k, List.mem_range.mpr ck, hbk, ha⟩ hno
  · have hbk : b.testBit k = false := Nat.testBit_lt_two_pow (Nat.lt_of_lt_of_le hb (Nat.pow_le_pow_right (by decide) (by omega)))
    cases ha : a.testBit k with
    | true => have := qSub_t.mp h k ha; rw [hbk] at this; cases this
    | false => exact hbk.symm
theorem qCi_fix {nv : Nat} {Ls : List pLt} (hnv : nv ≤ 8) (hw : ∀ y ∈ Ls, wLv nv y) : ∀ (k b : Nat), b < 2 ^ 8 → 8 < k + pc8 b → qCl Ls (qCi Ls k b) = qCi Ls k b ∧ qCi Ls k b < 2 ^ 8
  | 0, b, hb, h => by have := pc8_le b; omega
  | k + 1, b, hb, h => by
    obtain ⟨a1, a2⟩ := qCl_up hnv hw hb
    by_cases c : b = qCl Ls b
    · have : ∀ j, qCi Ls j b = b := fun j => by
        induction j with
        | zero => rfl
        | succ j ih => show qCi Ls j (qCl Ls b) = b; rw [← c]; exact ih
      rw [this]
      exact ⟨c.symm, hb⟩
    · have := pc8_lt a2 a1 c
      exact qCi_fix hnv hw k (qCl Ls b) a2 (by omega)
