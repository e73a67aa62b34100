/-! RINGS: what the closure says; a ring that may be worked next -/
section
variable {np : Nat} {T : Nat → Nat}
theorem qW1_t {m p j : Nat} (hp : p < np) : (qW1 T m np p).testBit j = true ↔ (T p).testBit j = true ∨ ((T p).testBit m = true ∧ (T m).testBit j = true) := by
  unfold qW1
  by_cases c : (T p).testBit m = true
  · rw [if_pos ⟨hp, c⟩, Nat.testBit_or, Bool.or_eq_true]
    constructor
    · rintro (h | h)
      · exact .inl h
      · exact .inr ⟨c, h⟩
    · rintro (h | ⟨_, h⟩)
      · exact .inl h
      · exact .inr h
  · rw [if_neg (fun h => c h.2)]
    constructor
    · exact .inl
    · rintro (h | ⟨h, _⟩)
      · exact h
      · exact absurd h c
theorem qWm_i : ∀ (k : Nat), k ≤ np → (∀ x, x < np → ∀ j, (T x).testBit j = true → (qWm np T k x).testBit j = true) ∧ ∀ j, j < k → ∀ x, x < np → (qWm np T k x).testBit j = true → ∀ y, (qWm np T k j).testBit y = true → (qWm np T k x).testBit y = true
  | 0, _ => ⟨fun _ _ _ h => h, fun j hj => by omega⟩
  | k + 1, hk => by
    obtain ⟨a1, a2⟩ := qWm_i k (by omega)
    refine ⟨fun x hx j h => (qW1_t hx).mpr (.inl (a1 x hx j h)), fun j hj x hx hxj y hjy => ?_⟩
    have hjn : j < np := by omega
    rcases (qW1_t hx).mp hxj with h1 | ⟨h1, h2⟩
    · by_cases cj : j = k
      · rw [cj] at h1 hjy
        rcases (qW1_t (by omega : k < np)).mp hjy with h3 | ⟨_, h3⟩
        · exact (qW1_t hx).mpr (.inr ⟨h1, h3⟩)
        · exact (qW1_t hx).mpr (.inr ⟨h1, h3⟩)
      · rcases (qW1_t hjn).mp hjy with h3 | ⟨h3, h4⟩
        · exact (qW1_t hx).mpr (.inl (a2 j (by omega) x hx h1 y h3))
        · exact (qW1_t hx).mpr (.inr ⟨a2 j (by omega) x hx h1 k h3, h4⟩)
    · by_cases cj : j = k
      · rw [cj] at hjy
        rcases (qW1_t (by omega : k < np)).mp hjy with h3 | ⟨_, h3⟩
        · exact (qW1_t hx).mpr (.inr ⟨h1, h3⟩)
        · exact (qW1_t hx).mpr (.inr ⟨h1, h3⟩)
      · rcases (qW1_t hjn).mp hjy with h3 | ⟨h3, h4⟩
        · exact (qW1_t hx).mpr (.inr ⟨h1, a2 j (by omega) k (by omega) h2 y h3⟩)
        · exact (qW1_t hx).mpr (.inr ⟨h1, h4⟩)
/-- the closure holds all that is read, and goes on -/
theorem qWm_tr : (∀ x, x < np → ∀ j, (T x).testBit j = true → (qWm np T np x).testBit j = true) ∧ ∀ x j y, x < np → j < np → (qWm np T np x).testBit j = true → (qWm np T np j).testBit y = true → (qWm np T np x).testBit y = true := by
  obtain ⟨a1, a2⟩ := qWm_i (T := T) np (Nat.le_refl _)
  exact ⟨a1, fun x j y hx hj h1 h2 => a2 j hj x hx h1 y h2⟩
theorem qRg_is {A : Nat → Nat} {x : Nat} : ∀ (k c : Nat), (∃ y, y < k ∧ qRg A x k c = y ∧ (A x).testBit y = true ∧ (A y).testBit x = true ∧ ∀ z, z < y → ¬ ((A x).testBit z = true ∧ (A z).testBit x = true)) ∨ (qRg A x k c = c ∧ ∀ z, z < k → ¬ ((A x).testBit z = true ∧ (A z).testBit x = true))
  | 0, c => .inr ⟨rfl, fun z hz => by omega⟩
  | k + 1, c => by
    show (∃ y, y < k + 1 ∧ qRg A x k (if (A x).testBit k = true ∧ (A k).testBit x = true then k else c) = y ∧ _) ∨ (qRg A x k (if (A x).testBit k = true ∧ (A k).testBit x = true then k else c) = c ∧ _)
    by_cases h : (A x).testBit k = true ∧ (A k).testBit x = true
    · rw [if_pos h]
      rcases qRg_is k k with ⟨y, y1, y2, y3, y4, y5⟩ | ⟨y1, y2⟩
      · exact .inl ⟨y, by omega, y2, y3, y4, y5⟩
      · exact .inl ⟨k, by omega, y1, h.1, h.2, y2⟩
    · rw [if_neg h]
      rcases qRg_is k c with ⟨y, y1, y2, y3, y4, y5⟩ | ⟨y1, y2⟩
      · exact .inl ⟨y, by omega, y2, y3, y4, y5⟩
      · refine .inr ⟨y1, fun z hz => ?_⟩
        by_cases cz : z = k
        · rw [cz]; exact h
        · exact y2 z (by omega)
def mt (A : Nat → Nat) (x y : Nat) : Prop := x = y ∨ ((A x).testBit y = true ∧ (A y).testBit x = true)
theorem qRing_is (A : Nat → Nat) (x : Nat) : qRing A x ≤ x ∧ mt A x (qRing A x) ∧ ∀ z, z < qRing A x → ¬ mt A x z := by
  unfold qRing
  rcases qRg_is (A := A) (x := x) x x with ⟨y, y1, y2, y3, y4, y5⟩ | ⟨y1, y2⟩
  · rw [y2]
    refine ⟨by omega, .inr ⟨y3, y4⟩, fun z hz h => ?_⟩
    rcases h with h | h
    · omega
    · exact y5 z hz h
  · rw [y1]
    refine ⟨Nat.le_refl _, .inl rfl, fun z hz h => ?_⟩
    rcases h with h | h
    · omega
    · exact y2 z hz h
end
section
variable {np : Nat} {A : Nat → Nat}
theorem mt_tr (hA : ∀ x j y, x < np → j < np → (A x).testBit j = true → (A j).testBit y = true → (A x).testBit y = true) {x y z : Nat} (hx : x < np) (hy : y < np) (hz : z < np) (h1 : mt A x y) (h2 : mt A y z) : mt A x z := by
  rcases h1 with h1 | h1
  · rw [h1]; exact h2
  · rcases h2 with h2 | h2
    · rw [← h2]; exact .inr h1
    · exact .inr ⟨hA x y z hx hy h1.1 h2.1, hA z y x hz hy h2.2 h1.2⟩
theorem mt_sy {x y : Nat} (h : mt A x y) : mt A y x := h.elim (fun h => .inl h.symm) (fun h => .inr ⟨h.2, h.1⟩)
theorem qRing_eq (hA : ∀ x j y, x < np → j < np → (A x).testBit j = true → (A j).testBit y = true → (A x).testBit y = true) {x y : Nat} (hx : x < np) (hy : y < np) (h : mt A x y) : qRing A x = qRing A y := by
  obtain ⟨a1, a2, a3⟩ := qRing_is A x
  obtain ⟨b1, b2, b3⟩ := qRing_is A y
  by_cases c : qRing A x < qRing A y
  · exact absurd (mt_tr hA hy hx (by omega) (mt_sy h) a2) (b3 _ c)
  · by_cases c2 : qRing A y < qRing A x
    · exact absurd (mt_tr hA hx hy (by omega) h b2) (a3 _ c2)
    · omega
theorem qRing_id (hA : ∀ x j y, x < np → j < np → (A x).testBit j = true → (A j).testBit y = true → (A x).testBit y = true) {x : Nat} (hx : x < np) : qRing A (qRing A x) = qRing A x := by
  obtain ⟨a1, a2, a3⟩ := qRing_is A x
  exact (qRing_eq hA hx (by omega) a2).symm
/-- a ring whose readings are worked -/
theorem rdy (hA : ∀ x j y, x < np → j < np → (A x).testBit j = true → (A j).testBit y = true → (A x).testBit y = true) {Rd : Nat → Nat} {dn : Nat} (h1 : ∀ x, x < np → ∀ j, (Rd x).testBit j = true → (A x).testBit j = true ∧ j < np) (hd : ∀ p, p < np → (dn.testBit p = true ↔ dn.testBit (qRing A p) = true)) : ∀ (n r : Nat), (List.range np).countP (fun z => decide (z = r) || (A r).testBit z) ≤ n → r < np → qRing A r = r → dn.testBit r = false → ∃ r, r < np ∧ qRing A r = r ∧ dn.testBit r = false ∧ ∀ p, p < np → qRing A p = r → ∀ y, (Rd p).testBit y = true → dn.testBit y = true ∨ qRing A y = r := by
  intro n
  induction n with
  | zero =>
    intro r hc hr _ _
    exfalso
    have : 0 < (List.range np).countP (fun z => decide (z = r) || (A r).testBit z) := List.countP_pos_iff.mpr ⟨r, List.mem_range.mpr hr, by simp⟩
    omega
  | succ n ih =>
    intro r hc hr hrr hdr
    by_cases c : ∃ p y, p < np ∧ qRing A p = r ∧ (Rd p).testBit y = true ∧ dn.testBit y = false ∧ qRing A y ≠ r
    · obtain ⟨p, y, q1, q2, q3, q4, q5⟩ := c
      obtain ⟨y1, y2⟩ := h1 p q1 y q3
      obtain ⟨a1, a2, a3⟩ := qRing_is A p
      obtain ⟨b1, b2, b3⟩ := qRing_is A y
      rw [q2] at a2
      have hy' : qRing A y < np := by omega
      have ry : (A r).testBit y = true := by
        rcases a2 with e | e
        · rw [← e]; exact y1
        · exact hA r p y hr q1 e.2 y1
      have rr' : (A r).testBit (qRing A y) = true := by
        rcases b2 with e | e
        · rw [← e]; exact ry
        · exact hA r y _ hr y2 ry e.1
      have nr : ¬ (A (qRing A y)).testBit r = true := fun e => by
        have := qRing_eq hA hr hy' (.inr ⟨rr', e⟩)
        rw [hrr, qRing_id hA y2] at this
        exact q5 this.symm
      refine ih (qRing A y) ?_ hy' (qRing_id hA y2) ?_
      · have := countP_lt (p := fun z => decide (z = qRing A y) || (A (qRing A y)).testBit z) (q := fun z => decide (z = r) || (A r).testBit z) (List.range np) (fun z hz hp => by
          simp only [Bool.or_eq_true, decide_eq_true_eq] at hp ⊢
          rcases hp with e | e
          · rw [e]; exact .inr rr'
          · exact .inr (hA r _ z hr hy' rr' e)) ⟨r, List.mem_range.mpr hr, by simp, by
          simp only [Bool.or_eq_false_iff, decide_eq_false_iff_not]
          exact ⟨fun e => q5 e.symm, by cases h : (A (qRing A y)).testBit r with
            | true => exact absurd h nr
            | false => rfl⟩⟩
        omega
      · cases h : dn.testBit (qRing A y) with
        | true => rw [(hd y y2).mpr h] at q4; cases q4
        | false => rfl
    · refine ⟨r, hr, hrr, hdr, fun p hp hpr y hy => ?_⟩
      by_cases c1 : dn.testBit y = true
      · exact .inl c1
      · refine .inr (Classical.byContradiction (fun q => c ⟨p, y, hp, hpr, hy, ?_, q⟩))
        cases h : dn.testBit y with
        | true => exact absurd h c1
        | false => rfl
end
