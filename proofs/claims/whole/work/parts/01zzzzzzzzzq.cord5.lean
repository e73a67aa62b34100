/-! THE CLASS: orderRings() -/
/-- RINGS in their order so far -/
def isOr (T D : Nat → Nat) (np dn : Nat) (O : List Nat) : Prop := dn < 2 ^ 16 ∧ (∀ j, dn.testBit j = true ↔ j < np ∧ qRing T j ∈ O) ∧ O.Nodup ∧ (∀ g, g ∈ O → g < np ∧ qRing T g = g) ∧ ∀ k, k < O.length → ∀ p, p < np → qRing T p = O.getD k 0 → ∀ y, (D p).testBit y = true → y < np → qRing T y = O.getD k 0 ∨ qRing T y ∈ O.take k
def cOr (G : xG_) (q : Nat) (O : List Nat) : Prop := G q 12 = (O.length : Int) ∧ ∀ k, k < O.length → G (q + 9) k = ((O.getD k 0 : Nat) : Int)
/-- all that the RING x reads outside itself is worked -/
def rdyO (T D : Nat → Nat) (np dn x : Nat) : Prop := ∀ p, p < np → qRing T p = x → ∀ y, (D p).testBit y = true → dn.testBit y = true ∨ qRing T y = x
theorem isOr.len {T D : Nat → Nat} {np dn : Nat} {O : List Nat} (h : isOr T D np dn O) : O.length ≤ np := by
  have := nodup_len O (List.range np) h.2.2.1 (fun x hx => List.mem_range.mpr (h.2.2.2.1 x hx).1)
  rw [List.length_range] at this
  exact this
theorem isOr.add {T D : Nat → Nat} {np dn x : Nat} {O : List Nat} (hn : np ≤ 16) (h : isOr T D np dn O) (hx : x < np) (hr : qRing T x = x) (hd : dn.testBit x = false) (hy : rdyO T D np dn x) : isOr T D np (dn ||| qMb T x np) (O ++ [x]) := by
  obtain ⟨a1, a2, a3, a4, a5⟩ := h
  have hxO : x ∉ O := fun y => by
    have := (a2 x).mpr ⟨hx, by rw [hr]; exact y⟩
    rw [hd] at this
    cases this
  refine ⟨Nat.or_lt_two_pow a1 (qMb_16 T x np hn), fun j => ?_, ?_, fun g hg => ?_, fun k hk p hp hpk y hyb hyn => ?_⟩
  · rw [Nat.testBit_or, Bool.or_eq_true, a2, qMb_t, List.mem_append, List.mem_singleton]
    constructor
    · rintro (⟨b1, b2⟩ | ⟨b1, b2⟩)
      · exact ⟨b1, .inl b2⟩
      · exact ⟨b1, .inr b2⟩
    · rintro ⟨b1, b2 | b2⟩
      · exact .inl ⟨b1, b2⟩
      · exact .inr ⟨b1, b2⟩
  · rw [List.nodup_append]
    exact ⟨a3, by simp, fun c hc d hd => by rw [List.mem_singleton] at hd; rw [hd]; exact fun z => hxO (z ▸ hc)⟩
  · rw [List.mem_append, List.mem_singleton] at hg
    rcases hg with g1 | g1
    · exact a4 g g1
    · rw [g1]; exact ⟨hx, hr⟩
  · rw [len1] at hk
    rw [getD_1] at hpk ⊢
    by_cases c : k = O.length
    · rw [if_pos c] at hpk ⊢
      rw [c, List.take_append_of_le_length (Nat.le_refl _), List.take_length]
      rcases hy p hp hpk y hyb with z | z
      · exact .inr ((a2 y).mp z).2
      · exact .inl z
    · rw [if_neg c] at hpk ⊢
      rw [List.take_append_of_le_length (by omega)]
      exact a5 k (by omega) p hp hpk y hyb hyn
theorem rdyO.mo {T D : Nat → Nat} {np dn dn' x : Nat} (h : rdyO T D np dn x) (hs : qSub dn dn') : rdyO T D np dn' x := fun p hp hpx y hy => by
  rcases h p hp hpx y hy with z | z
  · exact .inl (qSub_t.mp hs y z)
  · exact .inr z
