/-! THE CLASS: members and readings of a RING, bit by bit -/
theorem qMb_t (T : Nat → Nat) (g j : Nat) : ∀ k, (qMb T g k).testBit j = true ↔ j < k ∧ qRing T j = g
  | 0 => by
    rw [show qMb T g 0 = 0 from rfl, Nat.zero_testBit]
    exact ⟨fun q => (by cases q), fun q => absurd q.1 (Nat.not_lt_zero j)⟩
  | k + 1 => by
    rw [show qMb T g (k + 1) = qMb T g k ||| (if qRing T k = g then 2 ^ k else 0) from rfl, Nat.testBit_or, Bool.or_eq_true, qMb_t T g j k]
    by_cases c : qRing T k = g
    · rw [if_pos c, tb_2]
      constructor
      · rintro (⟨h1, h2⟩ | h1)
        · exact ⟨by omega, h2⟩
        · rw [h1]; exact ⟨Nat.lt_succ_self k, c⟩
      · rintro ⟨h1, h2⟩
        by_cases cj : j = k
        · exact .inr cj
        · exact .inl ⟨by omega, h2⟩
    · rw [if_neg c, Nat.zero_testBit]
      constructor
      · rintro (⟨h1, h2⟩ | h1)
        · exact ⟨by omega, h2⟩
        · cases h1
      · rintro ⟨h1, h2⟩
        by_cases cj : j = k
        · rw [cj] at h2; exact absurd h2 c
        · exact .inl ⟨by omega, h2⟩
theorem qMr_t (T D : Nat → Nat) (g j : Nat) : ∀ k, (qMr T D g k).testBit j = true ↔ ∃ p, p < k ∧ qRing T p = g ∧ (D p).testBit j = true
  | 0 => by
    rw [show qMr T D g 0 = 0 from rfl, Nat.zero_testBit]
    exact ⟨fun q => (by cases q), fun ⟨p, q, _⟩ => absurd q (Nat.not_lt_zero p)⟩
  | k + 1 => by
    rw [show qMr T D g (k + 1) = qMr T D g k ||| (if qRing T k = g then D k else 0) from rfl, Nat.testBit_or, Bool.or_eq_true, qMr_t T D g j k]
    by_cases c : qRing T k = g
    · rw [if_pos c]
      constructor
      · rintro (⟨p, h1, h2⟩ | h1)
        · exact ⟨p, by omega, h2⟩
        · exact ⟨k, Nat.lt_succ_self k, c, h1⟩
      · rintro ⟨p, h1, h2, h3⟩
        by_cases cp : p = k
        · rw [cp] at h3; exact .inr h3
        · exact .inl ⟨p, by omega, h2, h3⟩
    · rw [if_neg c, Nat.zero_testBit]
      constructor
      · rintro (⟨p, h1, h2⟩ | h1)
        · exact ⟨p, by omega, h2⟩
        · cases h1
      · rintro ⟨p, h1, h2, h3⟩
        by_cases cp : p = k
        · rw [cp] at h2; exact absurd h2 c
        · exact .inl ⟨p, by omega, h2, h3⟩
