/-! THE CLASS: the TOKENS of a CELL TEXT -/
section
variable {f n N : Nat} {S : Nat → Nat × Nat × Nat} {G : xG_} {m : Nat × Nat} {B : Nat → Int}
theorem kK_tr (i : Nat) : kK (tstr B n true) i = if 0 ≤ B (tS B n i) ∧ 62 ≤ i then 5 else kK (tstr B n false) i := by
  have e1 : kK (tstr B n true) i = if 0 ≤ B (tS B n i) ∧ true = true ∧ 62 ≤ i then 5 else tkd B n (tS B n i) := rfl
  have e2 : kK (tstr B n false) i = tkd B n (tS B n i) := if_neg (fun q => nomatch q.2.1)
  rw [e1, e2]
  by_cases c : 0 ≤ B (tS B n i) ∧ 62 ≤ i
  · rw [if_pos c, if_pos ⟨c.1, rfl, c.2⟩]
  · rw [if_neg c, if_neg (fun q => c ⟨q.1, q.2.2⟩)]
/-- the 63rd TOKEN can't stand -/
theorem cEv_lm (h : cEv S G B n (tstr B n false) N N) (hb : ∀ i, N ≤ i → B (tS B n i) < 0) (hn : ∀ i, i < N → 0 ≤ B (tS B n i)) : cEv S (if N ≤ 62 then G else xup2 G 67 62 5) B n (tstr B n true) N (if N ≤ 62 then N else 62) := by
  obtain ⟨h1, h2, h3, h4, h5, h6, h7⟩ := h
  have g : ∀ a j, ¬ (a = 67 ∧ j = 62 ∧ 62 < N) → (if N ≤ 62 then G else xup2 G 67 62 5) a j = G a j := fun a j q => by
    split
    · rfl
    · exact xup2_n (by omega)
  have hp : cPs (if N ≤ 62 then G else xup2 G 67 62 5) := h2.ge (fun a j hz => g a j (by
    rcases hz with z | z | z | z | z | z | z | ⟨z, z1, z2, k, z3⟩ | z | z | z | ⟨k, z1, z2, z3⟩ <;> omega))
  have ke : ∀ i, N ≤ i → kK (tstr B n true) i = kK (tstr B n false) i := fun i hi => by
    rw [kK_tr, if_neg (fun q => by have := hb i hi; omega)]
  refine ⟨h1, hp, h3.ge (g _ _ (by omega)) (fun p => g _ _ (by omega)), ⟨by rw [g _ _ (by omega)]; exact h4.1, h4.2⟩, fun i hi => ?_, ?_, fun i hi => ?_⟩
  · rw [ke i hi]
    exact h5 i hi
  · by_cases c : N ≤ 62
    · rw [if_pos c]; exact .inl rfl
    · rw [if_neg c]
      refine .inr ⟨by omega, ?_⟩
      rw [kK_tr, if_pos ⟨hn 62 (by omega), Nat.le_refl _⟩]
  · have hi2 : i ≤ N ∧ (N ≤ 62 ∨ i ≤ 62) := by
      split at hi <;> omega
    obtain ⟨⟨a1, a2, a3⟩, a4, a5, a6⟩ := h7 i hi2.1
    have e68 : (if N ≤ 62 then G else xup2 G 67 62 5) 68 i = G 68 i := g _ _ (by omega)
    have e69 : (if N ≤ 62 then G else xup2 G 67 62 5) 69 i = G 69 i := g _ _ (by omega)
    have e70 : (if N ≤ 62 then G else xup2 G 67 62 5) 70 i = G 70 i := g _ _ (by omega)
    have e71 : (if N ≤ 62 then G else xup2 G 67 62 5) 71 i = G 71 i := g _ _ (by omega)
    rw [e68, e69, e70, e71]
    by_cases c : 62 < N ∧ i = 62
    · have k5 : kK (tstr B n true) i = 5 := by
        rw [kK_tr, if_pos ⟨hn i (by omega), by omega⟩]
      rw [k5]
      refine ⟨⟨?_, a2, a3⟩, fun q => by omega, fun q => by omega, a6.1, a6.2.1, a6.2.2.1, fun q => by omega⟩
      rw [if_neg (by omega), c.2, xup2_s]
    · have ek : kK (tstr B n true) i = kK (tstr B n false) i := by
        by_cases ci : i < 62
        · exact kK_lm ci
        · exact ke i (by omega)
      rw [ek, g 67 i (by omega)]
      exact ⟨⟨a1, a2, a3⟩, a4, a5, a6⟩
theorem wS_if : (∀ j : Fin 12, j.val < wL 10 → tNm (wS 10 j.val)) ∧ wL 10 < 12 ∧ tenc 38 xdig (wS 10) 0 (wL 10) = 348 := by decide +kernel
theorem if_spl (hB : tTx B n) {lm : Bool} {i : Nat} (h1 : kK (tstr B n lm) i = 1) : spl B (kS (tstr B n lm) i) (kE (tstr B n lm) i) 10 ↔ kC (tstr B n lm) i = 348 := by
  have hk : tkd B n (tS B n i) = 1 := by
    have e1 : kK (tstr B n lm) i = if 0 ≤ B (tS B n i) ∧ lm = true ∧ 62 ≤ i then 5 else tkd B n (tS B n i) := rfl
    rw [e1] at h1
    split at h1
    · exact absurd h1 (by decide)
    · exact h1
  obtain ⟨b1, b2⟩ := tkd_inv.2 hk
  have hle := (tS_le hB i).1
  have e1 : kE (tstr B n lm) i = tnend B n (tS B n i) := by
    show ten B n (tS B n i) = _
    unfold ten
    rw [if_neg b1, if_pos b2]
  have e2 : kC (tstr B n lm) i = tncode B (tS B n i) (tnend B n (tS B n i)) := by
    show tco B n (tS B n i) = _
    unfold tco
    rw [if_pos b2]
  obtain ⟨w1, w2, w3⟩ := wS_if
  have hr := trun_is (P := tNm) hB (by decide) (n - tS B n i) (tS B n i) (Nat.le_refl _) hle
  rw [e1, e2, ← w3]
  exact spl_code (fun j hj => w1 ⟨j, by omega⟩ hj) w2 hr.2.2.1
end
