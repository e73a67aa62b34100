/-! Mentions: a text of 3000 bytes has fewer than 420 -/
section
variable {B : Nat → Int} {n : Nat} {lm : Bool}
theorem kS_1 (hB : tTx B n) (i : Nat) : kS (tstr B n lm) i ≤ kE (tstr B n lm) i ∧ kE (tstr B n lm) i ≤ kS (tstr B n lm) (i + 1) ∧ kS (tstr B n lm) i ≤ n ∧ (kK (tstr B n lm) i ≠ 0 → kS (tstr B n lm) i + 1 ≤ kS (tstr B n lm) (i + 1)) := by
  have hS := tS_le hB i
  have hen := ten_le hB hS.1
  have hsk := tsk_le hB _ (ten B n (tS B n i)) false rfl hen.2.1
  have e1 : kS (tstr B n lm) i = tS B n i := rfl
  have e2 : kE (tstr B n lm) i = ten B n (tS B n i) := rfl
  have e3 : kS (tstr B n lm) (i + 1) = tsk B n false (ten B n (tS B n i)) := rfl
  rw [e1, e2, e3]
  refine ⟨hen.1, hsk.1, hS.1, fun h => ?_⟩
  have : 0 ≤ B (tS B n i) := by
    by_cases c : B (tS B n i) < 0
    · exfalso
      apply h
      show (if 0 ≤ B (tS B n i) ∧ lm = true ∧ 62 ≤ i then 5 else tkd B n (tS B n i)) = 0
      rw [if_neg (by omega)]
      exact if_pos c
    · omega
  have := hen.2.2 this
  omega
theorem kK_end (hB : tTx B n) {i : Nat} (h : kK (tstr B n lm) i = 0) : kK (tstr B n lm) (i + 1) = 0 := by
  have hS := tS_le hB i
  have k := kK_inv h (by decide)
  have hb : B (tS B n i) < 0 := by
    have k3 := tsgn_in (B (tS B n i)) (B (tS B n i + 1))
    unfold isSg at k3
    have k4 := tres_in (tncode B (tS B n i) (tnend B n (tS B n i)))
    unfold tkd at k
    by_cases c1 : B (tS B n i) < 0
    · exact c1
    rw [if_neg c1] at k
    by_cases c2 : tSm (B (tS B n i))
    · rw [if_pos c2] at k; omega
    rw [if_neg c2] at k
    by_cases c3 : tGr (B (tS B n i))
    · rw [if_pos c3] at k; omega
    rw [if_neg c3] at k
    by_cases c4 : tDi (B (tS B n i))
    · rw [if_pos c4] at k; omega
    rw [if_neg c4] at k; omega
  have e1 : ten B n (tS B n i) = tS B n i := if_pos hb
  have e2 : tS B n (i + 1) = tS B n i := by
    show tsk B n false (ten B n (tS B n i)) = _
    rw [e1, tsk_eq hB _ hS.1, if_pos hb]
  show (if 0 ≤ B (tS B n (i + 1)) ∧ lm = true ∧ 62 ≤ i + 1 then 5 else tkd B n (tS B n (i + 1))) = 0
  rw [e2, if_neg (by omega)]
  exact if_pos hb
theorem kS_add (hB : tTx B n) (i : Nat) : ∀ k, kK (tstr B n lm) (i + k) ≠ 0 → kS (tstr B n lm) i + (k + 1) ≤ kS (tstr B n lm) (i + k + 1) := by
  intro k
  induction k with
  | zero => intro h; have := (kS_1 (lm := lm) hB i).2.2.2 h; omega
  | succ k ih =>
    intro h
    have h0 : kK (tstr B n lm) (i + k) ≠ 0 := fun q => h (kK_end hB q)
    have h1 := ih h0
    have h2 := (kS_1 (lm := lm) hB (i + k + 1)).2.2.2 h
    have : i + (k + 1) + 1 = i + k + 1 + 1 := by omega
    rw [this]
    omega
theorem kS_to (hB : tTx B n) {i j : Nat} (hij : i < j) (h : kK (tstr B n lm) (j - 1) ≠ 0) : kS (tstr B n lm) i + (j - i) ≤ kS (tstr B n lm) j := by
  have h1 := kS_add (lm := lm) hB i (j - i - 1) (by rw [show i + (j - i - 1) = j - 1 by omega]; exact h)
  rw [show i + (j - i - 1) + 1 = j by omega] at h1
  omega
theorem kS_mo (hB : tTx B n) {i j : Nat} (hij : i ≤ j) : kS (tstr B n lm) i ≤ kS (tstr B n lm) j := by
  obtain ⟨k, rfl⟩ : ∃ k, j = i + k := ⟨j - i, by omega⟩
  clear hij
  induction k with
  | zero => exact Nat.le_refl _
  | succ k ih =>
    have := kS_1 (lm := lm) hB (i + k)
    have e : i + (k + 1) = i + k + 1 := by omega
    rw [e]
    omega
/-- a word with a meaning, and a NAME behind it -/
theorem kS_wd (hB : tTx B n) {i : Nat} (hK : 6 ≤ kK (tstr B n lm) i ∧ kK (tstr B n lm) i ≤ 13) (h1 : kK (tstr B n lm) (i + 1) = 1) : (kK (tstr B n lm) i = 6 → kS (tstr B n lm) i + 6 ≤ kS (tstr B n lm) (i + 1)) ∧ (kK (tstr B n lm) i = 7 → kS (tstr B n lm) i + 7 ≤ kS (tstr B n lm) (i + 1)) ∧ (kK (tstr B n lm) i = 9 → kS (tstr B n lm) i + 4 ≤ kS (tstr B n lm) (i + 1)) := by
  have hS := tS_le hB i
  have hkd := kK_inv (lm := lm) (i := i) (B := B) (n := n) rfl (by omega)
  have hsm : tSm (B (tS B n i)) ∧ ¬ B (tS B n i) < 0 := by
    have k3 := tsgn_in (B (tS B n i)) (B (tS B n i + 1))
    unfold isSg at k3
    unfold tkd at hkd
    by_cases c1 : B (tS B n i) < 0
    · rw [if_pos c1] at hkd; omega
    rw [if_neg c1] at hkd
    by_cases c2 : tSm (B (tS B n i))
    · exact ⟨c2, c1⟩
    rw [if_neg c2] at hkd
    by_cases c3 : tGr (B (tS B n i))
    · rw [if_pos c3] at hkd; omega
    rw [if_neg c3] at hkd
    by_cases c4 : tDi (B (tS B n i))
    · rw [if_pos c4] at hkd; omega
    rw [if_neg c4] at hkd; omega
  have eE : kE (tstr B n lm) i = tnend B n (tS B n i) := by show ten B n (tS B n i) = _; unfold ten; rw [if_neg hsm.2, if_pos hsm.1]
  have eS : kS (tstr B n lm) i = tS B n i := rfl
  have hr := trun_is (P := tNm) hB (by decide) (n - tS B n i) (tS B n i) (Nat.le_refl _) hS.1
  have hr1 : tS B n i ≤ tnend B n (tS B n i) := hr.1
  have hrun : ∀ j, tS B n i ≤ j → j < tnend B n (tS B n i) → tNm (B j) := hr.2.2.1
  have hend : ¬ tNm (B (tnend B n (tS B n i))) := hr.2.2.2
  have hgap : kE (tstr B n lm) i + 1 ≤ kS (tstr B n lm) (i + 1) := by
    have h2 := (kS_1 (lm := lm) hB i).2.1
    have hne : kE (tstr B n lm) i ≠ kS (tstr B n lm) (i + 1) := by
      intro e
      obtain ⟨_, c2⟩ := tkd_inv.2 (kK_inv h1 (by decide))
      have e2 : kS (tstr B n lm) (i + 1) = tS B n (i + 1) := rfl
      rw [← e2, ← e, eE] at c2
      exact hend (.inl c2)
    omega
  have hcode : kK (tstr B n lm) i = tres (tncode B (tS B n i) (tnend B n (tS B n i))) := by
    rw [← hkd]
    unfold tkd
    rw [if_neg hsm.2, if_pos hsm.1]
  have hlen : ∀ k, k ≤ 11 → tnend B n (tS B n i) - tS B n i ≤ k → tncode B (tS B n i) (tnend B n (tS B n i)) < 38 ^ k := by
    intro k hk hl
    have h3 := tenc_in (b := 38) (d := xdig) (B := B) (s := tS B n i) (by decide) (min (tnend B n (tS B n i) - tS B n i) 12) (fun j hj => tNm_dig (hrun _ (by omega) (by omega)))
    have h4 : (38 : Int) ^ (min (tnend B n (tS B n i) - tS B n i) 12) ≤ 38 ^ k := by
      have : (38 : Nat) ^ (min (tnend B n (tS B n i) - tS B n i) 12) ≤ 38 ^ k := Nat.pow_le_pow_right (by decide) (by omega)
      exact_mod_cast this
    exact Int.lt_of_lt_of_le h3.2 h4
  have hin := @tres_inv (tncode B (tS B n i) (tnend B n (tS B n i)))
  rw [← hcode] at hin
  have e4 : (38 : Int) ^ 4 = 2085136 := by decide
  have e5 : (38 : Int) ^ 5 = 79235168 := by decide
  have e2 : (38 : Int) ^ 2 = 1444 := by decide
  refine ⟨fun h => ?_, fun h => ?_, fun h => ?_⟩
  · have := hin.1 h
    by_cases c : tnend B n (tS B n i) - tS B n i ≤ 4
    · have := hlen 4 (by omega) c
      omega
    · omega
  · have := hin.2.1 h
    by_cases c : tnend B n (tS B n i) - tS B n i ≤ 5
    · have := hlen 5 (by omega) c
      omega
    · omega
  · have := hin.2.2.2.1 h
    by_cases c : tnend B n (tS B n i) - tS B n i ≤ 2
    · have := hlen 2 (by omega) c
      omega
    · omega
end
