/-! The reference reads LITERALS -/
theorem tres_inv {x : Int} : (tres x = 6 → x = 19558354) ∧ (tres x = 7 → x = 1233436738) ∧ (tres x = 8 → x = 16099) ∧ (tres x = 9 → x = 20806) ∧ (tres x = 10 → x = 7109364) ∧ (tres x = 11 → x = 28247) ∧ (tres x = 12 → x = 25298178) ∧ (tres x = 13 → x = 735738) := by
  unfold tres
  by_cases a1 : x = 19558354
  · simp [a1]
  by_cases a2 : x = 1233436738
  · simp [a2]
  by_cases a3 : x = 16099
  · simp [a3]
  by_cases a4 : x = 20806
  · simp [a4]
  by_cases a5 : x = 7109364
  · simp [a5]
  by_cases a6 : x = 28247
  · simp [a6]
  by_cases a7 : x = 25298178
  · simp [a7]
  by_cases a8 : x = 735738
  · simp [a8]
  simp [a1, a2, a3, a4, a5, a6, a7, a8]
section
variable {f q n o r i : Nat} {B : Nat → Int} {lm : Bool} {G G' : xG_} {L : Nat → Int}
theorem rAt.isname (hE : rEv G q B n lm o) (hA : rAt q B n lm i L) : g226 f (xlx G L) = some (if kK (tstr B n lm) i = 1 then 1 else 0, xlx G L) := by
  obtain ⟨t4, tsg, tn, tv, tu, tnum, tend, tn9, tv9, tnum9, t6, t5, tlt, t3⟩ := hA.tk hE.1.2.1
  rw [l_name hE.2.2.1]
  have : (L 7 = -1 ∧ L 2 = 2 ∧ tres (L 9) = 1) ↔ kK (tstr B n lm) i = 1 := by
    constructor
    · rintro ⟨_, a, b⟩
      have := tn9 a
      rw [← this.2.2, ← this.1]; exact b
    · intro c3
      have k2 := tn.mpr (.inl c3)
      have k9 := tn9 k2
      exact ⟨hA.1, k2, by rw [k9.1, k9.2.2]; exact c3⟩
  simp only [this]
theorem rAt.isword {c k : Int} (hE : rEv G q B n lm o) (hA : rAt q B n lm i L) (h1 : tres c = k) (h2 : ∀ x, tres x = k → x = c) (hk : 6 ≤ k ∧ k ≤ 13) : g225 f c (xlx G L) = some (if kK (tstr B n lm) i = k then 1 else 0, xlx G L) := by
  obtain ⟨t4, tsg, tn, tv, tu, tnum, tend, tn9, tv9, tnum9, t6, t5, tlt, t3⟩ := hA.tk hE.1.2.1
  rw [l_word]
  have : (L 7 = -1 ∧ L 2 = 2 ∧ L 9 = c) ↔ kK (tstr B n lm) i = k := by
    constructor
    · rintro ⟨_, a, b⟩
      have := tn9 a
      rw [← this.2.2, ← this.1, b]; exact h1
    · intro c3
      have k2 := tn.mpr (.inr (by rw [c3]; exact hk))
      have k9 := tn9 k2
      exact ⟨hA.1, k2, by rw [k9.1]; exact h2 _ (by rw [k9.2.2]; exact c3)⟩
  simp only [this]
theorem rAt.issign {c : Int} (hE : rEv G q B n lm o) (hA : rAt q B n lm i L) (hc : isSg c) : g220 f (rsc c) (xlx G L) = some (if kK (tstr B n lm) i = c then 1 else 0, xlx G L) := by
  have := (hA.tk hE.1.2.1).2.1 c hc
  rw [l_sign]
  simp only [hA.1, true_and, this]
theorem rAt.at4 (hE : rEv G q B n lm o) (hA : rAt q B n lm i L) : L 4 = (q : Int) + kS (tstr B n lm) i := (hA.tk hE.1.2.1).1
/-- a NAME -/
theorem rAt.nm (hE : rEv G q B n lm o) (hA : rAt q B n lm i L) (hK : kK (tstr B n lm) i = 1) : L 9 = kC (tstr B n lm) i ∧ L 10 = kW (tstr B n lm) i ∧ L 6 = (if 12 < kE (tstr B n lm) i - kS (tstr B n lm) i then (q : Int) + kS (tstr B n lm) i + 12 else -1) := by
  obtain ⟨t4, tsg, tn, tv, tu, tnum, tend, tn9, tv9, tnum9, t6, t5, tlt, t3⟩ := hA.tk hE.1.2.1
  have k2 := tn.mpr (.inl hK)
  refine ⟨(tn9 k2).1, (tn9 k2).2.1, ?_⟩
  rw [t6, k2]
  simp
theorem rAt.wd (hf : n + 20 < f) (hE : rEv G q B n lm o) (hA : rAt q B n lm i L) (hK : 6 ≤ kK (tstr B n lm) i ∧ kK (tstr B n lm) i ≤ 13) : ∃ L', g213 f (xlx G L) = some (xlx G L') ∧ rAt q B n lm (i + 1) L' := by
  obtain ⟨t4, tsg, tn, tv, tu, tnum, tend, tn9, tv9, tnum9, t6, t5, tlt, t3⟩ := hA.tk hE.1.2.1
  have k2 := tn.mpr (.inr hK)
  have k9 := tn9 k2
  have hS := tS_le hE.1.2.1 i
  have h6 : L 6 = -1 := by
    rw [t6, k2]
    rw [if_neg, if_neg (by omega)]
    rintro ⟨_, h12⟩
    have hkd := kK_inv (lm := lm) (i := i) (B := B) (n := n) rfl (by omega)
    have hsm : tSm (B (tS B n i)) ∧ ¬ B (tS B n i) < 0 := by
      have k3 := tsgn_in (B (tS B n i)) (B (tS B n i + 1))
      unfold isSg at k3
      unfold tkd at hkd
      by_cases c1 : B (tS B n i) < 0
      · rw [if_pos c1] at hkd; omega
      rw [if_neg c1] at hkd
      by_cases c2 : tSm (B (tS B n i))
      · exact ⟨c2, c1⟩
      rw [if_neg c2] at hkd
      by_cases c3 : tGr (B (tS B n i))
      · rw [if_pos c3] at hkd; omega
      rw [if_neg c3] at hkd
      by_cases c4 : tDi (B (tS B n i))
      · rw [if_pos c4] at hkd; omega
      rw [if_neg c4] at hkd; omega
    have eE : kE (tstr B n lm) i = tnend B n (tS B n i) := by show ten B n (tS B n i) = _; unfold ten; rw [if_neg hsm.2, if_pos hsm.1]
    have eS : kS (tstr B n lm) i = tS B n i := rfl
    rw [eE, eS] at h12
    have hr := trun_is (P := tNm) hE.1.2.1 (by decide) (n - tS B n i) (tS B n i) (Nat.le_refl _) hS.1
    have e38 := tenc_in (b := 38) (d := xdig) (B := B) (s := tS B n i) (by decide) 11 (fun j hj => tNm_dig (hr.2.2.1 _ (by omega) (by have : trun B tNm (n - tS B n i) (tS B n i) = tnend B n (tS B n i) := rfl; omega)))
    have hco : kC (tstr B n lm) i = tenc 38 xdig B (tS B n i) 12 := by
      show tco B n (tS B n i) = _
      unfold tco tncode
      rw [if_pos hsm.1, show min (tnend B n (tS B n i) - tS B n i) 12 = 12 by omega]
    have hlo : ∀ k, k ≤ 12 → 1 ≤ k → 38 ^ (k - 1) ≤ tenc 38 xdig B (tS B n i) k := by
      intro k
      induction k with
      | zero => intro _ h; omega
      | succ k ih =>
        intro hk _
        have hd := tNm_dig (hr.2.2.1 (tS B n i + k) (by omega) (by have : trun B tNm (n - tS B n i) (tS B n i) = tnend B n (tS B n i) := rfl; omega))
        rw [tenc_s]
        cases k with
        | zero => show (1 : Int) ≤ 0 * 38 + _; omega
        | succ k =>
          have := ih (by omega) (by omega)
          have e1 : (38 : Int) ^ (k + 1 + 1 - 1) = 38 ^ k * 38 := Int.pow_succ 38 k
          have e2 : (38 : Int) ^ (k + 1 - 1) = 38 ^ k := rfl
          rw [e1]
          rw [e2] at this
          omega
    have h11 := hlo 12 (by omega) (by omega)
    have e11 : (38 : Int) ^ (12 - 1) = 238572050223552512 := by decide
    rw [e11, ← hco] at h11
    have hin := @tres_inv (kC (tstr B n lm) i)
    rw [k9.2.2] at hin
    omega
  exact l_pass hf hE hA h6 (by omega) (by omega)
end
