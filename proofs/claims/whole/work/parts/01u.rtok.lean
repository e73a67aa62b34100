/-! The reference's words on the TOKEN at which it is -/
section
variable {f : Nat} {G : xG_} {L : Nat → Int}
theorem l_bad : g211 f (xlx G L) = some (if L 7 = -1 then 0 else 1, xlx G L) := by
  unfold g211 g211_13
  simp only [xlx_2, xlx_3, xlx_4, xlx_5, xlx_6, xlx_7, xlx_8, xlx_9, xlx_10, xlx_u2, xlx_u3, xlx_u4, xlx_u5, xlx_u6, xlx_u7, xlx_u8, xlx_u9, xlx_u10, xu_e, eq_self, reduceIte, Nat.reduceEqDiff, if_true, if_false, not_true_eq_false, not_false_eq_true, Option.bind_some]
  grind
theorem l_fail (a : Int) : g210 f a (xlx G L) = some (xlx G (if L 7 = -1 then xu L 7 a else L)) := by
  unfold g210 g210_13
  simp only [xlx_2, xlx_3, xlx_4, xlx_5, xlx_6, xlx_7, xlx_8, xlx_9, xlx_10, xlx_u2, xlx_u3, xlx_u4, xlx_u5, xlx_u6, xlx_u7, xlx_u8, xlx_u9, xlx_u10, xu_e, eq_self, reduceIte, Nat.reduceEqDiff, if_true, if_false, not_true_eq_false, not_false_eq_true, Option.bind_some]
  grind
theorem l_sign (c : Int) : g220 f c (xlx G L) = some (if L 7 = -1 ∧ L 2 = 6 ∧ L 3 = c then 1 else 0, xlx G L) := by
  unfold g220 g220_28 g220_29
  simp only [xlx_2, xlx_3, xlx_4, xlx_5, xlx_6, xlx_7, xlx_8, xlx_9, xlx_10, xlx_u2, xlx_u3, xlx_u4, xlx_u5, xlx_u6, xlx_u7, xlx_u8, xlx_u9, xlx_u10, xu_e, eq_self, reduceIte, Nat.reduceEqDiff, if_true, if_false, not_true_eq_false, not_false_eq_true, Option.bind_some, l_bad]
  grind
theorem l_kind (k : Int) : g221 f k (xlx G L) = some (if L 7 = -1 ∧ L 2 = k then 1 else 0, xlx G L) := by
  unfold g221 g221_19 g221_20
  simp only [xlx_2, xlx_3, xlx_4, xlx_5, xlx_6, xlx_7, xlx_8, xlx_9, xlx_10, xlx_u2, xlx_u3, xlx_u4, xlx_u5, xlx_u6, xlx_u7, xlx_u8, xlx_u9, xlx_u10, xu_e, eq_self, reduceIte, Nat.reduceEqDiff, if_true, if_false, not_true_eq_false, not_false_eq_true, Option.bind_some, l_bad]
  grind
theorem l_word (x : Int) : g225 f x (xlx G L) = some (if L 7 = -1 ∧ L 2 = 2 ∧ L 9 = x then 1 else 0, xlx G L) := by
  unfold g225 g225_21 g225_22
  simp only [xlx_2, xlx_3, xlx_4, xlx_5, xlx_6, xlx_7, xlx_8, xlx_9, xlx_10, xlx_u2, xlx_u3, xlx_u4, xlx_u5, xlx_u6, xlx_u7, xlx_u8, xlx_u9, xlx_u10, xu_e, eq_self, reduceIte, Nat.reduceEqDiff, if_true, if_false, not_true_eq_false, not_false_eq_true, Option.bind_some, l_kind]
  grind
/-- the numbers of the words with a meaning -/
def rC (G : xG_) : Prop := G 0 12 = 19558354 ∧ G 0 13 = 1233436738 ∧ G 0 14 = 16099 ∧ G 0 15 = 20806 ∧ G 0 16 = 7109364 ∧ G 0 17 = 28247 ∧ G 0 18 = 25298178 ∧ G 0 19 = 735738 ∧ G 0 20 = 348
theorem xlx_o (G : xG_) (L : Nat → Int) {o i : Nat} (h : ¬ (o = 0 ∧ 2 ≤ i ∧ i ≤ 10)) : xlx G L o i = G o i := if_neg h
theorem l_name (hC : rC G) : g226 f (xlx G L) = some (if L 7 = -1 ∧ L 2 = 2 ∧ tres (L 9) = 1 then 1 else 0, xlx G L) := by
  obtain ⟨h12, h13, h14, h15, h16, h17, h18, h19, _⟩ := hC
  unfold g226 g226_23 g226_24
  simp only [xlx_2, xlx_3, xlx_4, xlx_5, xlx_6, xlx_7, xlx_8, xlx_9, xlx_10, xlx_u2, xlx_u3, xlx_u4, xlx_u5, xlx_u6, xlx_u7, xlx_u8, xlx_u9, xlx_u10, xu_e, eq_self, reduceIte, Nat.reduceEqDiff, if_true, if_false, not_true_eq_false, not_false_eq_true, Option.bind_some, l_kind]
  unfold g224 g224_72 g224_77
  rw [xlx_o G L (i := 12) (by decide), xlx_o G L (i := 13) (by decide), xlx_o G L (i := 14) (by decide), xlx_o G L (i := 15) (by decide), xlx_o G L (i := 16) (by decide), xlx_o G L (i := 17) (by decide), xlx_o G L (i := 18) (by decide), xlx_o G L (i := 19) (by decide), h12, h13, h14, h15, h16, h17, h18, h19]
  by_cases c1 : L 7 = -1
  · by_cases c2 : L 2 = 2
    · simp only [c1, c2, true_and, and_self, if_true]
      unfold tres
      by_cases a1 : L 9 = 19558354
      · simp [a1]
      by_cases a2 : L 9 = 1233436738
      · simp [a2]
      by_cases a3 : L 9 = 16099
      · simp [a3]
      by_cases a4 : L 9 = 20806
      · simp [a4]
      by_cases a5 : L 9 = 7109364
      · simp [a5]
      by_cases a6 : L 9 = 28247
      · simp [a6]
      by_cases a7 : L 9 = 25298178
      · simp [a7]
      by_cases a8 : L 9 = 735738
      · simp [a8]
      simp [a1, a2, a3, a4, a5, a6, a7, a8]
    · simp [c2]
  · simp [c1]
end
/-- signs as the reference has them -/
def rsc (c : Int) : Int := if 256 ≤ c then c + 44 else c
def isSg (c : Int) : Prop := c = 40 ∨ c = 41 ∨ c = 44 ∨ c = 46 ∨ c = 47 ∨ c = 58 ∨ c = 43 ∨ c = 45 ∨ c = 42 ∨ c = 37 ∨ c = 61 ∨ c = 60 ∨ c = 62 ∨ c = 256 ∨ c = 257 ∨ c = 258 ∨ c = 259
/-- at the i-th TOKEN of the text -/
def rAt (q : Nat) (B : Nat → Int) (n : Nat) (lm : Bool) (i : Nat) (L : Nat → Int) : Prop := L 7 = -1 ∧ rTk q B n (tS B n i) (0 ≤ B (tS B n i) ∧ lm = true ∧ 62 ≤ i) L ∧ i ≤ tS B n i ∧ 0 ≤ L 8 ∧ L 8 ≤ (i : Int) + 1 ∧ (lm = true → L 8 = (i : Int) - 1)
theorem tres_in (c : Int) : tres c = 1 ∨ (6 ≤ tres c ∧ tres c ≤ 13) := by
  unfold tres
  repeat' split
  all_goals omega
theorem tsgn_in (c d : Int) : tsgn c d = 3 ∧ c = 95 ∨ tsgn c d = 5 ∨ isSg (tsgn c d) := by
  unfold tsgn isSg
  repeat' split
  all_goals omega
/-- what a TOKEN's fields tell, in the words of the TOKENS -/
def rTK (q : Nat) (t : tStr) (i : Nat) (L : Nat → Int) : Prop :=
  L 4 = (q : Int) + kS t i ∧ (∀ c, isSg c → (L 2 = 6 ∧ L 3 = rsc c ↔ kK t i = c)) ∧ (L 2 = 2 ↔ kK t i = 1 ∨ 6 ≤ kK t i ∧ kK t i ≤ 13) ∧ (L 2 = 3 ↔ kK t i = 2) ∧ (L 2 = 4 ↔ kK t i = 3) ∧ (L 2 = 5 ↔ kK t i = 4 ∧ kC t i ≤ 1000000000000) ∧ (L 2 = 0 ↔ kK t i = 0) ∧
  (L 2 = 2 → L 9 = kC t i ∧ L 10 = kW t i ∧ tres (kC t i) = kK t i) ∧ (L 2 = 3 → L 9 = kC t i) ∧ (L 2 = 5 → L 9 = kC t i) ∧
  L 6 = (if L 2 = 2 ∧ 12 < kE t i - kS t i then (q : Int) + kS t i + 12 else if L 2 = 3 ∧ 8 < kE t i - kS t i then (q : Int) + kS t i + 8 else -1) ∧ (kK t i ≠ 5 → L 5 = (q : Int) + kE t i) ∧ (kK t i ≠ 0 → kS t i < kE t i) ∧ (L 2 = 6 → isSg (kK t i) ∧ L 3 = rsc (kK t i))
theorem rAt.tk {q n i : Nat} {B : Nat → Int} {lm : Bool} {L : Nat → Int} (hB : tTx B n) (h : rAt q B n lm i L) : rTK q (tstr B n lm) i L := by
  obtain ⟨_, ⟨h4, h2, h5, h6, h3, h9, h10⟩, _⟩ := h
  have hS := tS_le hB i
  have hen := ten_le hB hS.1
  have eS : kS (tstr B n lm) i = tS B n i := rfl
  have eE : kE (tstr B n lm) i = ten B n (tS B n i) := rfl
  have eC : kC (tstr B n lm) i = tco B n (tS B n i) := rfl
  have eW : kW (tstr B n lm) i = tse B n (tS B n i) := rfl
  have eK : kK (tstr B n lm) i = if 0 ≤ B (tS B n i) ∧ lm = true ∧ 62 ≤ i then 5 else tkd B n (tS B n i) := rfl
  unfold rTK
  rw [eS, eE, eC, eW, eK]
  by_cases cb : 0 ≤ B (tS B n i) ∧ lm = true ∧ 62 ≤ i
  · simp only [if_pos cb] at h2 h5 h6 ⊢
    rw [h2, h5, h6]
    refine ⟨h4, ?_, by omega, by omega, by omega, by omega, by omega, by omega, by omega, by omega, ?_, by omega, fun _ => hen.2.2 cb.1, by omega⟩
    · intro c hc
      unfold isSg at hc
      omega
    · simp
  · simp only [if_neg cb] at h2 h5 h6 ⊢
    replace h3 := h3 cb
    replace h9 := h9 cb
    replace h10 := h10 cb
    clear cb eK eS eE eC eW hB
    generalize tS B n i = s at *
    have h6' := h6
    unfold rwr at h6
    by_cases c1 : B s < 0
    · have k1 : rkd B n s = 0 := if_pos c1
      have k2 : tkd B n s = 0 := if_pos c1
      have k3 : ¬ tSm (B s) := by unfold tSm; omega
      have k4 : ¬ tGr (B s) := by unfold tGr; omega
      rw [k1] at h2
      rw [if_neg (fun q => k3 q.1), if_neg (fun q => k4 q.1)] at h6
      rw [k2, h2, h6]
      refine ⟨h4, ?_, by omega, by omega, by omega, by omega, by omega, by omega, by omega, by omega, ?_, fun _ => h5, by omega, by omega⟩
      · intro c hc
        unfold isSg at hc
        omega
      · simp
    · have hlt := hen.2.2 (by omega)
      by_cases c2 : tSm (B s)
      · have k1 : rkd B n s = 2 := by unfold rkd; rw [if_neg c1, if_pos c2]
        have k2 : tkd B n s = tres (tco B n s) := by unfold tkd tco; rw [if_neg c1, if_pos c2, if_pos c2]
        have k3 := tres_in (tco B n s)
        have k4 : ¬ tGr (B s) := by unfold tGr; unfold tSm at c2; omega
        rw [k1] at h2
        rw [← k2] at k3
        refine ⟨h4, ?_, by omega, by omega, by omega, by omega, by omega, fun _ => ⟨h9 (by omega), h10 k1, k2.symm⟩, by omega, by omega, ?_, fun _ => h5, fun _ => hlt, by omega⟩
        · intro c hc
          unfold isSg at hc
          omega
        · rw [h6, h2]
          grind
      · by_cases c3 : tGr (B s)
        · have k1 : rkd B n s = 3 := by unfold rkd; rw [if_neg c1, if_neg c2, if_pos c3]
          have k2 : tkd B n s = 2 := by unfold tkd; rw [if_neg c1, if_neg c2, if_pos c3]
          rw [k1] at h2
          rw [k2]
          refine ⟨h4, ?_, by omega, by omega, by omega, by omega, by omega, by omega, fun _ => h9 (by omega), by omega, ?_, fun _ => h5, fun _ => hlt, by omega⟩
          · intro c hc
            unfold isSg at hc
            omega
          · rw [h6, h2]
            grind
        · rw [if_neg (fun q => c2 q.1), if_neg (fun q => c3 q.1)] at h6
          by_cases c4 : tDi (B s)
          · have k1 : rkd B n s = if tco B n s ≤ 1000000000000 then 5 else 1 := by unfold rkd; rw [if_neg c1, if_neg c2, if_neg c3, if_pos c4]
            have k2 : tkd B n s = 4 := by unfold tkd; rw [if_neg c1, if_neg c2, if_neg c3, if_pos c4]
            rw [k2]
            by_cases c5 : tco B n s ≤ 1000000000000
            · rw [if_pos c5] at k1
              rw [k1] at h2
              refine ⟨h4, ?_, by omega, by omega, by omega, by omega, by omega, by omega, by omega, fun _ => h9 (by omega), ?_, fun _ => h5, fun _ => hlt, by omega⟩
              · intro c hc
                unfold isSg at hc
                omega
              · rw [h6, h2]
                simp
            · rw [if_neg c5] at k1
              rw [k1] at h2
              refine ⟨h4, ?_, by omega, by omega, by omega, by omega, by omega, by omega, by omega, by omega, ?_, fun _ => h5, fun _ => hlt, by omega⟩
              · intro c hc
                unfold isSg at hc
                omega
              · rw [h6, h2]
                simp
          · have k2 : tkd B n s = tsgn (B s) (B (s + 1)) := by unfold tkd; rw [if_neg c1, if_neg c2, if_neg c3, if_neg c4]
            have k3 := tsgn_in (B s) (B (s + 1))
            have k1 : rkd B n s = if B s = 95 then 4 else if tsgn (B s) (B (s + 1)) = 5 then 1 else 6 := by unfold rkd; rw [if_neg c1, if_neg c2, if_neg c3, if_neg c4]
            have k4 : B s = 95 → tsgn (B s) (B (s + 1)) = 3 := by intro e; unfold tsgn; rw [e]; rfl
            rw [← k2] at k3 k1 k4
            have e3 : (if 256 ≤ tkd B n s then tkd B n s + 44 else tkd B n s) = rsc (tkd B n s) := rfl
            rw [e3] at h3
            generalize tkd B n s = k at *
            by_cases c5 : B s = 95
            · rw [if_pos c5] at k1
              rw [k1] at h2
              replace k4 := k4 c5
              refine ⟨h4, ?_, by omega, by omega, by omega, by omega, by omega, by omega, by omega, by omega, ?_, fun _ => h5, fun _ => hlt, by omega⟩
              · intro c hc
                unfold isSg at hc
                omega
              · rw [h6, h2]
                simp
            · rw [if_neg c5] at k1
              by_cases c6 : k = 5
              · rw [if_pos c6] at k1
                rw [k1] at h2
                refine ⟨h4, ?_, by omega, by omega, by omega, by omega, by omega, by omega, by omega, by omega, ?_, fun _ => h5, fun _ => hlt, by omega⟩
                · intro c hc
                  unfold isSg at hc
                  omega
                · rw [h6, h2]
                  simp
              · rw [if_neg c6] at k1
                have hg : isSg k := by
                  rcases k3 with q | q | q
                  · exact absurd q.2 c5
                  · exact absurd q c6
                  · exact q
                replace h3 := h3 k1
                rw [k1] at h2
                have hg2 := hg
                unfold isSg at hg2
                refine ⟨h4, ?_, by omega, by omega, by omega, by omega, by omega, by omega, by omega, by omega, ?_, fun _ => h5, fun _ => hlt, fun _ => ⟨hg, h3⟩⟩
                · intro c hc
                  rw [h2, h3]
                  unfold isSg at hc
                  unfold rsc
                  constructor
                  · intro e
                    have e2 := e.2
                    split at e2 <;> split at e2 <;> omega
                  · intro e
                    rw [e]
                    exact ⟨rfl, rfl⟩
                · rw [h6, h2]
                  simp
